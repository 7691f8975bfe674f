section
-- ===== PART A: goes FIRST, ahead of the names: the tables' words, and 'selects' of the private methods out of them =====
/-- a private method of a class that the tables say can be made, by its rows of tables_1 -/
def lw_okq (q : MethodName × Nat) : Prop := (q.1.cls ≠ "java/lang/invoke/MethodHandle" ∧ q.1.cls ≠ "java/lang/invoke/VarHandle") ∧ Cond.instantiable q.1.cls q.2 ∈ tables_1 ∧ Cond.privateMethod q.1 ∈ tables_1 ∧ Cond.instanceMethod q.1 ∈ tables_1
theorem lw_p0 : lw_okq (⟨"RebusSigns", "turn", "(LRebusSigns$Sign;)V"⟩, 8) := ⟨⟨by decide +kernel, by decide +kernel⟩, List.mem_of_getElem? (i := 20) (by decide +kernel), List.mem_of_getElem? (i := 415) (by decide +kernel), List.mem_of_getElem? (i := 416) (by decide +kernel)⟩
theorem lw_p1 : lw_okq (⟨"RebusSigns$History", "forgetOldest", "()V"⟩, 3) := ⟨⟨by decide +kernel, by decide +kernel⟩, List.mem_of_getElem? (i := 60) (by decide +kernel), List.mem_of_getElem? (i := 423) (by decide +kernel), List.mem_of_getElem? (i := 424) (by decide +kernel)⟩
theorem lw_p2 : lw_okq (⟨"RebusSigns", "lawNumber", "()I"⟩, 8) := ⟨⟨by decide +kernel, by decide +kernel⟩, List.mem_of_getElem? (i := 20) (by decide +kernel), List.mem_of_getElem? (i := 436) (by decide +kernel), List.mem_of_getElem? (i := 437) (by decide +kernel)⟩
theorem lw_p3 : lw_okq (⟨"RebusSigns", "turnLaw", "()V"⟩, 8) := ⟨⟨by decide +kernel, by decide +kernel⟩, List.mem_of_getElem? (i := 20) (by decide +kernel), List.mem_of_getElem? (i := 440) (by decide +kernel), List.mem_of_getElem? (i := 441) (by decide +kernel)⟩
theorem lw_p4 : lw_okq (⟨"RebusSigns", "leastWritingsWith", "(I)I"⟩, 8) := ⟨⟨by decide +kernel, by decide +kernel⟩, List.mem_of_getElem? (i := 20) (by decide +kernel), List.mem_of_getElem? (i := 496) (by decide +kernel), List.mem_of_getElem? (i := 497) (by decide +kernel)⟩
theorem lw_p5 : lw_okq (⟨"RebusSigns$Scribe", "findLeast", "(LRebusSigns$Lexicon;LRebusSigns$Word;LRebusSigns$Row;)V"⟩, 6) := ⟨⟨by decide +kernel, by decide +kernel⟩, List.mem_of_getElem? (i := 76) (by decide +kernel), List.mem_of_getElem? (i := 505) (by decide +kernel), List.mem_of_getElem? (i := 506) (by decide +kernel)⟩
theorem lw_p6 : lw_okq (⟨"RebusSigns$Scribe", "weigh", "(LRebusSigns$Lexicon;LRebusSigns$Word;I)V"⟩, 6) := ⟨⟨by decide +kernel, by decide +kernel⟩, List.mem_of_getElem? (i := 76) (by decide +kernel), List.mem_of_getElem? (i := 510) (by decide +kernel), List.mem_of_getElem? (i := 511) (by decide +kernel)⟩
theorem lw_p7 : lw_okq (⟨"RebusSigns", "clearness", "(I)I"⟩, 8) := ⟨⟨by decide +kernel, by decide +kernel⟩, List.mem_of_getElem? (i := 20) (by decide +kernel), List.mem_of_getElem? (i := 547) (by decide +kernel), List.mem_of_getElem? (i := 548) (by decide +kernel)⟩
theorem lw_p8 : lw_okq (⟨"RebusSigns$Reader", "follow", "(LRebusSigns$Lexicon;ILRebusSigns$Row;I)V"⟩, 5) := ⟨⟨by decide +kernel, by decide +kernel⟩, List.mem_of_getElem? (i := 105) (by decide +kernel), List.mem_of_getElem? (i := 558) (by decide +kernel), List.mem_of_getElem? (i := 559) (by decide +kernel)⟩
theorem lw_p9 : lw_okq (⟨"RebusSigns", "mixedWith", "(II)I"⟩, 8) := ⟨⟨by decide +kernel, by decide +kernel⟩, List.mem_of_getElem? (i := 20) (by decide +kernel), List.mem_of_getElem? (i := 587) (by decide +kernel), List.mem_of_getElem? (i := 588) (by decide +kernel)⟩
theorem lw_p10 : lw_okq (⟨"RebusSigns$Reader", "join", "(II)V"⟩, 5) := ⟨⟨by decide +kernel, by decide +kernel⟩, List.mem_of_getElem? (i := 105) (by decide +kernel), List.mem_of_getElem? (i := 648) (by decide +kernel), List.mem_of_getElem? (i := 649) (by decide +kernel)⟩
theorem lw_p11 : lw_okq (⟨"RebusSigns$Reader", "startOf", "(I)I"⟩, 5) := ⟨⟨by decide +kernel, by decide +kernel⟩, List.mem_of_getElem? (i := 105) (by decide +kernel), List.mem_of_getElem? (i := 677) (by decide +kernel), List.mem_of_getElem? (i := 678) (by decide +kernel)⟩
theorem lw_p12 : lw_okq (⟨"RebusSigns", "writtenWords", "()I"⟩, 8) := ⟨⟨by decide +kernel, by decide +kernel⟩, List.mem_of_getElem? (i := 20) (by decide +kernel), List.mem_of_getElem? (i := 693) (by decide +kernel), List.mem_of_getElem? (i := 694) (by decide +kernel)⟩
theorem lw_p13 : lw_okq (⟨"RebusSigns", "clearWords", "()I"⟩, 8) := ⟨⟨by decide +kernel, by decide +kernel⟩, List.mem_of_getElem? (i := 20) (by decide +kernel), List.mem_of_getElem? (i := 697) (by decide +kernel), List.mem_of_getElem? (i := 698) (by decide +kernel)⟩
theorem lw_p14 : lw_okq (⟨"RebusSigns", "mixedPairs", "()I"⟩, 8) := ⟨⟨by decide +kernel, by decide +kernel⟩, List.mem_of_getElem? (i := 20) (by decide +kernel), List.mem_of_getElem? (i := 701) (by decide +kernel), List.mem_of_getElem? (i := 702) (by decide +kernel)⟩
theorem lw_p15 : lw_okq (⟨"RebusSignsModel", "sign4", "(IIIIII)V"⟩, 20) := ⟨⟨by decide +kernel, by decide +kernel⟩, List.mem_of_getElem? (i := 705) (by decide +kernel), List.mem_of_getElem? (i := 711) (by decide +kernel), List.mem_of_getElem? (i := 712) (by decide +kernel)⟩
def lw_privs_1 : List (MethodName × Nat) := [(⟨"RebusSigns", "turn", "(LRebusSigns$Sign;)V"⟩, 8), (⟨"RebusSigns$History", "forgetOldest", "()V"⟩, 3), (⟨"RebusSigns", "lawNumber", "()I"⟩, 8), (⟨"RebusSigns", "turnLaw", "()V"⟩, 8), (⟨"RebusSigns", "leastWritingsWith", "(I)I"⟩, 8), (⟨"RebusSigns$Scribe", "findLeast", "(LRebusSigns$Lexicon;LRebusSigns$Word;LRebusSigns$Row;)V"⟩, 6), (⟨"RebusSigns$Scribe", "weigh", "(LRebusSigns$Lexicon;LRebusSigns$Word;I)V"⟩, 6), (⟨"RebusSigns", "clearness", "(I)I"⟩, 8), (⟨"RebusSigns$Reader", "follow", "(LRebusSigns$Lexicon;ILRebusSigns$Row;I)V"⟩, 5), (⟨"RebusSigns", "mixedWith", "(II)I"⟩, 8), (⟨"RebusSigns$Reader", "join", "(II)V"⟩, 5), (⟨"RebusSigns$Reader", "startOf", "(I)I"⟩, 5), (⟨"RebusSigns", "writtenWords", "()I"⟩, 8), (⟨"RebusSigns", "clearWords", "()I"⟩, 8), (⟨"RebusSigns", "mixedPairs", "()I"⟩, 8), (⟨"RebusSignsModel", "sign4", "(IIIIII)V"⟩, 20)]
theorem lw_r1 : ∀ q ∈ lw_privs_1, lw_okq q := List.forall_mem_cons.mpr ⟨lw_p0, List.forall_mem_cons.mpr ⟨lw_p1, List.forall_mem_cons.mpr ⟨lw_p2, List.forall_mem_cons.mpr ⟨lw_p3, List.forall_mem_cons.mpr ⟨lw_p4, List.forall_mem_cons.mpr ⟨lw_p5, List.forall_mem_cons.mpr ⟨lw_p6, List.forall_mem_cons.mpr ⟨lw_p7, List.forall_mem_cons.mpr ⟨lw_p8, List.forall_mem_cons.mpr ⟨lw_p9, List.forall_mem_cons.mpr ⟨lw_p10, List.forall_mem_cons.mpr ⟨lw_p11, List.forall_mem_cons.mpr ⟨lw_p12, List.forall_mem_cons.mpr ⟨lw_p13, List.forall_mem_cons.mpr ⟨lw_p14, List.forall_mem_cons.mpr ⟨lw_p15, fun _ h => absurd h List.not_mem_nil⟩⟩⟩⟩⟩⟩⟩⟩⟩⟩⟩⟩⟩⟩⟩⟩
theorem lw_p16 : lw_okq (⟨"RebusSignsModel", "word6", "(IIIIIII)V"⟩, 20) := ⟨⟨by decide +kernel, by decide +kernel⟩, List.mem_of_getElem? (i := 705) (by decide +kernel), List.mem_of_getElem? (i := 715) (by decide +kernel), List.mem_of_getElem? (i := 716) (by decide +kernel)⟩
theorem lw_p17 : lw_okq (⟨"RebusSignsModel", "anew", "()V"⟩, 20) := ⟨⟨by decide +kernel, by decide +kernel⟩, List.mem_of_getElem? (i := 705) (by decide +kernel), List.mem_of_getElem? (i := 719) (by decide +kernel), List.mem_of_getElem? (i := 720) (by decide +kernel)⟩
theorem lw_p18 : lw_okq (⟨"RebusSignsModel", "item", "(I)Z"⟩, 20) := ⟨⟨by decide +kernel, by decide +kernel⟩, List.mem_of_getElem? (i := 705) (by decide +kernel), List.mem_of_getElem? (i := 801) (by decide +kernel), List.mem_of_getElem? (i := 802) (by decide +kernel)⟩
theorem lw_p19 : lw_okq (⟨"RebusSignsModel", "signItem", "(I)Z"⟩, 20) := ⟨⟨by decide +kernel, by decide +kernel⟩, List.mem_of_getElem? (i := 705) (by decide +kernel), List.mem_of_getElem? (i := 805) (by decide +kernel), List.mem_of_getElem? (i := 806) (by decide +kernel)⟩
theorem lw_p20 : lw_okq (⟨"RebusSignsModel", "figure", "(II)Z"⟩, 20) := ⟨⟨by decide +kernel, by decide +kernel⟩, List.mem_of_getElem? (i := 705) (by decide +kernel), List.mem_of_getElem? (i := 809) (by decide +kernel), List.mem_of_getElem? (i := 810) (by decide +kernel)⟩
theorem lw_p21 : lw_okq (⟨"RebusSignsModel", "byteAt", "(I)I"⟩, 20) := ⟨⟨by decide +kernel, by decide +kernel⟩, List.mem_of_getElem? (i := 705) (by decide +kernel), List.mem_of_getElem? (i := 813) (by decide +kernel), List.mem_of_getElem? (i := 814) (by decide +kernel)⟩
theorem lw_p22 : lw_okq (⟨"RebusSignsModel", "gone", "(I)Z"⟩, 20) := ⟨⟨by decide +kernel, by decide +kernel⟩, List.mem_of_getElem? (i := 705) (by decide +kernel), List.mem_of_getElem? (i := 817) (by decide +kernel), List.mem_of_getElem? (i := 818) (by decide +kernel)⟩
theorem lw_p23 : lw_okq (⟨"RebusSignsModel", "letters", "(II)Z"⟩, 20) := ⟨⟨by decide +kernel, by decide +kernel⟩, List.mem_of_getElem? (i := 705) (by decide +kernel), List.mem_of_getElem? (i := 821) (by decide +kernel), List.mem_of_getElem? (i := 822) (by decide +kernel)⟩
theorem lw_p24 : lw_okq (⟨"RebusSignsModel", "wordItem", "()Z"⟩, 20) := ⟨⟨by decide +kernel, by decide +kernel⟩, List.mem_of_getElem? (i := 705) (by decide +kernel), List.mem_of_getElem? (i := 827) (by decide +kernel), List.mem_of_getElem? (i := 828) (by decide +kernel)⟩
theorem lw_p25 : lw_okq (⟨"RebusSignsModel", "isSign", "(I)Z"⟩, 20) := ⟨⟨by decide +kernel, by decide +kernel⟩, List.mem_of_getElem? (i := 705) (by decide +kernel), List.mem_of_getElem? (i := 844) (by decide +kernel), List.mem_of_getElem? (i := 845) (by decide +kernel)⟩
theorem lw_p26 : lw_okq (⟨"RebusSignsModel", "isStruck", "(I)Z"⟩, 20) := ⟨⟨by decide +kernel, by decide +kernel⟩, List.mem_of_getElem? (i := 705) (by decide +kernel), List.mem_of_getElem? (i := 848) (by decide +kernel), List.mem_of_getElem? (i := 849) (by decide +kernel)⟩
theorem lw_p27 : lw_okq (⟨"RebusSignsModel", "note", "()V"⟩, 20) := ⟨⟨by decide +kernel, by decide +kernel⟩, List.mem_of_getElem? (i := 705) (by decide +kernel), List.mem_of_getElem? (i := 852) (by decide +kernel), List.mem_of_getElem? (i := 853) (by decide +kernel)⟩
theorem lw_p28 : lw_okq (⟨"RebusSignsModel", "leastWith", "(I)I"⟩, 20) := ⟨⟨by decide +kernel, by decide +kernel⟩, List.mem_of_getElem? (i := 705) (by decide +kernel), List.mem_of_getElem? (i := 876) (by decide +kernel), List.mem_of_getElem? (i := 877) (by decide +kernel)⟩
theorem lw_p29 : lw_okq (⟨"RebusSignsModel", "leasts", "(I)I"⟩, 20) := ⟨⟨by decide +kernel, by decide +kernel⟩, List.mem_of_getElem? (i := 705) (by decide +kernel), List.mem_of_getElem? (i := 880) (by decide +kernel), List.mem_of_getElem? (i := 881) (by decide +kernel)⟩
theorem lw_p30 : lw_okq (⟨"RebusSignsModel", "mosts", "(I)V"⟩, 20) := ⟨⟨by decide +kernel, by decide +kernel⟩, List.mem_of_getElem? (i := 705) (by decide +kernel), List.mem_of_getElem? (i := 884) (by decide +kernel), List.mem_of_getElem? (i := 885) (by decide +kernel)⟩
theorem lw_p31 : lw_okq (⟨"RebusSignsModel", "explores", "(I)V"⟩, 20) := ⟨⟨by decide +kernel, by decide +kernel⟩, List.mem_of_getElem? (i := 705) (by decide +kernel), List.mem_of_getElem? (i := 888) (by decide +kernel), List.mem_of_getElem? (i := 889) (by decide +kernel)⟩
def lw_privs_2 : List (MethodName × Nat) := [(⟨"RebusSignsModel", "word6", "(IIIIIII)V"⟩, 20), (⟨"RebusSignsModel", "anew", "()V"⟩, 20), (⟨"RebusSignsModel", "item", "(I)Z"⟩, 20), (⟨"RebusSignsModel", "signItem", "(I)Z"⟩, 20), (⟨"RebusSignsModel", "figure", "(II)Z"⟩, 20), (⟨"RebusSignsModel", "byteAt", "(I)I"⟩, 20), (⟨"RebusSignsModel", "gone", "(I)Z"⟩, 20), (⟨"RebusSignsModel", "letters", "(II)Z"⟩, 20), (⟨"RebusSignsModel", "wordItem", "()Z"⟩, 20), (⟨"RebusSignsModel", "isSign", "(I)Z"⟩, 20), (⟨"RebusSignsModel", "isStruck", "(I)Z"⟩, 20), (⟨"RebusSignsModel", "note", "()V"⟩, 20), (⟨"RebusSignsModel", "leastWith", "(I)I"⟩, 20), (⟨"RebusSignsModel", "leasts", "(I)I"⟩, 20), (⟨"RebusSignsModel", "mosts", "(I)V"⟩, 20), (⟨"RebusSignsModel", "explores", "(I)V"⟩, 20)]
theorem lw_r2 : ∀ q ∈ lw_privs_2, lw_okq q := List.forall_mem_cons.mpr ⟨lw_p16, List.forall_mem_cons.mpr ⟨lw_p17, List.forall_mem_cons.mpr ⟨lw_p18, List.forall_mem_cons.mpr ⟨lw_p19, List.forall_mem_cons.mpr ⟨lw_p20, List.forall_mem_cons.mpr ⟨lw_p21, List.forall_mem_cons.mpr ⟨lw_p22, List.forall_mem_cons.mpr ⟨lw_p23, List.forall_mem_cons.mpr ⟨lw_p24, List.forall_mem_cons.mpr ⟨lw_p25, List.forall_mem_cons.mpr ⟨lw_p26, List.forall_mem_cons.mpr ⟨lw_p27, List.forall_mem_cons.mpr ⟨lw_p28, List.forall_mem_cons.mpr ⟨lw_p29, List.forall_mem_cons.mpr ⟨lw_p30, List.forall_mem_cons.mpr ⟨lw_p31, fun _ h => absurd h List.not_mem_nil⟩⟩⟩⟩⟩⟩⟩⟩⟩⟩⟩⟩⟩⟩⟩⟩
theorem lw_p32 : lw_okq (⟨"RebusSignsModel", "meets", "(I)I"⟩, 20) := ⟨⟨by decide +kernel, by decide +kernel⟩, List.mem_of_getElem? (i := 705) (by decide +kernel), List.mem_of_getElem? (i := 892) (by decide +kernel), List.mem_of_getElem? (i := 893) (by decide +kernel)⟩
theorem lw_p33 : lw_okq (⟨"RebusSignsModel", "hasSound", "(I)Z"⟩, 20) := ⟨⟨by decide +kernel, by decide +kernel⟩, List.mem_of_getElem? (i := 705) (by decide +kernel), List.mem_of_getElem? (i := 896) (by decide +kernel), List.mem_of_getElem? (i := 897) (by decide +kernel)⟩
theorem lw_p34 : lw_okq (⟨"RebusSignsModel", "steps", "(III)I"⟩, 20) := ⟨⟨by decide +kernel, by decide +kernel⟩, List.mem_of_getElem? (i := 705) (by decide +kernel), List.mem_of_getElem? (i := 900) (by decide +kernel), List.mem_of_getElem? (i := 901) (by decide +kernel)⟩
theorem lw_p35 : lw_okq (⟨"RebusSignsModel", "skips", "(II)I"⟩, 20) := ⟨⟨by decide +kernel, by decide +kernel⟩, List.mem_of_getElem? (i := 705) (by decide +kernel), List.mem_of_getElem? (i := 904) (by decide +kernel), List.mem_of_getElem? (i := 905) (by decide +kernel)⟩
theorem lw_p36 : lw_okq (⟨"RebusSignsModel", "long1", "(I)I"⟩, 20) := ⟨⟨by decide +kernel, by decide +kernel⟩, List.mem_of_getElem? (i := 705) (by decide +kernel), List.mem_of_getElem? (i := 908) (by decide +kernel), List.mem_of_getElem? (i := 909) (by decide +kernel)⟩
theorem lw_p37 : lw_okq (⟨"RebusSignsModel", "isVowel", "(II)Z"⟩, 20) := ⟨⟨by decide +kernel, by decide +kernel⟩, List.mem_of_getElem? (i := 705) (by decide +kernel), List.mem_of_getElem? (i := 912) (by decide +kernel), List.mem_of_getElem? (i := 913) (by decide +kernel)⟩
theorem lw_p38 : lw_okq (⟨"RebusSignsModel", "letterOf", "(II)I"⟩, 20) := ⟨⟨by decide +kernel, by decide +kernel⟩, List.mem_of_getElem? (i := 705) (by decide +kernel), List.mem_of_getElem? (i := 916) (by decide +kernel), List.mem_of_getElem? (i := 917) (by decide +kernel)⟩
theorem lw_p39 : lw_okq (⟨"RebusSignsModel", "lies", "(III)Z"⟩, 20) := ⟨⟨by decide +kernel, by decide +kernel⟩, List.mem_of_getElem? (i := 705) (by decide +kernel), List.mem_of_getElem? (i := 920) (by decide +kernel), List.mem_of_getElem? (i := 921) (by decide +kernel)⟩
theorem lw_p40 : lw_okq (⟨"RebusSignsModel", "soundLong", "(I)I"⟩, 20) := ⟨⟨by decide +kernel, by decide +kernel⟩, List.mem_of_getElem? (i := 705) (by decide +kernel), List.mem_of_getElem? (i := 924) (by decide +kernel), List.mem_of_getElem? (i := 925) (by decide +kernel)⟩
theorem lw_p41 : lw_okq (⟨"RebusSignsModel", "isWhole", "(II)Z"⟩, 20) := ⟨⟨by decide +kernel, by decide +kernel⟩, List.mem_of_getElem? (i := 705) (by decide +kernel), List.mem_of_getElem? (i := 928) (by decide +kernel), List.mem_of_getElem? (i := 929) (by decide +kernel)⟩
theorem lw_p42 : lw_okq (⟨"RebusSignsModel", "isWord", "(I)Z"⟩, 20) := ⟨⟨by decide +kernel, by decide +kernel⟩, List.mem_of_getElem? (i := 705) (by decide +kernel), List.mem_of_getElem? (i := 936) (by decide +kernel), List.mem_of_getElem? (i := 937) (by decide +kernel)⟩
theorem lw_p43 : lw_okq (⟨"RebusSignsModel", "clear", "(I)I"⟩, 20) := ⟨⟨by decide +kernel, by decide +kernel⟩, List.mem_of_getElem? (i := 705) (by decide +kernel), List.mem_of_getElem? (i := 940) (by decide +kernel), List.mem_of_getElem? (i := 941) (by decide +kernel)⟩
theorem lw_p44 : lw_okq (⟨"RebusSignsModel", "reads", "([III)I"⟩, 20) := ⟨⟨by decide +kernel, by decide +kernel⟩, List.mem_of_getElem? (i := 705) (by decide +kernel), List.mem_of_getElem? (i := 944) (by decide +kernel), List.mem_of_getElem? (i := 945) (by decide +kernel)⟩
theorem lw_p45 : lw_okq (⟨"RebusSignsModel", "isWriting", "(I[III)Z"⟩, 20) := ⟨⟨by decide +kernel, by decide +kernel⟩, List.mem_of_getElem? (i := 705) (by decide +kernel), List.mem_of_getElem? (i := 948) (by decide +kernel), List.mem_of_getElem? (i := 949) (by decide +kernel)⟩
theorem lw_p46 : lw_okq (⟨"RebusSignsModel", "markOf", "(I)I"⟩, 20) := ⟨⟨by decide +kernel, by decide +kernel⟩, List.mem_of_getElem? (i := 705) (by decide +kernel), List.mem_of_getElem? (i := 952) (by decide +kernel), List.mem_of_getElem? (i := 953) (by decide +kernel)⟩
theorem lw_p47 : lw_okq (⟨"RebusSignsModel", "mixed", "(I)I"⟩, 20) := ⟨⟨by decide +kernel, by decide +kernel⟩, List.mem_of_getElem? (i := 705) (by decide +kernel), List.mem_of_getElem? (i := 956) (by decide +kernel), List.mem_of_getElem? (i := 957) (by decide +kernel)⟩
def lw_privs_3 : List (MethodName × Nat) := [(⟨"RebusSignsModel", "meets", "(I)I"⟩, 20), (⟨"RebusSignsModel", "hasSound", "(I)Z"⟩, 20), (⟨"RebusSignsModel", "steps", "(III)I"⟩, 20), (⟨"RebusSignsModel", "skips", "(II)I"⟩, 20), (⟨"RebusSignsModel", "long1", "(I)I"⟩, 20), (⟨"RebusSignsModel", "isVowel", "(II)Z"⟩, 20), (⟨"RebusSignsModel", "letterOf", "(II)I"⟩, 20), (⟨"RebusSignsModel", "lies", "(III)Z"⟩, 20), (⟨"RebusSignsModel", "soundLong", "(I)I"⟩, 20), (⟨"RebusSignsModel", "isWhole", "(II)Z"⟩, 20), (⟨"RebusSignsModel", "isWord", "(I)Z"⟩, 20), (⟨"RebusSignsModel", "clear", "(I)I"⟩, 20), (⟨"RebusSignsModel", "reads", "([III)I"⟩, 20), (⟨"RebusSignsModel", "isWriting", "(I[III)Z"⟩, 20), (⟨"RebusSignsModel", "markOf", "(I)I"⟩, 20), (⟨"RebusSignsModel", "mixed", "(I)I"⟩, 20)]
theorem lw_r3 : ∀ q ∈ lw_privs_3, lw_okq q := List.forall_mem_cons.mpr ⟨lw_p32, List.forall_mem_cons.mpr ⟨lw_p33, List.forall_mem_cons.mpr ⟨lw_p34, List.forall_mem_cons.mpr ⟨lw_p35, List.forall_mem_cons.mpr ⟨lw_p36, List.forall_mem_cons.mpr ⟨lw_p37, List.forall_mem_cons.mpr ⟨lw_p38, List.forall_mem_cons.mpr ⟨lw_p39, List.forall_mem_cons.mpr ⟨lw_p40, List.forall_mem_cons.mpr ⟨lw_p41, List.forall_mem_cons.mpr ⟨lw_p42, List.forall_mem_cons.mpr ⟨lw_p43, List.forall_mem_cons.mpr ⟨lw_p44, List.forall_mem_cons.mpr ⟨lw_p45, List.forall_mem_cons.mpr ⟨lw_p46, List.forall_mem_cons.mpr ⟨lw_p47, fun _ h => absurd h List.not_mem_nil⟩⟩⟩⟩⟩⟩⟩⟩⟩⟩⟩⟩⟩⟩⟩⟩
theorem lw_p48 : lw_okq (⟨"RebusSignsModel", "areMixed", "(II)Z"⟩, 20) := ⟨⟨by decide +kernel, by decide +kernel⟩, List.mem_of_getElem? (i := 705) (by decide +kernel), List.mem_of_getElem? (i := 960) (by decide +kernel), List.mem_of_getElem? (i := 961) (by decide +kernel)⟩
theorem lw_p49 : lw_okq (⟨"RebusSignsModel", "reckons", "()V"⟩, 20) := ⟨⟨by decide +kernel, by decide +kernel⟩, List.mem_of_getElem? (i := 705) (by decide +kernel), List.mem_of_getElem? (i := 990) (by decide +kernel), List.mem_of_getElem? (i := 991) (by decide +kernel)⟩
theorem lw_p50 : lw_okq (⟨"RebusSignsModel", "begins", "(I)I"⟩, 20) := ⟨⟨by decide +kernel, by decide +kernel⟩, List.mem_of_getElem? (i := 705) (by decide +kernel), List.mem_of_getElem? (i := 998) (by decide +kernel), List.mem_of_getElem? (i := 999) (by decide +kernel)⟩
theorem lw_p51 : lw_okq (⟨"RebusSignsModel", "rowFrom", "(I)I"⟩, 20) := ⟨⟨by decide +kernel, by decide +kernel⟩, List.mem_of_getElem? (i := 705) (by decide +kernel), List.mem_of_getElem? (i := 1002) (by decide +kernel), List.mem_of_getElem? (i := 1003) (by decide +kernel)⟩
def lw_privs_4 : List (MethodName × Nat) := [(⟨"RebusSignsModel", "areMixed", "(II)Z"⟩, 20), (⟨"RebusSignsModel", "reckons", "()V"⟩, 20), (⟨"RebusSignsModel", "begins", "(I)I"⟩, 20), (⟨"RebusSignsModel", "rowFrom", "(I)I"⟩, 20)]
theorem lw_r4 : ∀ q ∈ lw_privs_4, lw_okq q := List.forall_mem_cons.mpr ⟨lw_p48, List.forall_mem_cons.mpr ⟨lw_p49, List.forall_mem_cons.mpr ⟨lw_p50, List.forall_mem_cons.mpr ⟨lw_p51, fun _ h => absurd h List.not_mem_nil⟩⟩⟩⟩
def lw_privs : List (MethodName × Nat) := lw_privs_1 ++ (lw_privs_2 ++ (lw_privs_3 ++ (lw_privs_4)))
def lw_tbl : List Cond := k2_sels lw_privs ++ tables_1
theorem lw_privs_ok : ∀ q ∈ lw_privs, lw_okq q := by
  show ∀ q ∈ lw_privs_1 ++ (lw_privs_2 ++ (lw_privs_3 ++ (lw_privs_4))), lw_okq q
  exact List.forall_mem_append.mpr ⟨lw_r1, List.forall_mem_append.mpr ⟨lw_r2, List.forall_mem_append.mpr ⟨lw_r3, lw_r4⟩⟩⟩
-- ===== end of PART A; then your names; then what follows =====
end
section
def RX0 : String := "RebusSigns$History"
def TX0 : u_T := fun k => match k with
  | 0 => ("RebusSigns$History", "kinds", "[I", true)
  | 1 => ("RebusSigns$History", "values", "[I", true)
  | _ => ("RebusSigns$History", "size", "I", false)
def tyX0 : Nat → FieldType := fun k => match k with
  | 0 => .array .int
  | 1 => .array .int
  | _ => .int
abbrev wsX00 : List Cond := u_ws RX0 TX0 3
theorem nmX0 : ∀ a, a < 3 → ∀ b, b < 3 → a ≠ b → (TX0 a).2.1 ≠ (TX0 b).2.1 := by decide +kernel
theorem tyX0_ok : ∀ k, k < 3 → parseFieldDescriptor (TX0 k).2.2.1 = some (tyX0 k) := by decide +kernel
abbrev cX0_init : ByteArray := prog_2_method_1_code
def yX0_init : MethodName := ⟨RX0, "<init>", "()V"⟩
abbrev cX0_size : ByteArray := prog_2_method_2_code
def yX0_size : MethodName := ⟨RX0, "size", "()I"⟩
abbrev cX0_clear : ByteArray := prog_2_method_3_code
def yX0_clear : MethodName := ⟨RX0, "clear", "()V"⟩
abbrev cX0_push : ByteArray := prog_2_method_4_code
def yX0_push : MethodName := ⟨RX0, "push", "(II)V"⟩
abbrev cX0_lastKind : ByteArray := prog_2_method_5_code
def yX0_lastKind : MethodName := ⟨RX0, "lastKind", "()I"⟩
abbrev cX0_lastValue : ByteArray := prog_2_method_6_code
def yX0_lastValue : MethodName := ⟨RX0, "lastValue", "()I"⟩
abbrev cX0_drop : ByteArray := prog_2_method_7_code
def yX0_drop : MethodName := ⟨RX0, "drop", "()V"⟩
abbrev cX0_forgetOldest : ByteArray := prog_2_method_8_code
def yX0_forgetOldest : MethodName := ⟨RX0, "forgetOldest", "()V"⟩
def RX1 : String := "RebusSigns$Letters"
def TX1 : u_T := fun k => match k with
  | 0 => ("RebusSigns$Letters", "row", "[C", true)
  | _ => ("RebusSigns$Letters", "size", "I", false)
def tyX1 : Nat → FieldType := fun k => match k with
  | 0 => .array .char
  | _ => .int
abbrev wsX10 : List Cond := u_ws RX1 TX1 2
theorem nmX1 : ∀ a, a < 2 → ∀ b, b < 2 → a ≠ b → (TX1 a).2.1 ≠ (TX1 b).2.1 := by decide +kernel
theorem tyX1_ok : ∀ k, k < 2 → parseFieldDescriptor (TX1 k).2.2.1 = some (tyX1 k) := by decide +kernel
abbrev cX1_init : ByteArray := prog_3_method_1_code
def yX1_init : MethodName := ⟨RX1, "<init>", "(I)V"⟩
abbrev cX1_size : ByteArray := prog_3_method_2_code
def yX1_size : MethodName := ⟨RX1, "size", "()I"⟩
abbrev cX1_isFull : ByteArray := prog_3_method_3_code
def yX1_isFull : MethodName := ⟨RX1, "isFull", "()Z"⟩
abbrev cX1_clear : ByteArray := prog_3_method_4_code
def yX1_clear : MethodName := ⟨RX1, "clear", "()V"⟩
abbrev cX1_put : ByteArray := prog_3_method_5_code
def yX1_put : MethodName := ⟨RX1, "put", "(C)V"⟩
abbrev cX1_at : ByteArray := prog_3_method_6_code
def yX1_at : MethodName := ⟨RX1, "at", "(I)I"⟩
abbrev cX1_find : ByteArray := prog_3_method_7_code
def yX1_find : MethodName := ⟨RX1, "find", "(CI)I"⟩
abbrev cX1_become : ByteArray := prog_3_method_8_code
def yX1_become : MethodName := ⟨RX1, "become", "(LRebusSigns$Letters;II)Z"⟩
abbrev cX1_isVowelAt : ByteArray := prog_3_method_9_code
def yX1_isVowelAt : MethodName := ⟨RX1, "isVowelAt", "(I)Z"⟩
abbrev cX1_vowels : ByteArray := prog_3_method_10_code
def yX1_vowels : MethodName := ⟨RX1, "vowels", "()I"⟩
abbrev cX1_hasAt : ByteArray := prog_3_method_11_code
def yX1_hasAt : MethodName := ⟨RX1, "hasAt", "(ILRebusSigns$Letters;)Z"⟩
def RX2 : String := "RebusSigns$Lexicon"
def TX2 : u_T := fun k => match k with
  | 0 => ("RebusSigns$Lexicon", "signs", "[LRebusSigns$Sign;", true)
  | 1 => ("RebusSigns$Lexicon", "words", "[LRebusSigns$Word;", true)
  | 2 => ("RebusSigns$Lexicon", "signCount", "I", false)
  | 3 => ("RebusSigns$Lexicon", "wordCount", "I", false)
  | _ => ("RebusSigns$Lexicon", "loose", "Z", false)
def tyX2 : Nat → FieldType := fun k => match k with
  | 0 => .array (.object "RebusSigns$Sign")
  | 1 => .array (.object "RebusSigns$Word")
  | 2 => .int
  | 3 => .int
  | _ => .boolean
abbrev wsX20 : List Cond := u_ws RX2 TX2 5
theorem nmX2 : ∀ a, a < 5 → ∀ b, b < 5 → a ≠ b → (TX2 a).2.1 ≠ (TX2 b).2.1 := by decide +kernel
theorem tyX2_ok : ∀ k, k < 5 → parseFieldDescriptor (TX2 k).2.2.1 = some (tyX2 k) := by decide +kernel
abbrev cX2_init : ByteArray := prog_4_method_1_code
def yX2_init : MethodName := ⟨RX2, "<init>", "()V"⟩
abbrev cX2_clear : ByteArray := prog_4_method_2_code
def yX2_clear : MethodName := ⟨RX2, "clear", "()V"⟩
abbrev cX2_signAt : ByteArray := prog_4_method_3_code
def yX2_signAt : MethodName := ⟨RX2, "signAt", "(I)LRebusSigns$Sign;"⟩
abbrev cX2_wordAt : ByteArray := prog_4_method_4_code
def yX2_wordAt : MethodName := ⟨RX2, "wordAt", "(I)LRebusSigns$Word;"⟩
abbrev cX2_nextSign : ByteArray := prog_4_method_5_code
def yX2_nextSign : MethodName := ⟨RX2, "nextSign", "()LRebusSigns$Sign;"⟩
abbrev cX2_nextWord : ByteArray := prog_4_method_6_code
def yX2_nextWord : MethodName := ⟨RX2, "nextWord", "()LRebusSigns$Word;"⟩
abbrev cX2_wordOf : ByteArray := prog_4_method_7_code
def yX2_wordOf : MethodName := ⟨RX2, "wordOf", "(ILRebusSigns$Letters;)I"⟩
abbrev cX2_struckSigns : ByteArray := prog_4_method_8_code
def yX2_struckSigns : MethodName := ⟨RX2, "struckSigns", "()I"⟩
abbrev cX2_lowestMark : ByteArray := prog_4_method_9_code
def yX2_lowestMark : MethodName := ⟨RX2, "lowestMark", "(I)I"⟩
abbrev cX2_marksOf : ByteArray := prog_4_method_10_code
def yX2_marksOf : MethodName := ⟨RX2, "marksOf", "(I)I"⟩
abbrev cX2_marks : ByteArray := prog_4_method_11_code
def yX2_marks : MethodName := ⟨RX2, "marks", "(LRebusSigns$Sign;I)Z"⟩
abbrev cX2_lettersOf : ByteArray := prog_4_method_12_code
def yX2_lettersOf : MethodName := ⟨RX2, "lettersOf", "(LRebusSigns$Row;)I"⟩
abbrev cX2_placeBehind : ByteArray := prog_4_method_13_code
def yX2_placeBehind : MethodName := ⟨RX2, "placeBehind", "(LRebusSigns$Word;ILRebusSigns$Sign;)I"⟩
abbrev cX2_mayEndAt : ByteArray := prog_4_method_14_code
def yX2_mayEndAt : MethodName := ⟨RX2, "mayEndAt", "(LRebusSigns$Word;I)Z"⟩
def RX3 : String := "RebusSigns$Parser"
def TX3 : u_T := fun k => match k with
  | _ => ("", "", "", false)
def tyX3 : Nat → FieldType := fun k => match k with
  | _ => .int
abbrev wsX30 : List Cond := u_ws RX3 TX3 0
theorem nmX3 : ∀ a, a < 0 → ∀ b, b < 0 → a ≠ b → (TX3 a).2.1 ≠ (TX3 b).2.1 := by decide +kernel
theorem tyX3_ok : ∀ k, k < 0 → parseFieldDescriptor (TX3 k).2.2.1 = some (tyX3 k) := by decide +kernel
abbrev cX3_firstFault : ByteArray := prog_5_method_2_code
def yX3_firstFault : MethodName := ⟨RX3, "firstFault", "(LRebusSigns$Letters;LRebusSigns$Lexicon;)I"⟩
abbrev cX3_takesItem : ByteArray := prog_5_method_3_code
def yX3_takesItem : MethodName := ⟨RX3, "takesItem", "(LRebusSigns$Letters;IILRebusSigns$Lexicon;)Z"⟩
abbrev cX3_takesPicture : ByteArray := prog_5_method_4_code
def yX3_takesPicture : MethodName := ⟨RX3, "takesPicture", "(LRebusSigns$Letters;IILRebusSigns$Lexicon;)Z"⟩
abbrev cX3_takesSound : ByteArray := prog_5_method_5_code
def yX3_takesSound : MethodName := ⟨RX3, "takesSound", "(LRebusSigns$Letters;IILRebusSigns$Lexicon;)Z"⟩
abbrev cX3_takesMark : ByteArray := prog_5_method_6_code
def yX3_takesMark : MethodName := ⟨RX3, "takesMark", "(LRebusSigns$Letters;IILRebusSigns$Lexicon;)Z"⟩
abbrev cX3_takesWord : ByteArray := prog_5_method_7_code
def yX3_takesWord : MethodName := ⟨RX3, "takesWord", "(LRebusSigns$Letters;IILRebusSigns$Lexicon;)Z"⟩
abbrev cX3_takesLaw : ByteArray := prog_5_method_8_code
def yX3_takesLaw : MethodName := ⟨RX3, "takesLaw", "(LRebusSigns$Letters;IILRebusSigns$Lexicon;)Z"⟩
abbrev cX3_keep : ByteArray := prog_5_method_9_code
def yX3_keep : MethodName := ⟨RX3, "keep", "(LRebusSigns$Sign;IILRebusSigns$Lexicon;)V"⟩
abbrev cX3_digitAt : ByteArray := prog_5_method_10_code
def yX3_digitAt : MethodName := ⟨RX3, "digitAt", "(LRebusSigns$Letters;II)I"⟩
def RX4 : String := "RebusSigns$Reader"
def TX4 : u_T := fun k => match k with
  | 0 => ("RebusSigns$Reader", "seen", "[I", true)
  | 1 => ("RebusSigns$Reader", "ways", "[J", true)
  | 2 => ("RebusSigns$Reader", "fewest", "[I", true)
  | 3 => ("RebusSigns$Reader", "cuts", "[I", true)
  | _ => ("RebusSigns$Reader", "words", "[I", true)
def tyX4 : Nat → FieldType := fun k => match k with
  | 0 => .array .int
  | 1 => .array .long
  | 2 => .array .int
  | 3 => .array .int
  | _ => .array .int
abbrev wsX40 : List Cond := u_ws RX4 TX4 5
theorem nmX4 : ∀ a, a < 5 → ∀ b, b < 5 → a ≠ b → (TX4 a).2.1 ≠ (TX4 b).2.1 := by decide +kernel
theorem tyX4_ok : ∀ k, k < 5 → parseFieldDescriptor (TX4 k).2.2.1 = some (tyX4 k) := by decide +kernel
abbrev cX4_init : ByteArray := prog_6_method_1_code
def yX4_init : MethodName := ⟨RX4, "<init>", "()V"⟩
abbrev cX4_look : ByteArray := prog_6_method_2_code
def yX4_look : MethodName := ⟨RX4, "look", "(LRebusSigns$Lexicon;LRebusSigns$Row;I)V"⟩
abbrev cX4_wordsBy : ByteArray := prog_6_method_3_code
def yX4_wordsBy : MethodName := ⟨RX4, "wordsBy", "(I)I"⟩
abbrev cX4_follow : ByteArray := prog_6_method_4_code
def yX4_follow : MethodName := ⟨RX4, "follow", "(LRebusSigns$Lexicon;ILRebusSigns$Row;I)V"⟩
abbrev cX4_plan : ByteArray := prog_6_method_5_code
def yX4_plan : MethodName := ⟨RX4, "plan", "(LRebusSigns$Lexicon;LRebusSigns$Row;)V"⟩
abbrev cX4_join : ByteArray := prog_6_method_6_code
def yX4_join : MethodName := ⟨RX4, "join", "(II)V"⟩
abbrev cX4_lowestBit : ByteArray := prog_6_method_7_code
def yX4_lowestBit : MethodName := ⟨RX4, "lowestBit", "(I)I"⟩
abbrev cX4_waysInAll : ByteArray := prog_6_method_8_code
def yX4_waysInAll : MethodName := ⟨RX4, "waysInAll", "()J"⟩
abbrev cX4_fewestWords : ByteArray := prog_6_method_9_code
def yX4_fewestWords : MethodName := ⟨RX4, "fewestWords", "()I"⟩
abbrev cX4_plannedWord : ByteArray := prog_6_method_10_code
def yX4_plannedWord : MethodName := ⟨RX4, "plannedWord", "(I)I"⟩
abbrev cX4_plannedCut : ByteArray := prog_6_method_11_code
def yX4_plannedCut : MethodName := ⟨RX4, "plannedCut", "(I)I"⟩
abbrev cX4_startOf : ByteArray := prog_6_method_12_code
def yX4_startOf : MethodName := ⟨RX4, "startOf", "(I)I"⟩
def RX5 : String := "RebusSigns$Row"
def TX5 : u_T := fun k => match k with
  | 0 => ("RebusSigns$Row", "signs", "[I", true)
  | _ => ("RebusSigns$Row", "size", "I", false)
def tyX5 : Nat → FieldType := fun k => match k with
  | 0 => .array .int
  | _ => .int
abbrev wsX50 : List Cond := u_ws RX5 TX5 2
theorem nmX5 : ∀ a, a < 2 → ∀ b, b < 2 → a ≠ b → (TX5 a).2.1 ≠ (TX5 b).2.1 := by decide +kernel
theorem tyX5_ok : ∀ k, k < 2 → parseFieldDescriptor (TX5 k).2.2.1 = some (tyX5 k) := by decide +kernel
abbrev cX5_init : ByteArray := prog_7_method_1_code
def yX5_init : MethodName := ⟨RX5, "<init>", "(I)V"⟩
abbrev cX5_size : ByteArray := prog_7_method_2_code
def yX5_size : MethodName := ⟨RX5, "size", "()I"⟩
abbrev cX5_isFull : ByteArray := prog_7_method_3_code
def yX5_isFull : MethodName := ⟨RX5, "isFull", "()Z"⟩
abbrev cX5_clear : ByteArray := prog_7_method_4_code
def yX5_clear : MethodName := ⟨RX5, "clear", "()V"⟩
abbrev cX5_put : ByteArray := prog_7_method_5_code
def yX5_put : MethodName := ⟨RX5, "put", "(I)V"⟩
abbrev cX5_drop : ByteArray := prog_7_method_6_code
def yX5_drop : MethodName := ⟨RX5, "drop", "()I"⟩
abbrev cX5_at : ByteArray := prog_7_method_7_code
def yX5_at : MethodName := ⟨RX5, "at", "(I)I"⟩
abbrev cX5_has : ByteArray := prog_7_method_8_code
def yX5_has : MethodName := ⟨RX5, "has", "(I)Z"⟩
abbrev cX5_copy : ByteArray := prog_7_method_9_code
def yX5_copy : MethodName := ⟨RX5, "copy", "(LRebusSigns$Row;)V"⟩
abbrev cX5_isSameAs : ByteArray := prog_7_method_10_code
def yX5_isSameAs : MethodName := ⟨RX5, "isSameAs", "(LRebusSigns$Row;)Z"⟩
def RX6 : String := "RebusSigns$Scribe"
def TX6 : u_T := fun k => match k with
  | 0 => ("RebusSigns$Scribe", "rows", "[LRebusSigns$Row;", true)
  | 1 => ("RebusSigns$Scribe", "fewest", "[I", true)
  | 2 => ("RebusSigns$Scribe", "told", "[I", true)
  | 3 => ("RebusSigns$Scribe", "first", "[I", true)
  | 4 => ("RebusSigns$Scribe", "ways", "[J", true)
  | _ => ("RebusSigns$Scribe", "settled", "Z", false)
def tyX6 : Nat → FieldType := fun k => match k with
  | 0 => .array (.object "RebusSigns$Row")
  | 1 => .array .int
  | 2 => .array .int
  | 3 => .array .int
  | 4 => .array .long
  | _ => .boolean
abbrev wsX60 : List Cond := u_ws RX6 TX6 6
theorem nmX6 : ∀ a, a < 6 → ∀ b, b < 6 → a ≠ b → (TX6 a).2.1 ≠ (TX6 b).2.1 := by decide +kernel
theorem tyX6_ok : ∀ k, k < 6 → parseFieldDescriptor (TX6 k).2.2.1 = some (tyX6 k) := by decide +kernel
abbrev cX6_init : ByteArray := prog_8_method_1_code
def yX6_init : MethodName := ⟨RX6, "<init>", "()V"⟩
abbrev cX6_forget : ByteArray := prog_8_method_2_code
def yX6_forget : MethodName := ⟨RX6, "forget", "()V"⟩
abbrev cX6_settle : ByteArray := prog_8_method_3_code
def yX6_settle : MethodName := ⟨RX6, "settle", "(LRebusSigns$Lexicon;)V"⟩
abbrev cX6_rowOf : ByteArray := prog_8_method_4_code
def yX6_rowOf : MethodName := ⟨RX6, "rowOf", "(I)LRebusSigns$Row;"⟩
abbrev cX6_findLeast : ByteArray := prog_8_method_5_code
def yX6_findLeast : MethodName := ⟨RX6, "findLeast", "(LRebusSigns$Lexicon;LRebusSigns$Word;LRebusSigns$Row;)V"⟩
abbrev cX6_weigh : ByteArray := prog_8_method_6_code
def yX6_weigh : MethodName := ⟨RX6, "weigh", "(LRebusSigns$Lexicon;LRebusSigns$Word;I)V"⟩
abbrev cX6_rowsOfSounds : ByteArray := prog_8_method_7_code
def yX6_rowsOfSounds : MethodName := ⟨RX6, "rowsOfSounds", "(LRebusSigns$Lexicon;LRebusSigns$Word;)J"⟩
def RX7 : String := "RebusSigns$Sign"
def TX7 : u_T := fun k => match k with
  | 0 => ("RebusSigns$Sign", "sound", "LRebusSigns$Letters;", true)
  | 1 => ("RebusSigns$Sign", "kind", "I", false)
  | 2 => ("RebusSigns$Sign", "group", "I", false)
  | _ => ("RebusSigns$Sign", "struck", "Z", false)
def tyX7 : Nat → FieldType := fun k => match k with
  | 0 => .object "RebusSigns$Letters"
  | 1 => .int
  | 2 => .int
  | _ => .boolean
abbrev wsX70 : List Cond := u_ws RX7 TX7 4
theorem nmX7 : ∀ a, a < 4 → ∀ b, b < 4 → a ≠ b → (TX7 a).2.1 ≠ (TX7 b).2.1 := by decide +kernel
theorem tyX7_ok : ∀ k, k < 4 → parseFieldDescriptor (TX7 k).2.2.1 = some (tyX7 k) := by decide +kernel
abbrev cX7_init : ByteArray := prog_9_method_1_code
def yX7_init : MethodName := ⟨RX7, "<init>", "()V"⟩
def RX8 : String := "RebusSigns$Word"
def TX8 : u_T := fun k => match k with
  | 0 => ("RebusSigns$Word", "letters", "LRebusSigns$Letters;", true)
  | _ => ("RebusSigns$Word", "group", "I", false)
def tyX8 : Nat → FieldType := fun k => match k with
  | 0 => .object "RebusSigns$Letters"
  | _ => .int
abbrev wsX80 : List Cond := u_ws RX8 TX8 2
theorem nmX8 : ∀ a, a < 2 → ∀ b, b < 2 → a ≠ b → (TX8 a).2.1 ≠ (TX8 b).2.1 := by decide +kernel
theorem tyX8_ok : ∀ k, k < 2 → parseFieldDescriptor (TX8 k).2.2.1 = some (tyX8 k) := by decide +kernel
abbrev cX8_init : ByteArray := prog_10_method_1_code
def yX8_init : MethodName := ⟨RX8, "<init>", "()V"⟩
def RX9 : String := "RebusSigns"
def TX9 : u_T := fun k => match k with
  | 0 => ("RebusSigns", "text", "LRebusSigns$Letters;", true)
  | 1 => ("RebusSigns", "inscription", "LRebusSigns$Row;", true)
  | 2 => ("RebusSigns", "marked", "LRebusSigns$Row;", true)
  | 3 => ("RebusSigns", "history", "LRebusSigns$History;", true)
  | 4 => ("RebusSigns", "scribe", "LRebusSigns$Scribe;", true)
  | 5 => ("RebusSigns", "reader", "LRebusSigns$Reader;", true)
  | 6 => ("RebusSigns", "laid", "LRebusSigns$Lexicon;", false)
  | _ => ("RebusSigns", "draft", "LRebusSigns$Lexicon;", false)
def tyX9 : Nat → FieldType := fun k => match k with
  | 0 => .object "RebusSigns$Letters"
  | 1 => .object "RebusSigns$Row"
  | 2 => .object "RebusSigns$Row"
  | 3 => .object "RebusSigns$History"
  | 4 => .object "RebusSigns$Scribe"
  | 5 => .object "RebusSigns$Reader"
  | 6 => .object "RebusSigns$Lexicon"
  | _ => .object "RebusSigns$Lexicon"
abbrev wsX90 : List Cond := u_ws RX9 TX9 8
theorem nmX9 : ∀ a, a < 8 → ∀ b, b < 8 → a ≠ b → (TX9 a).2.1 ≠ (TX9 b).2.1 := by decide +kernel
theorem tyX9_ok : ∀ k, k < 8 → parseFieldDescriptor (TX9 k).2.2.1 = some (tyX9 k) := by decide +kernel
abbrev cX9_init : ByteArray := prog_1_method_1_code
def yX9_init : MethodName := ⟨RX9, "<init>", "()V"⟩
abbrev cX9_write : ByteArray := prog_1_method_2_code
def yX9_write : MethodName := ⟨RX9, "write", "(I)I"⟩
abbrev cX9_wipe : ByteArray := prog_1_method_3_code
def yX9_wipe : MethodName := ⟨RX9, "wipe", "()I"⟩
abbrev cX9_fault : ByteArray := prog_1_method_4_code
def yX9_fault : MethodName := ⟨RX9, "fault", "()I"⟩
abbrev cX9_lay : ByteArray := prog_1_method_5_code
def yX9_lay : MethodName := ⟨RX9, "lay", "()I"⟩
abbrev cX9_strike : ByteArray := prog_1_method_6_code
def yX9_strike : MethodName := ⟨RX9, "strike", "(II)I"⟩
abbrev cX9_law : ByteArray := prog_1_method_7_code
def yX9_law : MethodName := ⟨RX9, "law", "(I)I"⟩
abbrev cX9_carve : ByteArray := prog_1_method_8_code
def yX9_carve : MethodName := ⟨RX9, "carve", "(I)I"⟩
abbrev cX9_chip : ByteArray := prog_1_method_9_code
def yX9_chip : MethodName := ⟨RX9, "chip", "()I"⟩
abbrev cX9_undo : ByteArray := prog_1_method_10_code
def yX9_undo : MethodName := ⟨RX9, "undo", "()I"⟩
abbrev cX9_sign : ByteArray := prog_1_method_11_code
def yX9_sign : MethodName := ⟨RX9, "sign", "(II)I"⟩
abbrev cX9_word : ByteArray := prog_1_method_12_code
def yX9_word : MethodName := ⟨RX9, "word", "(II)I"⟩
abbrev cX9_least : ByteArray := prog_1_method_13_code
def yX9_least : MethodName := ⟨RX9, "least", "(II)I"⟩
abbrev cX9_mark : ByteArray := prog_1_method_14_code
def yX9_mark : MethodName := ⟨RX9, "mark", "(I)I"⟩
abbrev cX9_writings : ByteArray := prog_1_method_15_code
def yX9_writings : MethodName := ⟨RX9, "writings", "(I)J"⟩
abbrev cX9_carved : ByteArray := prog_1_method_16_code
def yX9_carved : MethodName := ⟨RX9, "carved", "(I)I"⟩
abbrev cX9_read : ByteArray := prog_1_method_17_code
def yX9_read : MethodName := ⟨RX9, "read", "(II)I"⟩
abbrev cX9_readings : ByteArray := prog_1_method_18_code
def yX9_readings : MethodName := ⟨RX9, "readings", "()J"⟩
abbrev cX9_reading : ByteArray := prog_1_method_19_code
def yX9_reading : MethodName := ⟨RX9, "reading", "(I)I"⟩
abbrev cX9_cut : ByteArray := prog_1_method_20_code
def yX9_cut : MethodName := ⟨RX9, "cut", "(I)I"⟩
abbrev cX9_count : ByteArray := prog_1_method_21_code
def yX9_count : MethodName := ⟨RX9, "count", "(I)I"⟩
abbrev cX9_firstLexicon : ByteArray := prog_1_method_22_code
def yX9_firstLexicon : MethodName := ⟨RX9, "firstLexicon", "()LRebusSigns$Lexicon;"⟩
abbrev cX9_turn : ByteArray := prog_1_method_23_code
def yX9_turn : MethodName := ⟨RX9, "turn", "(LRebusSigns$Sign;)V"⟩
abbrev cX9_turnLaw : ByteArray := prog_1_method_24_code
def yX9_turnLaw : MethodName := ⟨RX9, "turnLaw", "()V"⟩
abbrev cX9_lawNumber : ByteArray := prog_1_method_25_code
def yX9_lawNumber : MethodName := ⟨RX9, "lawNumber", "()I"⟩
abbrev cX9_leastWritingsWith : ByteArray := prog_1_method_26_code
def yX9_leastWritingsWith : MethodName := ⟨RX9, "leastWritingsWith", "(I)I"⟩
abbrev cX9_clearness : ByteArray := prog_1_method_27_code
def yX9_clearness : MethodName := ⟨RX9, "clearness", "(I)I"⟩
abbrev cX9_mixedWith : ByteArray := prog_1_method_28_code
def yX9_mixedWith : MethodName := ⟨RX9, "mixedWith", "(II)I"⟩
abbrev cX9_writtenWords : ByteArray := prog_1_method_29_code
def yX9_writtenWords : MethodName := ⟨RX9, "writtenWords", "()I"⟩
abbrev cX9_clearWords : ByteArray := prog_1_method_30_code
def yX9_clearWords : MethodName := ⟨RX9, "clearWords", "()I"⟩
abbrev cX9_mixedPairs : ByteArray := prog_1_method_31_code
def yX9_mixedPairs : MethodName := ⟨RX9, "mixedPairs", "()I"⟩
def RX10 : String := "RebusSignsModel"
def TX10 : u_T := fun k => match k with
  | 0 => ("RebusSignsModel", "length", "I", false)
  | 1 => ("RebusSignsModel", "text", "[I", true)
  | 2 => ("RebusSignsModel", "spot", "I", false)
  | 3 => ("RebusSignsModel", "told", "[I", true)
  | 4 => ("RebusSignsModel", "read", "[I", true)
  | 5 => ("RebusSignsModel", "s", "[I", true)
  | 6 => ("RebusSignsModel", "before", "[I", true)
  | 7 => ("RebusSignsModel", "undoMany", "I", false)
  | 8 => ("RebusSignsModel", "met", "[I", true)
  | 9 => ("RebusSignsModel", "numberOf", "[I", true)
  | 10 => ("RebusSignsModel", "next", "[I", true)
  | 11 => ("RebusSignsModel", "metMany", "I", false)
  | 12 => ("RebusSignsModel", "most", "[I", true)
  | 13 => ("RebusSignsModel", "leastRow", "[I", true)
  | 14 => ("RebusSignsModel", "leastOut", "I", false)
  | 15 => ("RebusSignsModel", "otherRow", "[I", true)
  | 16 => ("RebusSignsModel", "rows", "[J", true)
  | 17 => ("RebusSignsModel", "fewest", "[I", true)
  | 18 => ("RebusSignsModel", "ways", "[J", true)
  | _ => ("RebusSignsModel", "sets", "[I", true)
def tyX10 : Nat → FieldType := fun k => match k with
  | 0 => .int
  | 1 => .array .int
  | 2 => .int
  | 3 => .array .int
  | 4 => .array .int
  | 5 => .array .int
  | 6 => .array .int
  | 7 => .int
  | 8 => .array .int
  | 9 => .array .int
  | 10 => .array .int
  | 11 => .int
  | 12 => .array .int
  | 13 => .array .int
  | 14 => .int
  | 15 => .array .int
  | 16 => .array .long
  | 17 => .array .int
  | 18 => .array .long
  | _ => .array .int
abbrev wsX100 : List Cond := u_ws RX10 TX10 20
theorem nmX10 : ∀ a, a < 20 → ∀ b, b < 20 → a ≠ b → (TX10 a).2.1 ≠ (TX10 b).2.1 := by decide +kernel
theorem tyX10_ok : ∀ k, k < 20 → parseFieldDescriptor (TX10 k).2.2.1 = some (tyX10 k) := by decide +kernel
abbrev cX10_init : ByteArray := prog_12_method_1_code
def yX10_init : MethodName := ⟨RX10, "<init>", "()V"⟩
abbrev cX10_sign4 : ByteArray := prog_12_method_2_code
def yX10_sign4 : MethodName := ⟨RX10, "sign4", "(IIIIII)V"⟩
abbrev cX10_word6 : ByteArray := prog_12_method_3_code
def yX10_word6 : MethodName := ⟨RX10, "word6", "(IIIIIII)V"⟩
abbrev cX10_anew : ByteArray := prog_12_method_4_code
def yX10_anew : MethodName := ⟨RX10, "anew", "()V"⟩
abbrev cX10_in : ByteArray := prog_12_method_5_code
def yX10_in : MethodName := ⟨RX10, "in", "(JJJ)Z"⟩
abbrev cX10_write : ByteArray := prog_12_method_6_code
def yX10_write : MethodName := ⟨RX10, "write", "(I)I"⟩
abbrev cX10_wipe : ByteArray := prog_12_method_7_code
def yX10_wipe : MethodName := ⟨RX10, "wipe", "()I"⟩
abbrev cX10_byteAt : ByteArray := prog_12_method_8_code
def yX10_byteAt : MethodName := ⟨RX10, "byteAt", "(I)I"⟩
abbrev cX10_figure : ByteArray := prog_12_method_9_code
def yX10_figure : MethodName := ⟨RX10, "figure", "(II)Z"⟩
abbrev cX10_gone : ByteArray := prog_12_method_10_code
def yX10_gone : MethodName := ⟨RX10, "gone", "(I)Z"⟩
abbrev cX10_letters : ByteArray := prog_12_method_11_code
def yX10_letters : MethodName := ⟨RX10, "letters", "(II)Z"⟩
abbrev cX10_wordItem : ByteArray := prog_12_method_12_code
def yX10_wordItem : MethodName := ⟨RX10, "wordItem", "()Z"⟩
abbrev cX10_signItem : ByteArray := prog_12_method_13_code
def yX10_signItem : MethodName := ⟨RX10, "signItem", "(I)Z"⟩
abbrev cX10_item : ByteArray := prog_12_method_14_code
def yX10_item : MethodName := ⟨RX10, "item", "(I)Z"⟩
abbrev cX10_fault : ByteArray := prog_12_method_15_code
def yX10_fault : MethodName := ⟨RX10, "fault", "()I"⟩
abbrev cX10_lay : ByteArray := prog_12_method_16_code
def yX10_lay : MethodName := ⟨RX10, "lay", "()I"⟩
abbrev cX10_note : ByteArray := prog_12_method_17_code
def yX10_note : MethodName := ⟨RX10, "note", "()V"⟩
abbrev cX10_undo : ByteArray := prog_12_method_18_code
def yX10_undo : MethodName := ⟨RX10, "undo", "()I"⟩
abbrev cX10_isSign : ByteArray := prog_12_method_19_code
def yX10_isSign : MethodName := ⟨RX10, "isSign", "(I)Z"⟩
abbrev cX10_isWord : ByteArray := prog_12_method_20_code
def yX10_isWord : MethodName := ⟨RX10, "isWord", "(I)Z"⟩
abbrev cX10_isStruck : ByteArray := prog_12_method_21_code
def yX10_isStruck : MethodName := ⟨RX10, "isStruck", "(I)Z"⟩
abbrev cX10_bits : ByteArray := prog_12_method_22_code
def yX10_bits : MethodName := ⟨RX10, "bits", "(I)I"⟩
abbrev cX10_strike : ByteArray := prog_12_method_23_code
def yX10_strike : MethodName := ⟨RX10, "strike", "(II)I"⟩
abbrev cX10_law : ByteArray := prog_12_method_24_code
def yX10_law : MethodName := ⟨RX10, "law", "(I)I"⟩
abbrev cX10_carve : ByteArray := prog_12_method_25_code
def yX10_carve : MethodName := ⟨RX10, "carve", "(I)I"⟩
abbrev cX10_chip : ByteArray := prog_12_method_26_code
def yX10_chip : MethodName := ⟨RX10, "chip", "()I"⟩
abbrev cX10_letterOf : ByteArray := prog_12_method_27_code
def yX10_letterOf : MethodName := ⟨RX10, "letterOf", "(II)I"⟩
abbrev cX10_long1 : ByteArray := prog_12_method_28_code
def yX10_long1 : MethodName := ⟨RX10, "long1", "(I)I"⟩
abbrev cX10_isVowel : ByteArray := prog_12_method_29_code
def yX10_isVowel : MethodName := ⟨RX10, "isVowel", "(II)Z"⟩
abbrev cX10_soundLong : ByteArray := prog_12_method_30_code
def yX10_soundLong : MethodName := ⟨RX10, "soundLong", "(I)I"⟩
abbrev cX10_lies : ByteArray := prog_12_method_31_code
def yX10_lies : MethodName := ⟨RX10, "lies", "(III)Z"⟩
abbrev cX10_skips : ByteArray := prog_12_method_32_code
def yX10_skips : MethodName := ⟨RX10, "skips", "(II)I"⟩
abbrev cX10_steps : ByteArray := prog_12_method_33_code
def yX10_steps : MethodName := ⟨RX10, "steps", "(III)I"⟩
abbrev cX10_isWhole : ByteArray := prog_12_method_34_code
def yX10_isWhole : MethodName := ⟨RX10, "isWhole", "(II)Z"⟩
abbrev cX10_hasSound : ByteArray := prog_12_method_35_code
def yX10_hasSound : MethodName := ⟨RX10, "hasSound", "(I)Z"⟩
abbrev cX10_isWriting : ByteArray := prog_12_method_36_code
def yX10_isWriting : MethodName := ⟨RX10, "isWriting", "(I[III)Z"⟩
abbrev cX10_reads : ByteArray := prog_12_method_37_code
def yX10_reads : MethodName := ⟨RX10, "reads", "([III)I"⟩
abbrev cX10_meets : ByteArray := prog_12_method_38_code
def yX10_meets : MethodName := ⟨RX10, "meets", "(I)I"⟩
abbrev cX10_explores : ByteArray := prog_12_method_39_code
def yX10_explores : MethodName := ⟨RX10, "explores", "(I)V"⟩
abbrev cX10_mosts : ByteArray := prog_12_method_40_code
def yX10_mosts : MethodName := ⟨RX10, "mosts", "(I)V"⟩
abbrev cX10_leasts : ByteArray := prog_12_method_41_code
def yX10_leasts : MethodName := ⟨RX10, "leasts", "(I)I"⟩
abbrev cX10_markOf : ByteArray := prog_12_method_42_code
def yX10_markOf : MethodName := ⟨RX10, "markOf", "(I)I"⟩
abbrev cX10_clear : ByteArray := prog_12_method_43_code
def yX10_clear : MethodName := ⟨RX10, "clear", "(I)I"⟩
abbrev cX10_areMixed : ByteArray := prog_12_method_44_code
def yX10_areMixed : MethodName := ⟨RX10, "areMixed", "(II)Z"⟩
abbrev cX10_mixed : ByteArray := prog_12_method_45_code
def yX10_mixed : MethodName := ⟨RX10, "mixed", "(I)I"⟩
abbrev cX10_leastWith : ByteArray := prog_12_method_46_code
def yX10_leastWith : MethodName := ⟨RX10, "leastWith", "(I)I"⟩
abbrev cX10_sign : ByteArray := prog_12_method_47_code
def yX10_sign : MethodName := ⟨RX10, "sign", "(II)I"⟩
abbrev cX10_word : ByteArray := prog_12_method_48_code
def yX10_word : MethodName := ⟨RX10, "word", "(II)I"⟩
abbrev cX10_least : ByteArray := prog_12_method_49_code
def yX10_least : MethodName := ⟨RX10, "least", "(II)I"⟩
abbrev cX10_mark : ByteArray := prog_12_method_50_code
def yX10_mark : MethodName := ⟨RX10, "mark", "(I)I"⟩
abbrev cX10_writings : ByteArray := prog_12_method_51_code
def yX10_writings : MethodName := ⟨RX10, "writings", "(I)J"⟩
abbrev cX10_reckons : ByteArray := prog_12_method_52_code
def yX10_reckons : MethodName := ⟨RX10, "reckons", "()V"⟩
abbrev cX10_rowFrom : ByteArray := prog_12_method_53_code
def yX10_rowFrom : MethodName := ⟨RX10, "rowFrom", "(I)I"⟩
abbrev cX10_carved : ByteArray := prog_12_method_54_code
def yX10_carved : MethodName := ⟨RX10, "carved", "(I)I"⟩
abbrev cX10_read : ByteArray := prog_12_method_55_code
def yX10_read : MethodName := ⟨RX10, "read", "(II)I"⟩
abbrev cX10_readings : ByteArray := prog_12_method_56_code
def yX10_readings : MethodName := ⟨RX10, "readings", "()J"⟩
abbrev cX10_begins : ByteArray := prog_12_method_57_code
def yX10_begins : MethodName := ⟨RX10, "begins", "(I)I"⟩
abbrev cX10_reading : ByteArray := prog_12_method_58_code
def yX10_reading : MethodName := ⟨RX10, "reading", "(I)I"⟩
abbrev cX10_cut : ByteArray := prog_12_method_59_code
def yX10_cut : MethodName := ⟨RX10, "cut", "(I)I"⟩
abbrev cX10_count : ByteArray := prog_12_method_60_code
def yX10_count : MethodName := ⟨RX10, "count", "(I)I"⟩
def RJx145de : String := "java/io/Serializable"
def TJx145de : u_T := fun k => match k with
  | _ => ("", "", "", false)
def tyJx145de : Nat → FieldType := fun k => match k with
  | _ => .int
abbrev wsJx145de0 : List Cond := u_ws RJx145de TJx145de 0
theorem nmJx145de : ∀ a, a < 0 → ∀ b, b < 0 → a ≠ b → (TJx145de a).2.1 ≠ (TJx145de b).2.1 := by decide +kernel
theorem tyJx145de_ok : ∀ k, k < 0 → parseFieldDescriptor (TJx145de k).2.2.1 = some (tyJx145de k) := by decide +kernel
def RJx9f9b0 : String := "java/lang/CharSequence"
def TJx9f9b0 : u_T := fun k => match k with
  | _ => ("", "", "", false)
def tyJx9f9b0 : Nat → FieldType := fun k => match k with
  | _ => .int
abbrev wsJx9f9b00 : List Cond := u_ws RJx9f9b0 TJx9f9b0 0
theorem nmJx9f9b0 : ∀ a, a < 0 → ∀ b, b < 0 → a ≠ b → (TJx9f9b0 a).2.1 ≠ (TJx9f9b0 b).2.1 := by decide +kernel
theorem tyJx9f9b0_ok : ∀ k, k < 0 → parseFieldDescriptor (TJx9f9b0 k).2.2.1 = some (tyJx9f9b0 k) := by decide +kernel
def RJxb160c : String := "java/lang/Comparable"
def TJxb160c : u_T := fun k => match k with
  | _ => ("", "", "", false)
def tyJxb160c : Nat → FieldType := fun k => match k with
  | _ => .int
abbrev wsJxb160c0 : List Cond := u_ws RJxb160c TJxb160c 0
theorem nmJxb160c : ∀ a, a < 0 → ∀ b, b < 0 → a ≠ b → (TJxb160c a).2.1 ≠ (TJxb160c b).2.1 := by decide +kernel
theorem tyJxb160c_ok : ∀ k, k < 0 → parseFieldDescriptor (TJxb160c k).2.2.1 = some (tyJxb160c k) := by decide +kernel
def RJ6 : String := "java/lang/Integer"
def TJ6 : u_T := fun k => match k with
  | _ => ("", "", "", false)
def tyJ6 : Nat → FieldType := fun k => match k with
  | _ => .int
abbrev wsJ60 : List Cond := u_ws RJ6 TJ6 0
theorem nmJ6 : ∀ a, a < 0 → ∀ b, b < 0 → a ≠ b → (TJ6 a).2.1 ≠ (TJ6 b).2.1 := by decide +kernel
theorem tyJ6_ok : ∀ k, k < 0 → parseFieldDescriptor (TJ6 k).2.2.1 = some (tyJ6 k) := by decide +kernel
abbrev cJ6_bitCount_0f7a4 : ByteArray := prog_13_method_49_code
def yJ6_bitCount_0f7a4 : MethodName := ⟨RJ6, "bitCount", "(I)I"⟩
def RJ9 : String := "java/lang/Math"
def TJ9 : u_T := fun k => match k with
  | _ => ("", "", "", false)
def tyJ9 : Nat → FieldType := fun k => match k with
  | _ => .int
abbrev wsJ90 : List Cond := u_ws RJ9 TJ9 0
theorem nmJ9 : ∀ a, a < 0 → ∀ b, b < 0 → a ≠ b → (TJ9 a).2.1 ≠ (TJ9 b).2.1 := by decide +kernel
theorem tyJ9_ok : ∀ k, k < 0 → parseFieldDescriptor (TJ9 k).2.2.1 = some (tyJ9 k) := by decide +kernel
abbrev cJ9_max_7cf53 : ByteArray := prog_14_method_65_code
def yJ9_max_7cf53 : MethodName := ⟨RJ9, "max", "(II)I"⟩
abbrev cJ9_min_7cf53 : ByteArray := prog_14_method_69_code
def yJ9_min_7cf53 : MethodName := ⟨RJ9, "min", "(II)I"⟩
def RJ0 : String := "java/lang/String"
def TJ0 : u_T := fun k => match k with
  | _ => ("", "", "", false)
def tyJ0 : Nat → FieldType := fun k => match k with
  | _ => .int
abbrev wsJ00 : List Cond := u_ws RJ0 TJ0 0
theorem nmJ0 : ∀ a, a < 0 → ∀ b, b < 0 → a ≠ b → (TJ0 a).2.1 ≠ (TJ0 b).2.1 := by decide +kernel
theorem tyJ0_ok : ∀ k, k < 0 → parseFieldDescriptor (TJ0 k).2.2.1 = some (tyJ0 k) := by decide +kernel
abbrev cJ0_length_8abf5 : ByteArray := prog_15_method_54_code
def yJ0_length_8abf5 : MethodName := ⟨RJ0, "length", "()I"⟩
abbrev cJ0_charAt_5068e : ByteArray := prog_15_method_56_code
def yJ0_charAt_5068e : MethodName := ⟨RJ0, "charAt", "(I)C"⟩
abbrev cJ0_coder_7d493 : ByteArray := prog_15_method_152_code
def yJ0_coder_7d493 : MethodName := ⟨RJ0, "coder", "()B"⟩
abbrev cJ0_isLatin1_aae02 : ByteArray := prog_15_method_154_code
def yJ0_isLatin1_aae02 : MethodName := ⟨RJ0, "isLatin1", "()Z"⟩
abbrev cJ0_checkIndex_df160 : ByteArray := prog_15_method_155_code
def yJ0_checkIndex_df160 : MethodName := ⟨RJ0, "checkIndex", "(II)V"⟩
def RJ1 : String := "java/lang/StringLatin1"
def TJ1 : u_T := fun k => match k with
  | _ => ("", "", "", false)
def tyJ1 : Nat → FieldType := fun k => match k with
  | _ => .int
abbrev wsJ10 : List Cond := u_ws RJ1 TJ1 0
theorem nmJ1 : ∀ a, a < 0 → ∀ b, b < 0 → a ≠ b → (TJ1 a).2.1 ≠ (TJ1 b).2.1 := by decide +kernel
theorem tyJ1_ok : ∀ k, k < 0 → parseFieldDescriptor (TJ1 k).2.2.1 = some (tyJ1 k) := by decide +kernel
abbrev cJ1_charAt_3b067 : ByteArray := prog_16_method_2_code
def yJ1_charAt_3b067 : MethodName := ⟨RJ1, "charAt", "([BI)C"⟩
def RJ2 : String := "java/lang/StringUTF16"
def TJ2 : u_T := fun k => match k with
  | _ => ("", "", "", false)
def tyJ2 : Nat → FieldType := fun k => match k with
  | _ => .int
abbrev wsJ20 : List Cond := u_ws RJ2 TJ2 0
theorem nmJ2 : ∀ a, a < 0 → ∀ b, b < 0 → a ≠ b → (TJ2 a).2.1 ≠ (TJ2 b).2.1 := by decide +kernel
theorem tyJ2_ok : ∀ k, k < 0 → parseFieldDescriptor (TJ2 k).2.2.1 = some (tyJ2 k) := by decide +kernel
abbrev cJ2_getChar_3b067 : ByteArray := prog_17_method_5_code
def yJ2_getChar_3b067 : MethodName := ⟨RJ2, "getChar", "([BI)C"⟩
abbrev cJ2_length_9d52b : ByteArray := prog_17_method_6_code
def yJ2_length_9d52b : MethodName := ⟨RJ2, "length", "([B)I"⟩
abbrev cJ2_charAt_3b067 : ByteArray := prog_17_method_83_code
def yJ2_charAt_3b067 : MethodName := ⟨RJ2, "charAt", "([BI)C"⟩
abbrev cJ2_checkIndex_2214a : ByteArray := prog_17_method_91_code
def yJ2_checkIndex_2214a : MethodName := ⟨RJ2, "checkIndex", "(I[B)V"⟩
def RJxfd54e : String := "java/lang/constant/Constable"
def TJxfd54e : u_T := fun k => match k with
  | _ => ("", "", "", false)
def tyJxfd54e : Nat → FieldType := fun k => match k with
  | _ => .int
abbrev wsJxfd54e0 : List Cond := u_ws RJxfd54e TJxfd54e 0
theorem nmJxfd54e : ∀ a, a < 0 → ∀ b, b < 0 → a ≠ b → (TJxfd54e a).2.1 ≠ (TJxfd54e b).2.1 := by decide +kernel
theorem tyJxfd54e_ok : ∀ k, k < 0 → parseFieldDescriptor (TJxfd54e k).2.2.1 = some (tyJxfd54e k) := by decide +kernel
def RJx3cf43 : String := "java/lang/constant/ConstantDesc"
def TJx3cf43 : u_T := fun k => match k with
  | _ => ("", "", "", false)
def tyJx3cf43 : Nat → FieldType := fun k => match k with
  | _ => .int
abbrev wsJx3cf430 : List Cond := u_ws RJx3cf43 TJx3cf43 0
theorem nmJx3cf43 : ∀ a, a < 0 → ∀ b, b < 0 → a ≠ b → (TJx3cf43 a).2.1 ≠ (TJx3cf43 b).2.1 := by decide +kernel
theorem tyJx3cf43_ok : ∀ k, k < 0 → parseFieldDescriptor (TJx3cf43 k).2.2.1 = some (tyJx3cf43 k) := by decide +kernel
def RJ7 : String := "java/util/Arrays"
def TJ7 : u_T := fun k => match k with
  | _ => ("", "", "", false)
def tyJ7 : Nat → FieldType := fun k => match k with
  | _ => .int
abbrev wsJ70 : List Cond := u_ws RJ7 TJ7 0
theorem nmJ7 : ∀ a, a < 0 → ∀ b, b < 0 → a ≠ b → (TJ7 a).2.1 ≠ (TJ7 b).2.1 := by decide +kernel
theorem tyJ7_ok : ∀ k, k < 0 → parseFieldDescriptor (TJ7 k).2.2.1 = some (tyJ7 k) := by decide +kernel
abbrev cJ7_fill_d0a16 : ByteArray := prog_18_method_101_code
def yJ7_fill_d0a16 : MethodName := ⟨RJ7, "fill", "([JJ)V"⟩
abbrev cJ7_fill_53178 : ByteArray := prog_18_method_103_code
def yJ7_fill_53178 : MethodName := ⟨RJ7, "fill", "([II)V"⟩
def RJ3 : String := "jdk/internal/util/Preconditions"
def TJ3 : u_T := fun k => match k with
  | _ => ("", "", "", false)
def tyJ3 : Nat → FieldType := fun k => match k with
  | _ => .int
abbrev wsJ30 : List Cond := u_ws RJ3 TJ3 0
theorem nmJ3 : ∀ a, a < 0 → ∀ b, b < 0 → a ≠ b → (TJ3 a).2.1 ≠ (TJ3 b).2.1 := by decide +kernel
theorem tyJ3_ok : ∀ k, k < 0 → parseFieldDescriptor (TJ3 k).2.2.1 = some (tyJ3 k) := by decide +kernel
abbrev cJ3_checkIndex_8e157 : ByteArray := prog_19_method_11_code
def yJ3_checkIndex_8e157 : MethodName := ⟨RJ3, "checkIndex", "(IILjava/util/function/BiFunction;)I"⟩
def RL : String := "RebusSignsLaw"
abbrev cL_law : ByteArray := code
def yL_law : MethodName := ⟨RL, "law", "([I)Z"⟩
abbrev vwCl : List vw_C := [(RX0, TX0, 3), (RX1, TX1, 2), (RX2, TX2, 5), (RX4, TX4, 5), (RX5, TX5, 2), (RX6, TX6, 6), (RX7, TX7, 4), (RX8, TX8, 2), (RX9, TX9, 8), (RX10, TX10, 20)]
end
section
theorem dX0_init_0 : decode cX0_init 0 = .ok (.aload_n 0, 1) := by decide +kernel
theorem dX0_init_1 : decode cX0_init 1 = .ok (.invokespecial 3, 3) := by decide +kernel
theorem dX0_init_4 : decode cX0_init 4 = .ok (.aload_n 0, 1) := by decide +kernel
theorem dX0_init_5 : decode cX0_init 5 = .ok (.bipush 6, 2) := by decide +kernel
theorem dX0_init_7 : decode cX0_init 7 = .ok (.newarray .int, 2) := by decide +kernel
theorem dX0_init_9 : decode cX0_init 9 = .ok (.putfield 9, 3) := by decide +kernel
theorem dX0_init_12 : decode cX0_init 12 = .ok (.aload_n 0, 1) := by decide +kernel
theorem dX0_init_13 : decode cX0_init 13 = .ok (.bipush 6, 2) := by decide +kernel
theorem dX0_init_15 : decode cX0_init 15 = .ok (.newarray .int, 2) := by decide +kernel
theorem dX0_init_17 : decode cX0_init 17 = .ok (.putfield 15, 3) := by decide +kernel
theorem dX0_init_20 : decode cX0_init 20 = .ok (.return_, 1) := by decide +kernel
theorem dX0_size_0 : decode cX0_size 0 = .ok (.aload_n 0, 1) := by decide +kernel
theorem dX0_size_1 : decode cX0_size 1 = .ok (.getfield 18, 3) := by decide +kernel
theorem dX0_size_4 : decode cX0_size 4 = .ok (.ireturn, 1) := by decide +kernel
theorem dX0_clear_0 : decode cX0_clear 0 = .ok (.aload_n 0, 1) := by decide +kernel
theorem dX0_clear_1 : decode cX0_clear 1 = .ok (.iconst 0, 1) := by decide +kernel
theorem dX0_clear_2 : decode cX0_clear 2 = .ok (.putfield 18, 3) := by decide +kernel
theorem dX0_clear_5 : decode cX0_clear 5 = .ok (.return_, 1) := by decide +kernel
theorem dX0_push_0 : decode cX0_push 0 = .ok (.aload_n 0, 1) := by decide +kernel
theorem dX0_push_1 : decode cX0_push 1 = .ok (.getfield 18, 3) := by decide +kernel
theorem dX0_push_4 : decode cX0_push 4 = .ok (.bipush 6, 2) := by decide +kernel
theorem dX0_push_6 : decode cX0_push 6 = .ok (.if_icmp .lt 7, 3) := by decide +kernel
theorem dX0_push_9 : decode cX0_push 9 = .ok (.aload_n 0, 1) := by decide +kernel
theorem dX0_push_10 : decode cX0_push 10 = .ok (.invokevirtual 22, 3) := by decide +kernel
theorem dX0_push_13 : decode cX0_push 13 = .ok (.aload_n 0, 1) := by decide +kernel
theorem dX0_push_14 : decode cX0_push 14 = .ok (.getfield 18, 3) := by decide +kernel
theorem dX0_push_17 : decode cX0_push 17 = .ok (.ifCond .lt 42, 3) := by decide +kernel
theorem dX0_push_20 : decode cX0_push 20 = .ok (.aload_n 0, 1) := by decide +kernel
theorem dX0_push_21 : decode cX0_push 21 = .ok (.getfield 18, 3) := by decide +kernel
theorem dX0_push_24 : decode cX0_push 24 = .ok (.bipush 6, 2) := by decide +kernel
theorem dX0_push_26 : decode cX0_push 26 = .ok (.if_icmp .ge 33, 3) := by decide +kernel
theorem dX0_push_29 : decode cX0_push 29 = .ok (.aload_n 0, 1) := by decide +kernel
theorem dX0_push_30 : decode cX0_push 30 = .ok (.getfield 9, 3) := by decide +kernel
theorem dX0_push_33 : decode cX0_push 33 = .ok (.aload_n 0, 1) := by decide +kernel
theorem dX0_push_34 : decode cX0_push 34 = .ok (.getfield 18, 3) := by decide +kernel
theorem dX0_push_37 : decode cX0_push 37 = .ok (.iload_n 1, 1) := by decide +kernel
theorem dX0_push_38 : decode cX0_push 38 = .ok (.iastore, 1) := by decide +kernel
theorem dX0_push_39 : decode cX0_push 39 = .ok (.aload_n 0, 1) := by decide +kernel
theorem dX0_push_40 : decode cX0_push 40 = .ok (.getfield 15, 3) := by decide +kernel
theorem dX0_push_43 : decode cX0_push 43 = .ok (.aload_n 0, 1) := by decide +kernel
theorem dX0_push_44 : decode cX0_push 44 = .ok (.getfield 18, 3) := by decide +kernel
theorem dX0_push_47 : decode cX0_push 47 = .ok (.iload_n 2, 1) := by decide +kernel
theorem dX0_push_48 : decode cX0_push 48 = .ok (.iastore, 1) := by decide +kernel
theorem dX0_push_49 : decode cX0_push 49 = .ok (.aload_n 0, 1) := by decide +kernel
theorem dX0_push_50 : decode cX0_push 50 = .ok (.dup, 1) := by decide +kernel
theorem dX0_push_51 : decode cX0_push 51 = .ok (.getfield 18, 3) := by decide +kernel
theorem dX0_push_54 : decode cX0_push 54 = .ok (.iconst 1, 1) := by decide +kernel
theorem dX0_push_55 : decode cX0_push 55 = .ok (.iadd, 1) := by decide +kernel
theorem dX0_push_56 : decode cX0_push 56 = .ok (.putfield 18, 3) := by decide +kernel
theorem dX0_push_59 : decode cX0_push 59 = .ok (.return_, 1) := by decide +kernel
theorem dX0_lastKind_0 : decode cX0_lastKind 0 = .ok (.aload_n 0, 1) := by decide +kernel
theorem dX0_lastKind_1 : decode cX0_lastKind 1 = .ok (.getfield 18, 3) := by decide +kernel
theorem dX0_lastKind_4 : decode cX0_lastKind 4 = .ok (.ifCond .le 26, 3) := by decide +kernel
theorem dX0_lastKind_7 : decode cX0_lastKind 7 = .ok (.aload_n 0, 1) := by decide +kernel
theorem dX0_lastKind_8 : decode cX0_lastKind 8 = .ok (.getfield 18, 3) := by decide +kernel
theorem dX0_lastKind_11 : decode cX0_lastKind 11 = .ok (.bipush 6, 2) := by decide +kernel
theorem dX0_lastKind_13 : decode cX0_lastKind 13 = .ok (.if_icmp .gt 17, 3) := by decide +kernel
theorem dX0_lastKind_16 : decode cX0_lastKind 16 = .ok (.aload_n 0, 1) := by decide +kernel
theorem dX0_lastKind_17 : decode cX0_lastKind 17 = .ok (.getfield 9, 3) := by decide +kernel
theorem dX0_lastKind_20 : decode cX0_lastKind 20 = .ok (.aload_n 0, 1) := by decide +kernel
theorem dX0_lastKind_21 : decode cX0_lastKind 21 = .ok (.getfield 18, 3) := by decide +kernel
theorem dX0_lastKind_24 : decode cX0_lastKind 24 = .ok (.iconst 1, 1) := by decide +kernel
theorem dX0_lastKind_25 : decode cX0_lastKind 25 = .ok (.isub, 1) := by decide +kernel
theorem dX0_lastKind_26 : decode cX0_lastKind 26 = .ok (.iaload, 1) := by decide +kernel
theorem dX0_lastKind_27 : decode cX0_lastKind 27 = .ok (.goto 5, 3) := by decide +kernel
theorem dX0_lastKind_30 : decode cX0_lastKind 30 = .ok (.bipush (-4), 2) := by decide +kernel
theorem dX0_lastKind_32 : decode cX0_lastKind 32 = .ok (.ireturn, 1) := by decide +kernel
theorem dX0_lastValue_0 : decode cX0_lastValue 0 = .ok (.aload_n 0, 1) := by decide +kernel
theorem dX0_lastValue_1 : decode cX0_lastValue 1 = .ok (.getfield 18, 3) := by decide +kernel
theorem dX0_lastValue_4 : decode cX0_lastValue 4 = .ok (.ifCond .le 26, 3) := by decide +kernel
theorem dX0_lastValue_7 : decode cX0_lastValue 7 = .ok (.aload_n 0, 1) := by decide +kernel
theorem dX0_lastValue_8 : decode cX0_lastValue 8 = .ok (.getfield 18, 3) := by decide +kernel
theorem dX0_lastValue_11 : decode cX0_lastValue 11 = .ok (.bipush 6, 2) := by decide +kernel
theorem dX0_lastValue_13 : decode cX0_lastValue 13 = .ok (.if_icmp .gt 17, 3) := by decide +kernel
theorem dX0_lastValue_16 : decode cX0_lastValue 16 = .ok (.aload_n 0, 1) := by decide +kernel
theorem dX0_lastValue_17 : decode cX0_lastValue 17 = .ok (.getfield 15, 3) := by decide +kernel
theorem dX0_lastValue_20 : decode cX0_lastValue 20 = .ok (.aload_n 0, 1) := by decide +kernel
theorem dX0_lastValue_21 : decode cX0_lastValue 21 = .ok (.getfield 18, 3) := by decide +kernel
theorem dX0_lastValue_24 : decode cX0_lastValue 24 = .ok (.iconst 1, 1) := by decide +kernel
theorem dX0_lastValue_25 : decode cX0_lastValue 25 = .ok (.isub, 1) := by decide +kernel
theorem dX0_lastValue_26 : decode cX0_lastValue 26 = .ok (.iaload, 1) := by decide +kernel
theorem dX0_lastValue_27 : decode cX0_lastValue 27 = .ok (.goto 5, 3) := by decide +kernel
theorem dX0_lastValue_30 : decode cX0_lastValue 30 = .ok (.bipush (-4), 2) := by decide +kernel
theorem dX0_lastValue_32 : decode cX0_lastValue 32 = .ok (.ireturn, 1) := by decide +kernel
theorem dX0_drop_0 : decode cX0_drop 0 = .ok (.aload_n 0, 1) := by decide +kernel
theorem dX0_drop_1 : decode cX0_drop 1 = .ok (.getfield 18, 3) := by decide +kernel
theorem dX0_drop_4 : decode cX0_drop 4 = .ok (.ifCond .le 13, 3) := by decide +kernel
theorem dX0_drop_7 : decode cX0_drop 7 = .ok (.aload_n 0, 1) := by decide +kernel
theorem dX0_drop_8 : decode cX0_drop 8 = .ok (.dup, 1) := by decide +kernel
theorem dX0_drop_9 : decode cX0_drop 9 = .ok (.getfield 18, 3) := by decide +kernel
theorem dX0_drop_12 : decode cX0_drop 12 = .ok (.iconst 1, 1) := by decide +kernel
theorem dX0_drop_13 : decode cX0_drop 13 = .ok (.isub, 1) := by decide +kernel
theorem dX0_drop_14 : decode cX0_drop 14 = .ok (.putfield 18, 3) := by decide +kernel
theorem dX0_drop_17 : decode cX0_drop 17 = .ok (.return_, 1) := by decide +kernel
theorem dX0_forgetOldest_0 : decode cX0_forgetOldest 0 = .ok (.iconst 1, 1) := by decide +kernel
theorem dX0_forgetOldest_1 : decode cX0_forgetOldest 1 = .ok (.istore_n 1, 1) := by decide +kernel
theorem dX0_forgetOldest_2 : decode cX0_forgetOldest 2 = .ok (.iload_n 1, 1) := by decide +kernel
theorem dX0_forgetOldest_3 : decode cX0_forgetOldest 3 = .ok (.bipush 6, 2) := by decide +kernel
theorem dX0_forgetOldest_5 : decode cX0_forgetOldest 5 = .ok (.if_icmp .ge 37, 3) := by decide +kernel
theorem dX0_forgetOldest_8 : decode cX0_forgetOldest 8 = .ok (.aload_n 0, 1) := by decide +kernel
theorem dX0_forgetOldest_9 : decode cX0_forgetOldest 9 = .ok (.getfield 9, 3) := by decide +kernel
theorem dX0_forgetOldest_12 : decode cX0_forgetOldest 12 = .ok (.iload_n 1, 1) := by decide +kernel
theorem dX0_forgetOldest_13 : decode cX0_forgetOldest 13 = .ok (.iconst 1, 1) := by decide +kernel
theorem dX0_forgetOldest_14 : decode cX0_forgetOldest 14 = .ok (.isub, 1) := by decide +kernel
theorem dX0_forgetOldest_15 : decode cX0_forgetOldest 15 = .ok (.aload_n 0, 1) := by decide +kernel
theorem dX0_forgetOldest_16 : decode cX0_forgetOldest 16 = .ok (.getfield 9, 3) := by decide +kernel
theorem dX0_forgetOldest_19 : decode cX0_forgetOldest 19 = .ok (.iload_n 1, 1) := by decide +kernel
theorem dX0_forgetOldest_20 : decode cX0_forgetOldest 20 = .ok (.iaload, 1) := by decide +kernel
theorem dX0_forgetOldest_21 : decode cX0_forgetOldest 21 = .ok (.iastore, 1) := by decide +kernel
theorem dX0_forgetOldest_22 : decode cX0_forgetOldest 22 = .ok (.aload_n 0, 1) := by decide +kernel
theorem dX0_forgetOldest_23 : decode cX0_forgetOldest 23 = .ok (.getfield 15, 3) := by decide +kernel
theorem dX0_forgetOldest_26 : decode cX0_forgetOldest 26 = .ok (.iload_n 1, 1) := by decide +kernel
theorem dX0_forgetOldest_27 : decode cX0_forgetOldest 27 = .ok (.iconst 1, 1) := by decide +kernel
theorem dX0_forgetOldest_28 : decode cX0_forgetOldest 28 = .ok (.isub, 1) := by decide +kernel
theorem dX0_forgetOldest_29 : decode cX0_forgetOldest 29 = .ok (.aload_n 0, 1) := by decide +kernel
theorem dX0_forgetOldest_30 : decode cX0_forgetOldest 30 = .ok (.getfield 15, 3) := by decide +kernel
theorem dX0_forgetOldest_33 : decode cX0_forgetOldest 33 = .ok (.iload_n 1, 1) := by decide +kernel
theorem dX0_forgetOldest_34 : decode cX0_forgetOldest 34 = .ok (.iaload, 1) := by decide +kernel
theorem dX0_forgetOldest_35 : decode cX0_forgetOldest 35 = .ok (.iastore, 1) := by decide +kernel
theorem dX0_forgetOldest_36 : decode cX0_forgetOldest 36 = .ok (.iinc 1 1, 3) := by decide +kernel
theorem dX0_forgetOldest_39 : decode cX0_forgetOldest 39 = .ok (.goto (-37), 3) := by decide +kernel
theorem dX0_forgetOldest_42 : decode cX0_forgetOldest 42 = .ok (.aload_n 0, 1) := by decide +kernel
theorem dX0_forgetOldest_43 : decode cX0_forgetOldest 43 = .ok (.iconst 5, 1) := by decide +kernel
theorem dX0_forgetOldest_44 : decode cX0_forgetOldest 44 = .ok (.putfield 18, 3) := by decide +kernel
theorem dX0_forgetOldest_47 : decode cX0_forgetOldest 47 = .ok (.return_, 1) := by decide +kernel
theorem dX1_init_0 : decode cX1_init 0 = .ok (.aload_n 0, 1) := by decide +kernel
theorem dX1_init_1 : decode cX1_init 1 = .ok (.invokespecial 3, 3) := by decide +kernel
theorem dX1_init_4 : decode cX1_init 4 = .ok (.aload_n 0, 1) := by decide +kernel
theorem dX1_init_5 : decode cX1_init 5 = .ok (.iload_n 1, 1) := by decide +kernel
theorem dX1_init_6 : decode cX1_init 6 = .ok (.iconst 0, 1) := by decide +kernel
theorem dX1_init_7 : decode cX1_init 7 = .ok (.invokestatic 9, 3) := by decide +kernel
theorem dX1_init_10 : decode cX1_init 10 = .ok (.newarray .char, 2) := by decide +kernel
theorem dX1_init_12 : decode cX1_init 12 = .ok (.putfield 15, 3) := by decide +kernel
theorem dX1_init_15 : decode cX1_init 15 = .ok (.return_, 1) := by decide +kernel
theorem dX1_size_0 : decode cX1_size 0 = .ok (.aload_n 0, 1) := by decide +kernel
theorem dX1_size_1 : decode cX1_size 1 = .ok (.getfield 21, 3) := by decide +kernel
theorem dX1_size_4 : decode cX1_size 4 = .ok (.ireturn, 1) := by decide +kernel
theorem dX1_isFull_0 : decode cX1_isFull 0 = .ok (.aload_n 0, 1) := by decide +kernel
theorem dX1_isFull_1 : decode cX1_isFull 1 = .ok (.getfield 21, 3) := by decide +kernel
theorem dX1_isFull_4 : decode cX1_isFull 4 = .ok (.aload_n 0, 1) := by decide +kernel
theorem dX1_isFull_5 : decode cX1_isFull 5 = .ok (.getfield 15, 3) := by decide +kernel
theorem dX1_isFull_8 : decode cX1_isFull 8 = .ok (.arraylength, 1) := by decide +kernel
theorem dX1_isFull_9 : decode cX1_isFull 9 = .ok (.if_icmp .lt 7, 3) := by decide +kernel
theorem dX1_isFull_12 : decode cX1_isFull 12 = .ok (.iconst 1, 1) := by decide +kernel
theorem dX1_isFull_13 : decode cX1_isFull 13 = .ok (.goto 4, 3) := by decide +kernel
theorem dX1_isFull_16 : decode cX1_isFull 16 = .ok (.iconst 0, 1) := by decide +kernel
theorem dX1_isFull_17 : decode cX1_isFull 17 = .ok (.ireturn, 1) := by decide +kernel
theorem dX1_clear_0 : decode cX1_clear 0 = .ok (.aload_n 0, 1) := by decide +kernel
theorem dX1_clear_1 : decode cX1_clear 1 = .ok (.iconst 0, 1) := by decide +kernel
theorem dX1_clear_2 : decode cX1_clear 2 = .ok (.putfield 21, 3) := by decide +kernel
theorem dX1_clear_5 : decode cX1_clear 5 = .ok (.return_, 1) := by decide +kernel
theorem dX1_put_0 : decode cX1_put 0 = .ok (.aload_n 0, 1) := by decide +kernel
theorem dX1_put_1 : decode cX1_put 1 = .ok (.getfield 21, 3) := by decide +kernel
theorem dX1_put_4 : decode cX1_put 4 = .ok (.ifCond .lt 35, 3) := by decide +kernel
theorem dX1_put_7 : decode cX1_put 7 = .ok (.aload_n 0, 1) := by decide +kernel
theorem dX1_put_8 : decode cX1_put 8 = .ok (.getfield 21, 3) := by decide +kernel
theorem dX1_put_11 : decode cX1_put 11 = .ok (.aload_n 0, 1) := by decide +kernel
theorem dX1_put_12 : decode cX1_put 12 = .ok (.getfield 15, 3) := by decide +kernel
theorem dX1_put_15 : decode cX1_put 15 = .ok (.arraylength, 1) := by decide +kernel
theorem dX1_put_16 : decode cX1_put 16 = .ok (.if_icmp .ge 23, 3) := by decide +kernel
theorem dX1_put_19 : decode cX1_put 19 = .ok (.aload_n 0, 1) := by decide +kernel
theorem dX1_put_20 : decode cX1_put 20 = .ok (.getfield 15, 3) := by decide +kernel
theorem dX1_put_23 : decode cX1_put 23 = .ok (.aload_n 0, 1) := by decide +kernel
theorem dX1_put_24 : decode cX1_put 24 = .ok (.getfield 21, 3) := by decide +kernel
theorem dX1_put_27 : decode cX1_put 27 = .ok (.iload_n 1, 1) := by decide +kernel
theorem dX1_put_28 : decode cX1_put 28 = .ok (.castore, 1) := by decide +kernel
theorem dX1_put_29 : decode cX1_put 29 = .ok (.aload_n 0, 1) := by decide +kernel
theorem dX1_put_30 : decode cX1_put 30 = .ok (.dup, 1) := by decide +kernel
theorem dX1_put_31 : decode cX1_put 31 = .ok (.getfield 21, 3) := by decide +kernel
theorem dX1_put_34 : decode cX1_put 34 = .ok (.iconst 1, 1) := by decide +kernel
theorem dX1_put_35 : decode cX1_put 35 = .ok (.iadd, 1) := by decide +kernel
theorem dX1_put_36 : decode cX1_put 36 = .ok (.putfield 21, 3) := by decide +kernel
theorem dX1_put_39 : decode cX1_put 39 = .ok (.return_, 1) := by decide +kernel
theorem dX1_at_0 : decode cX1_at 0 = .ok (.iload_n 1, 1) := by decide +kernel
theorem dX1_at_1 : decode cX1_at 1 = .ok (.ifCond .lt 29, 3) := by decide +kernel
theorem dX1_at_4 : decode cX1_at 4 = .ok (.iload_n 1, 1) := by decide +kernel
theorem dX1_at_5 : decode cX1_at 5 = .ok (.aload_n 0, 1) := by decide +kernel
theorem dX1_at_6 : decode cX1_at 6 = .ok (.getfield 21, 3) := by decide +kernel
theorem dX1_at_9 : decode cX1_at 9 = .ok (.if_icmp .ge 21, 3) := by decide +kernel
theorem dX1_at_12 : decode cX1_at 12 = .ok (.iload_n 1, 1) := by decide +kernel
theorem dX1_at_13 : decode cX1_at 13 = .ok (.aload_n 0, 1) := by decide +kernel
theorem dX1_at_14 : decode cX1_at 14 = .ok (.getfield 15, 3) := by decide +kernel
theorem dX1_at_17 : decode cX1_at 17 = .ok (.arraylength, 1) := by decide +kernel
theorem dX1_at_18 : decode cX1_at 18 = .ok (.if_icmp .ge 12, 3) := by decide +kernel
theorem dX1_at_21 : decode cX1_at 21 = .ok (.aload_n 0, 1) := by decide +kernel
theorem dX1_at_22 : decode cX1_at 22 = .ok (.getfield 15, 3) := by decide +kernel
theorem dX1_at_25 : decode cX1_at 25 = .ok (.iload_n 1, 1) := by decide +kernel
theorem dX1_at_26 : decode cX1_at 26 = .ok (.caload, 1) := by decide +kernel
theorem dX1_at_27 : decode cX1_at 27 = .ok (.goto 5, 3) := by decide +kernel
theorem dX1_at_30 : decode cX1_at 30 = .ok (.bipush (-4), 2) := by decide +kernel
theorem dX1_at_32 : decode cX1_at 32 = .ok (.ireturn, 1) := by decide +kernel
theorem dX1_find_0 : decode cX1_find 0 = .ok (.iload_n 2, 1) := by decide +kernel
theorem dX1_find_1 : decode cX1_find 1 = .ok (.iconst 0, 1) := by decide +kernel
theorem dX1_find_2 : decode cX1_find 2 = .ok (.invokestatic 9, 3) := by decide +kernel
theorem dX1_find_5 : decode cX1_find 5 = .ok (.istore_n 3, 1) := by decide +kernel
theorem dX1_find_6 : decode cX1_find 6 = .ok (.iload_n 3, 1) := by decide +kernel
theorem dX1_find_7 : decode cX1_find 7 = .ok (.aload_n 0, 1) := by decide +kernel
theorem dX1_find_8 : decode cX1_find 8 = .ok (.getfield 21, 3) := by decide +kernel
theorem dX1_find_11 : decode cX1_find 11 = .ok (.if_icmp .ge 20, 3) := by decide +kernel
theorem dX1_find_14 : decode cX1_find 14 = .ok (.aload_n 0, 1) := by decide +kernel
theorem dX1_find_15 : decode cX1_find 15 = .ok (.iload_n 3, 1) := by decide +kernel
theorem dX1_find_16 : decode cX1_find 16 = .ok (.invokevirtual 25, 3) := by decide +kernel
theorem dX1_find_19 : decode cX1_find 19 = .ok (.iload_n 1, 1) := by decide +kernel
theorem dX1_find_20 : decode cX1_find 20 = .ok (.if_icmp .ne 5, 3) := by decide +kernel
theorem dX1_find_23 : decode cX1_find 23 = .ok (.iload_n 3, 1) := by decide +kernel
theorem dX1_find_24 : decode cX1_find 24 = .ok (.ireturn, 1) := by decide +kernel
theorem dX1_find_25 : decode cX1_find 25 = .ok (.iinc 3 1, 3) := by decide +kernel
theorem dX1_find_28 : decode cX1_find 28 = .ok (.goto (-22), 3) := by decide +kernel
theorem dX1_find_31 : decode cX1_find 31 = .ok (.bipush (-4), 2) := by decide +kernel
theorem dX1_find_33 : decode cX1_find 33 = .ok (.ireturn, 1) := by decide +kernel
theorem dX1_become_0 : decode cX1_become 0 = .ok (.aload_n 0, 1) := by decide +kernel
theorem dX1_become_1 : decode cX1_become 1 = .ok (.invokevirtual 29, 3) := by decide +kernel
theorem dX1_become_4 : decode cX1_become 4 = .ok (.iload_n 2, 1) := by decide +kernel
theorem dX1_become_5 : decode cX1_become 5 = .ok (.iload_n 3, 1) := by decide +kernel
theorem dX1_become_6 : decode cX1_become 6 = .ok (.if_icmp .ge 14, 3) := by decide +kernel
theorem dX1_become_9 : decode cX1_become 9 = .ok (.iload_n 3, 1) := by decide +kernel
theorem dX1_become_10 : decode cX1_become 10 = .ok (.iload_n 2, 1) := by decide +kernel
theorem dX1_become_11 : decode cX1_become 11 = .ok (.isub, 1) := by decide +kernel
theorem dX1_become_12 : decode cX1_become 12 = .ok (.aload_n 0, 1) := by decide +kernel
theorem dX1_become_13 : decode cX1_become 13 = .ok (.getfield 15, 3) := by decide +kernel
theorem dX1_become_16 : decode cX1_become 16 = .ok (.arraylength, 1) := by decide +kernel
theorem dX1_become_17 : decode cX1_become 17 = .ok (.if_icmp .le 5, 3) := by decide +kernel
theorem dX1_become_20 : decode cX1_become 20 = .ok (.iconst 0, 1) := by decide +kernel
theorem dX1_become_21 : decode cX1_become 21 = .ok (.ireturn, 1) := by decide +kernel
theorem dX1_become_22 : decode cX1_become 22 = .ok (.iload_n 2, 1) := by decide +kernel
theorem dX1_become_23 : decode cX1_become 23 = .ok (.istore 4, 2) := by decide +kernel
theorem dX1_become_25 : decode cX1_become 25 = .ok (.iload 4, 2) := by decide +kernel
theorem dX1_become_27 : decode cX1_become 27 = .ok (.iload_n 3, 1) := by decide +kernel
theorem dX1_become_28 : decode cX1_become 28 = .ok (.if_icmp .ge 40, 3) := by decide +kernel
theorem dX1_become_31 : decode cX1_become 31 = .ok (.aload_n 1, 1) := by decide +kernel
theorem dX1_become_32 : decode cX1_become 32 = .ok (.iload 4, 2) := by decide +kernel
theorem dX1_become_34 : decode cX1_become 34 = .ok (.invokevirtual 25, 3) := by decide +kernel
theorem dX1_become_37 : decode cX1_become 37 = .ok (.istore 5, 2) := by decide +kernel
theorem dX1_become_39 : decode cX1_become 39 = .ok (.iload 5, 2) := by decide +kernel
theorem dX1_become_41 : decode cX1_become 41 = .ok (.bipush 97, 2) := by decide +kernel
theorem dX1_become_43 : decode cX1_become 43 = .ok (.if_icmp .lt 10, 3) := by decide +kernel
theorem dX1_become_46 : decode cX1_become 46 = .ok (.iload 5, 2) := by decide +kernel
theorem dX1_become_48 : decode cX1_become 48 = .ok (.bipush 122, 2) := by decide +kernel
theorem dX1_become_50 : decode cX1_become 50 = .ok (.if_icmp .le 5, 3) := by decide +kernel
theorem dX1_become_53 : decode cX1_become 53 = .ok (.iconst 0, 1) := by decide +kernel
theorem dX1_become_54 : decode cX1_become 54 = .ok (.ireturn, 1) := by decide +kernel
theorem dX1_become_55 : decode cX1_become 55 = .ok (.aload_n 0, 1) := by decide +kernel
theorem dX1_become_56 : decode cX1_become 56 = .ok (.iload 5, 2) := by decide +kernel
theorem dX1_become_58 : decode cX1_become 58 = .ok (.i2c, 1) := by decide +kernel
theorem dX1_become_59 : decode cX1_become 59 = .ok (.invokevirtual 32, 3) := by decide +kernel
theorem dX1_become_62 : decode cX1_become 62 = .ok (.iinc 4 1, 3) := by decide +kernel
theorem dX1_become_65 : decode cX1_become 65 = .ok (.goto (-40), 3) := by decide +kernel
theorem dX1_become_68 : decode cX1_become 68 = .ok (.iconst 1, 1) := by decide +kernel
theorem dX1_become_69 : decode cX1_become 69 = .ok (.ireturn, 1) := by decide +kernel
theorem dX1_isVowelAt_0 : decode cX1_isVowelAt 0 = .ok (.iload_n 1, 1) := by decide +kernel
theorem dX1_isVowelAt_1 : decode cX1_isVowelAt 1 = .ok (.ifCond .lt 20, 3) := by decide +kernel
theorem dX1_isVowelAt_4 : decode cX1_isVowelAt 4 = .ok (.iload_n 1, 1) := by decide +kernel
theorem dX1_isVowelAt_5 : decode cX1_isVowelAt 5 = .ok (.aload_n 0, 1) := by decide +kernel
theorem dX1_isVowelAt_6 : decode cX1_isVowelAt 6 = .ok (.getfield 21, 3) := by decide +kernel
theorem dX1_isVowelAt_9 : decode cX1_isVowelAt 9 = .ok (.if_icmp .ge 12, 3) := by decide +kernel
theorem dX1_isVowelAt_12 : decode cX1_isVowelAt 12 = .ok (.iload_n 1, 1) := by decide +kernel
theorem dX1_isVowelAt_13 : decode cX1_isVowelAt 13 = .ok (.aload_n 0, 1) := by decide +kernel
theorem dX1_isVowelAt_14 : decode cX1_isVowelAt 14 = .ok (.getfield 15, 3) := by decide +kernel
theorem dX1_isVowelAt_17 : decode cX1_isVowelAt 17 = .ok (.arraylength, 1) := by decide +kernel
theorem dX1_isVowelAt_18 : decode cX1_isVowelAt 18 = .ok (.if_icmp .lt 5, 3) := by decide +kernel
theorem dX1_isVowelAt_21 : decode cX1_isVowelAt 21 = .ok (.iconst 0, 1) := by decide +kernel
theorem dX1_isVowelAt_22 : decode cX1_isVowelAt 22 = .ok (.ireturn, 1) := by decide +kernel
theorem dX1_isVowelAt_23 : decode cX1_isVowelAt 23 = .ok (.aload_n 0, 1) := by decide +kernel
theorem dX1_isVowelAt_24 : decode cX1_isVowelAt 24 = .ok (.getfield 15, 3) := by decide +kernel
theorem dX1_isVowelAt_27 : decode cX1_isVowelAt 27 = .ok (.iload_n 1, 1) := by decide +kernel
theorem dX1_isVowelAt_28 : decode cX1_isVowelAt 28 = .ok (.caload, 1) := by decide +kernel
theorem dX1_isVowelAt_29 : decode cX1_isVowelAt 29 = .ok (.lookupswitch 53 #[(97, 51), (101, 51), (105, 51), (111, 51), (117, 51)], 51) := by decide +kernel
theorem dX1_isVowelAt_80 : decode cX1_isVowelAt 80 = .ok (.iconst 1, 1) := by decide +kernel
theorem dX1_isVowelAt_81 : decode cX1_isVowelAt 81 = .ok (.ireturn, 1) := by decide +kernel
theorem dX1_isVowelAt_82 : decode cX1_isVowelAt 82 = .ok (.iconst 0, 1) := by decide +kernel
theorem dX1_isVowelAt_83 : decode cX1_isVowelAt 83 = .ok (.ireturn, 1) := by decide +kernel
theorem dX1_vowels_0 : decode cX1_vowels 0 = .ok (.iconst 0, 1) := by decide +kernel
theorem dX1_vowels_1 : decode cX1_vowels 1 = .ok (.istore_n 1, 1) := by decide +kernel
theorem dX1_vowels_2 : decode cX1_vowels 2 = .ok (.iconst 0, 1) := by decide +kernel
theorem dX1_vowels_3 : decode cX1_vowels 3 = .ok (.istore_n 2, 1) := by decide +kernel
theorem dX1_vowels_4 : decode cX1_vowels 4 = .ok (.iload_n 2, 1) := by decide +kernel
theorem dX1_vowels_5 : decode cX1_vowels 5 = .ok (.aload_n 0, 1) := by decide +kernel
theorem dX1_vowels_6 : decode cX1_vowels 6 = .ok (.getfield 21, 3) := by decide +kernel
theorem dX1_vowels_9 : decode cX1_vowels 9 = .ok (.if_icmp .ge 20, 3) := by decide +kernel
theorem dX1_vowels_12 : decode cX1_vowels 12 = .ok (.aload_n 0, 1) := by decide +kernel
theorem dX1_vowels_13 : decode cX1_vowels 13 = .ok (.iload_n 2, 1) := by decide +kernel
theorem dX1_vowels_14 : decode cX1_vowels 14 = .ok (.invokevirtual 36, 3) := by decide +kernel
theorem dX1_vowels_17 : decode cX1_vowels 17 = .ok (.ifCond .eq 6, 3) := by decide +kernel
theorem dX1_vowels_20 : decode cX1_vowels 20 = .ok (.iinc 1 1, 3) := by decide +kernel
theorem dX1_vowels_23 : decode cX1_vowels 23 = .ok (.iinc 2 1, 3) := by decide +kernel
theorem dX1_vowels_26 : decode cX1_vowels 26 = .ok (.goto (-22), 3) := by decide +kernel
theorem dX1_vowels_29 : decode cX1_vowels 29 = .ok (.iload_n 1, 1) := by decide +kernel
theorem dX1_vowels_30 : decode cX1_vowels 30 = .ok (.ireturn, 1) := by decide +kernel
theorem dX1_hasAt_0 : decode cX1_hasAt 0 = .ok (.iload_n 1, 1) := by decide +kernel
theorem dX1_hasAt_1 : decode cX1_hasAt 1 = .ok (.ifCond .lt 16, 3) := by decide +kernel
theorem dX1_hasAt_4 : decode cX1_hasAt 4 = .ok (.aload_n 2, 1) := by decide +kernel
theorem dX1_hasAt_5 : decode cX1_hasAt 5 = .ok (.getfield 21, 3) := by decide +kernel
theorem dX1_hasAt_8 : decode cX1_hasAt 8 = .ok (.aload_n 0, 1) := by decide +kernel
theorem dX1_hasAt_9 : decode cX1_hasAt 9 = .ok (.getfield 21, 3) := by decide +kernel
theorem dX1_hasAt_12 : decode cX1_hasAt 12 = .ok (.iload_n 1, 1) := by decide +kernel
theorem dX1_hasAt_13 : decode cX1_hasAt 13 = .ok (.isub, 1) := by decide +kernel
theorem dX1_hasAt_14 : decode cX1_hasAt 14 = .ok (.if_icmp .le 5, 3) := by decide +kernel
theorem dX1_hasAt_17 : decode cX1_hasAt 17 = .ok (.iconst 0, 1) := by decide +kernel
theorem dX1_hasAt_18 : decode cX1_hasAt 18 = .ok (.ireturn, 1) := by decide +kernel
theorem dX1_hasAt_19 : decode cX1_hasAt 19 = .ok (.iconst 0, 1) := by decide +kernel
theorem dX1_hasAt_20 : decode cX1_hasAt 20 = .ok (.istore_n 3, 1) := by decide +kernel
theorem dX1_hasAt_21 : decode cX1_hasAt 21 = .ok (.iload_n 3, 1) := by decide +kernel
theorem dX1_hasAt_22 : decode cX1_hasAt 22 = .ok (.aload_n 2, 1) := by decide +kernel
theorem dX1_hasAt_23 : decode cX1_hasAt 23 = .ok (.getfield 21, 3) := by decide +kernel
theorem dX1_hasAt_26 : decode cX1_hasAt 26 = .ok (.if_icmp .ge 48, 3) := by decide +kernel
theorem dX1_hasAt_29 : decode cX1_hasAt 29 = .ok (.iload_n 3, 1) := by decide +kernel
theorem dX1_hasAt_30 : decode cX1_hasAt 30 = .ok (.aload_n 2, 1) := by decide +kernel
theorem dX1_hasAt_31 : decode cX1_hasAt 31 = .ok (.getfield 15, 3) := by decide +kernel
theorem dX1_hasAt_34 : decode cX1_hasAt 34 = .ok (.arraylength, 1) := by decide +kernel
theorem dX1_hasAt_35 : decode cX1_hasAt 35 = .ok (.if_icmp .ge 39, 3) := by decide +kernel
theorem dX1_hasAt_38 : decode cX1_hasAt 38 = .ok (.iload_n 1, 1) := by decide +kernel
theorem dX1_hasAt_39 : decode cX1_hasAt 39 = .ok (.iload_n 3, 1) := by decide +kernel
theorem dX1_hasAt_40 : decode cX1_hasAt 40 = .ok (.iadd, 1) := by decide +kernel
theorem dX1_hasAt_41 : decode cX1_hasAt 41 = .ok (.aload_n 0, 1) := by decide +kernel
theorem dX1_hasAt_42 : decode cX1_hasAt 42 = .ok (.getfield 15, 3) := by decide +kernel
theorem dX1_hasAt_45 : decode cX1_hasAt 45 = .ok (.arraylength, 1) := by decide +kernel
theorem dX1_hasAt_46 : decode cX1_hasAt 46 = .ok (.if_icmp .ge 28, 3) := by decide +kernel
theorem dX1_hasAt_49 : decode cX1_hasAt 49 = .ok (.aload_n 0, 1) := by decide +kernel
theorem dX1_hasAt_50 : decode cX1_hasAt 50 = .ok (.getfield 15, 3) := by decide +kernel
theorem dX1_hasAt_53 : decode cX1_hasAt 53 = .ok (.iload_n 1, 1) := by decide +kernel
theorem dX1_hasAt_54 : decode cX1_hasAt 54 = .ok (.iload_n 3, 1) := by decide +kernel
theorem dX1_hasAt_55 : decode cX1_hasAt 55 = .ok (.iadd, 1) := by decide +kernel
theorem dX1_hasAt_56 : decode cX1_hasAt 56 = .ok (.caload, 1) := by decide +kernel
theorem dX1_hasAt_57 : decode cX1_hasAt 57 = .ok (.aload_n 2, 1) := by decide +kernel
theorem dX1_hasAt_58 : decode cX1_hasAt 58 = .ok (.getfield 15, 3) := by decide +kernel
theorem dX1_hasAt_61 : decode cX1_hasAt 61 = .ok (.iload_n 3, 1) := by decide +kernel
theorem dX1_hasAt_62 : decode cX1_hasAt 62 = .ok (.caload, 1) := by decide +kernel
theorem dX1_hasAt_63 : decode cX1_hasAt 63 = .ok (.if_icmp .eq 5, 3) := by decide +kernel
theorem dX1_hasAt_66 : decode cX1_hasAt 66 = .ok (.iconst 0, 1) := by decide +kernel
theorem dX1_hasAt_67 : decode cX1_hasAt 67 = .ok (.ireturn, 1) := by decide +kernel
theorem dX1_hasAt_68 : decode cX1_hasAt 68 = .ok (.iinc 3 1, 3) := by decide +kernel
theorem dX1_hasAt_71 : decode cX1_hasAt 71 = .ok (.goto (-50), 3) := by decide +kernel
theorem dX1_hasAt_74 : decode cX1_hasAt 74 = .ok (.iconst 1, 1) := by decide +kernel
theorem dX1_hasAt_75 : decode cX1_hasAt 75 = .ok (.ireturn, 1) := by decide +kernel
theorem dX2_init_0 : decode cX2_init 0 = .ok (.aload_n 0, 1) := by decide +kernel
theorem dX2_init_1 : decode cX2_init 1 = .ok (.invokespecial 3, 3) := by decide +kernel
theorem dX2_init_4 : decode cX2_init 4 = .ok (.aload_n 0, 1) := by decide +kernel
theorem dX2_init_5 : decode cX2_init 5 = .ok (.bipush 12, 2) := by decide +kernel
theorem dX2_init_7 : decode cX2_init 7 = .ok (.anewarray 9, 3) := by decide +kernel
theorem dX2_init_10 : decode cX2_init 10 = .ok (.putfield 11, 3) := by decide +kernel
theorem dX2_init_13 : decode cX2_init 13 = .ok (.aload_n 0, 1) := by decide +kernel
theorem dX2_init_14 : decode cX2_init 14 = .ok (.bipush 8, 2) := by decide +kernel
theorem dX2_init_16 : decode cX2_init 16 = .ok (.anewarray 17, 3) := by decide +kernel
theorem dX2_init_19 : decode cX2_init 19 = .ok (.putfield 19, 3) := by decide +kernel
theorem dX2_init_22 : decode cX2_init 22 = .ok (.iconst 0, 1) := by decide +kernel
theorem dX2_init_23 : decode cX2_init 23 = .ok (.istore_n 1, 1) := by decide +kernel
theorem dX2_init_24 : decode cX2_init 24 = .ok (.iload_n 1, 1) := by decide +kernel
theorem dX2_init_25 : decode cX2_init 25 = .ok (.bipush 12, 2) := by decide +kernel
theorem dX2_init_27 : decode cX2_init 27 = .ok (.if_icmp .ge 22, 3) := by decide +kernel
theorem dX2_init_30 : decode cX2_init 30 = .ok (.aload_n 0, 1) := by decide +kernel
theorem dX2_init_31 : decode cX2_init 31 = .ok (.getfield 11, 3) := by decide +kernel
theorem dX2_init_34 : decode cX2_init 34 = .ok (.iload_n 1, 1) := by decide +kernel
theorem dX2_init_35 : decode cX2_init 35 = .ok (.new 9, 3) := by decide +kernel
theorem dX2_init_38 : decode cX2_init 38 = .ok (.dup, 1) := by decide +kernel
theorem dX2_init_39 : decode cX2_init 39 = .ok (.invokespecial 23, 3) := by decide +kernel
theorem dX2_init_42 : decode cX2_init 42 = .ok (.aastore, 1) := by decide +kernel
theorem dX2_init_43 : decode cX2_init 43 = .ok (.iinc 1 1, 3) := by decide +kernel
theorem dX2_init_46 : decode cX2_init 46 = .ok (.goto (-22), 3) := by decide +kernel
theorem dX2_init_49 : decode cX2_init 49 = .ok (.iconst 0, 1) := by decide +kernel
theorem dX2_init_50 : decode cX2_init 50 = .ok (.istore_n 1, 1) := by decide +kernel
theorem dX2_init_51 : decode cX2_init 51 = .ok (.iload_n 1, 1) := by decide +kernel
theorem dX2_init_52 : decode cX2_init 52 = .ok (.bipush 8, 2) := by decide +kernel
theorem dX2_init_54 : decode cX2_init 54 = .ok (.if_icmp .ge 22, 3) := by decide +kernel
theorem dX2_init_57 : decode cX2_init 57 = .ok (.aload_n 0, 1) := by decide +kernel
theorem dX2_init_58 : decode cX2_init 58 = .ok (.getfield 19, 3) := by decide +kernel
theorem dX2_init_61 : decode cX2_init 61 = .ok (.iload_n 1, 1) := by decide +kernel
theorem dX2_init_62 : decode cX2_init 62 = .ok (.new 17, 3) := by decide +kernel
theorem dX2_init_65 : decode cX2_init 65 = .ok (.dup, 1) := by decide +kernel
theorem dX2_init_66 : decode cX2_init 66 = .ok (.invokespecial 24, 3) := by decide +kernel
theorem dX2_init_69 : decode cX2_init 69 = .ok (.aastore, 1) := by decide +kernel
theorem dX2_init_70 : decode cX2_init 70 = .ok (.iinc 1 1, 3) := by decide +kernel
theorem dX2_init_73 : decode cX2_init 73 = .ok (.goto (-22), 3) := by decide +kernel
theorem dX2_init_76 : decode cX2_init 76 = .ok (.return_, 1) := by decide +kernel
theorem dX2_clear_0 : decode cX2_clear 0 = .ok (.aload_n 0, 1) := by decide +kernel
theorem dX2_clear_1 : decode cX2_clear 1 = .ok (.iconst 0, 1) := by decide +kernel
theorem dX2_clear_2 : decode cX2_clear 2 = .ok (.putfield 25, 3) := by decide +kernel
theorem dX2_clear_5 : decode cX2_clear 5 = .ok (.aload_n 0, 1) := by decide +kernel
theorem dX2_clear_6 : decode cX2_clear 6 = .ok (.iconst 0, 1) := by decide +kernel
theorem dX2_clear_7 : decode cX2_clear 7 = .ok (.putfield 29, 3) := by decide +kernel
theorem dX2_clear_10 : decode cX2_clear 10 = .ok (.aload_n 0, 1) := by decide +kernel
theorem dX2_clear_11 : decode cX2_clear 11 = .ok (.iconst 0, 1) := by decide +kernel
theorem dX2_clear_12 : decode cX2_clear 12 = .ok (.putfield 32, 3) := by decide +kernel
theorem dX2_clear_15 : decode cX2_clear 15 = .ok (.return_, 1) := by decide +kernel
theorem dX2_signAt_0 : decode cX2_signAt 0 = .ok (.iload_n 1, 1) := by decide +kernel
theorem dX2_signAt_1 : decode cX2_signAt 1 = .ok (.ifCond .lt 26, 3) := by decide +kernel
theorem dX2_signAt_4 : decode cX2_signAt 4 = .ok (.iload_n 1, 1) := by decide +kernel
theorem dX2_signAt_5 : decode cX2_signAt 5 = .ok (.aload_n 0, 1) := by decide +kernel
theorem dX2_signAt_6 : decode cX2_signAt 6 = .ok (.getfield 25, 3) := by decide +kernel
theorem dX2_signAt_9 : decode cX2_signAt 9 = .ok (.if_icmp .ge 18, 3) := by decide +kernel
theorem dX2_signAt_12 : decode cX2_signAt 12 = .ok (.iload_n 1, 1) := by decide +kernel
theorem dX2_signAt_13 : decode cX2_signAt 13 = .ok (.bipush 12, 2) := by decide +kernel
theorem dX2_signAt_15 : decode cX2_signAt 15 = .ok (.if_icmp .ge 12, 3) := by decide +kernel
theorem dX2_signAt_18 : decode cX2_signAt 18 = .ok (.aload_n 0, 1) := by decide +kernel
theorem dX2_signAt_19 : decode cX2_signAt 19 = .ok (.getfield 11, 3) := by decide +kernel
theorem dX2_signAt_22 : decode cX2_signAt 22 = .ok (.iload_n 1, 1) := by decide +kernel
theorem dX2_signAt_23 : decode cX2_signAt 23 = .ok (.aaload, 1) := by decide +kernel
theorem dX2_signAt_24 : decode cX2_signAt 24 = .ok (.goto 4, 3) := by decide +kernel
theorem dX2_signAt_27 : decode cX2_signAt 27 = .ok (.aconst_null, 1) := by decide +kernel
theorem dX2_signAt_28 : decode cX2_signAt 28 = .ok (.areturn, 1) := by decide +kernel
theorem dX2_wordAt_0 : decode cX2_wordAt 0 = .ok (.iload_n 1, 1) := by decide +kernel
theorem dX2_wordAt_1 : decode cX2_wordAt 1 = .ok (.ifCond .lt 26, 3) := by decide +kernel
theorem dX2_wordAt_4 : decode cX2_wordAt 4 = .ok (.iload_n 1, 1) := by decide +kernel
theorem dX2_wordAt_5 : decode cX2_wordAt 5 = .ok (.aload_n 0, 1) := by decide +kernel
theorem dX2_wordAt_6 : decode cX2_wordAt 6 = .ok (.getfield 29, 3) := by decide +kernel
theorem dX2_wordAt_9 : decode cX2_wordAt 9 = .ok (.if_icmp .ge 18, 3) := by decide +kernel
theorem dX2_wordAt_12 : decode cX2_wordAt 12 = .ok (.iload_n 1, 1) := by decide +kernel
theorem dX2_wordAt_13 : decode cX2_wordAt 13 = .ok (.bipush 8, 2) := by decide +kernel
theorem dX2_wordAt_15 : decode cX2_wordAt 15 = .ok (.if_icmp .ge 12, 3) := by decide +kernel
theorem dX2_wordAt_18 : decode cX2_wordAt 18 = .ok (.aload_n 0, 1) := by decide +kernel
theorem dX2_wordAt_19 : decode cX2_wordAt 19 = .ok (.getfield 19, 3) := by decide +kernel
theorem dX2_wordAt_22 : decode cX2_wordAt 22 = .ok (.iload_n 1, 1) := by decide +kernel
theorem dX2_wordAt_23 : decode cX2_wordAt 23 = .ok (.aaload, 1) := by decide +kernel
theorem dX2_wordAt_24 : decode cX2_wordAt 24 = .ok (.goto 4, 3) := by decide +kernel
theorem dX2_wordAt_27 : decode cX2_wordAt 27 = .ok (.aconst_null, 1) := by decide +kernel
theorem dX2_wordAt_28 : decode cX2_wordAt 28 = .ok (.areturn, 1) := by decide +kernel
theorem dX2_nextSign_0 : decode cX2_nextSign 0 = .ok (.aload_n 0, 1) := by decide +kernel
theorem dX2_nextSign_1 : decode cX2_nextSign 1 = .ok (.getfield 25, 3) := by decide +kernel
theorem dX2_nextSign_4 : decode cX2_nextSign 4 = .ok (.ifCond .lt 24, 3) := by decide +kernel
theorem dX2_nextSign_7 : decode cX2_nextSign 7 = .ok (.aload_n 0, 1) := by decide +kernel
theorem dX2_nextSign_8 : decode cX2_nextSign 8 = .ok (.getfield 25, 3) := by decide +kernel
theorem dX2_nextSign_11 : decode cX2_nextSign 11 = .ok (.bipush 12, 2) := by decide +kernel
theorem dX2_nextSign_13 : decode cX2_nextSign 13 = .ok (.if_icmp .ge 15, 3) := by decide +kernel
theorem dX2_nextSign_16 : decode cX2_nextSign 16 = .ok (.aload_n 0, 1) := by decide +kernel
theorem dX2_nextSign_17 : decode cX2_nextSign 17 = .ok (.getfield 11, 3) := by decide +kernel
theorem dX2_nextSign_20 : decode cX2_nextSign 20 = .ok (.aload_n 0, 1) := by decide +kernel
theorem dX2_nextSign_21 : decode cX2_nextSign 21 = .ok (.getfield 25, 3) := by decide +kernel
theorem dX2_nextSign_24 : decode cX2_nextSign 24 = .ok (.aaload, 1) := by decide +kernel
theorem dX2_nextSign_25 : decode cX2_nextSign 25 = .ok (.goto 4, 3) := by decide +kernel
theorem dX2_nextSign_28 : decode cX2_nextSign 28 = .ok (.aconst_null, 1) := by decide +kernel
theorem dX2_nextSign_29 : decode cX2_nextSign 29 = .ok (.areturn, 1) := by decide +kernel
theorem dX2_nextWord_0 : decode cX2_nextWord 0 = .ok (.aload_n 0, 1) := by decide +kernel
theorem dX2_nextWord_1 : decode cX2_nextWord 1 = .ok (.getfield 29, 3) := by decide +kernel
theorem dX2_nextWord_4 : decode cX2_nextWord 4 = .ok (.ifCond .lt 24, 3) := by decide +kernel
theorem dX2_nextWord_7 : decode cX2_nextWord 7 = .ok (.aload_n 0, 1) := by decide +kernel
theorem dX2_nextWord_8 : decode cX2_nextWord 8 = .ok (.getfield 29, 3) := by decide +kernel
theorem dX2_nextWord_11 : decode cX2_nextWord 11 = .ok (.bipush 8, 2) := by decide +kernel
theorem dX2_nextWord_13 : decode cX2_nextWord 13 = .ok (.if_icmp .ge 15, 3) := by decide +kernel
theorem dX2_nextWord_16 : decode cX2_nextWord 16 = .ok (.aload_n 0, 1) := by decide +kernel
theorem dX2_nextWord_17 : decode cX2_nextWord 17 = .ok (.getfield 19, 3) := by decide +kernel
theorem dX2_nextWord_20 : decode cX2_nextWord 20 = .ok (.aload_n 0, 1) := by decide +kernel
theorem dX2_nextWord_21 : decode cX2_nextWord 21 = .ok (.getfield 29, 3) := by decide +kernel
theorem dX2_nextWord_24 : decode cX2_nextWord 24 = .ok (.aaload, 1) := by decide +kernel
theorem dX2_nextWord_25 : decode cX2_nextWord 25 = .ok (.goto 4, 3) := by decide +kernel
theorem dX2_nextWord_28 : decode cX2_nextWord 28 = .ok (.aconst_null, 1) := by decide +kernel
theorem dX2_nextWord_29 : decode cX2_nextWord 29 = .ok (.areturn, 1) := by decide +kernel
theorem dX2_wordOf_0 : decode cX2_wordOf 0 = .ok (.iconst 0, 1) := by decide +kernel
theorem dX2_wordOf_1 : decode cX2_wordOf 1 = .ok (.istore_n 3, 1) := by decide +kernel
theorem dX2_wordOf_2 : decode cX2_wordOf 2 = .ok (.iload_n 3, 1) := by decide +kernel
theorem dX2_wordOf_3 : decode cX2_wordOf 3 = .ok (.aload_n 0, 1) := by decide +kernel
theorem dX2_wordOf_4 : decode cX2_wordOf 4 = .ok (.getfield 29, 3) := by decide +kernel
theorem dX2_wordOf_7 : decode cX2_wordOf 7 = .ok (.if_icmp .ge 63, 3) := by decide +kernel
theorem dX2_wordOf_10 : decode cX2_wordOf 10 = .ok (.aload_n 0, 1) := by decide +kernel
theorem dX2_wordOf_11 : decode cX2_wordOf 11 = .ok (.iload_n 3, 1) := by decide +kernel
theorem dX2_wordOf_12 : decode cX2_wordOf 12 = .ok (.invokevirtual 36, 3) := by decide +kernel
theorem dX2_wordOf_15 : decode cX2_wordOf 15 = .ok (.astore 4, 2) := by decide +kernel
theorem dX2_wordOf_17 : decode cX2_wordOf 17 = .ok (.aload 4, 2) := by decide +kernel
theorem dX2_wordOf_19 : decode cX2_wordOf 19 = .ok (.ifnull 45, 3) := by decide +kernel
theorem dX2_wordOf_22 : decode cX2_wordOf 22 = .ok (.aload 4, 2) := by decide +kernel
theorem dX2_wordOf_24 : decode cX2_wordOf 24 = .ok (.getfield 40, 3) := by decide +kernel
theorem dX2_wordOf_27 : decode cX2_wordOf 27 = .ok (.iload_n 1, 1) := by decide +kernel
theorem dX2_wordOf_28 : decode cX2_wordOf 28 = .ok (.if_icmp .ne 36, 3) := by decide +kernel
theorem dX2_wordOf_31 : decode cX2_wordOf 31 = .ok (.aload 4, 2) := by decide +kernel
theorem dX2_wordOf_33 : decode cX2_wordOf 33 = .ok (.getfield 43, 3) := by decide +kernel
theorem dX2_wordOf_36 : decode cX2_wordOf 36 = .ok (.invokevirtual 47, 3) := by decide +kernel
theorem dX2_wordOf_39 : decode cX2_wordOf 39 = .ok (.aload_n 2, 1) := by decide +kernel
theorem dX2_wordOf_40 : decode cX2_wordOf 40 = .ok (.invokevirtual 47, 3) := by decide +kernel
theorem dX2_wordOf_43 : decode cX2_wordOf 43 = .ok (.if_icmp .eq 6, 3) := by decide +kernel
theorem dX2_wordOf_46 : decode cX2_wordOf 46 = .ok (.goto 18, 3) := by decide +kernel
theorem dX2_wordOf_49 : decode cX2_wordOf 49 = .ok (.aload 4, 2) := by decide +kernel
theorem dX2_wordOf_51 : decode cX2_wordOf 51 = .ok (.getfield 43, 3) := by decide +kernel
theorem dX2_wordOf_54 : decode cX2_wordOf 54 = .ok (.iconst 0, 1) := by decide +kernel
theorem dX2_wordOf_55 : decode cX2_wordOf 55 = .ok (.aload_n 2, 1) := by decide +kernel
theorem dX2_wordOf_56 : decode cX2_wordOf 56 = .ok (.invokevirtual 53, 3) := by decide +kernel
theorem dX2_wordOf_59 : decode cX2_wordOf 59 = .ok (.ifCond .eq 5, 3) := by decide +kernel
theorem dX2_wordOf_62 : decode cX2_wordOf 62 = .ok (.iload_n 3, 1) := by decide +kernel
theorem dX2_wordOf_63 : decode cX2_wordOf 63 = .ok (.ireturn, 1) := by decide +kernel
theorem dX2_wordOf_64 : decode cX2_wordOf 64 = .ok (.iinc 3 1, 3) := by decide +kernel
theorem dX2_wordOf_67 : decode cX2_wordOf 67 = .ok (.goto (-65), 3) := by decide +kernel
theorem dX2_wordOf_70 : decode cX2_wordOf 70 = .ok (.bipush (-4), 2) := by decide +kernel
theorem dX2_wordOf_72 : decode cX2_wordOf 72 = .ok (.ireturn, 1) := by decide +kernel
theorem dX2_struckSigns_0 : decode cX2_struckSigns 0 = .ok (.iconst 0, 1) := by decide +kernel
theorem dX2_struckSigns_1 : decode cX2_struckSigns 1 = .ok (.istore_n 1, 1) := by decide +kernel
theorem dX2_struckSigns_2 : decode cX2_struckSigns 2 = .ok (.iconst 0, 1) := by decide +kernel
theorem dX2_struckSigns_3 : decode cX2_struckSigns 3 = .ok (.istore_n 2, 1) := by decide +kernel
theorem dX2_struckSigns_4 : decode cX2_struckSigns 4 = .ok (.iload_n 2, 1) := by decide +kernel
theorem dX2_struckSigns_5 : decode cX2_struckSigns 5 = .ok (.aload_n 0, 1) := by decide +kernel
theorem dX2_struckSigns_6 : decode cX2_struckSigns 6 = .ok (.getfield 25, 3) := by decide +kernel
theorem dX2_struckSigns_9 : decode cX2_struckSigns 9 = .ok (.if_icmp .ge 29, 3) := by decide +kernel
theorem dX2_struckSigns_12 : decode cX2_struckSigns 12 = .ok (.aload_n 0, 1) := by decide +kernel
theorem dX2_struckSigns_13 : decode cX2_struckSigns 13 = .ok (.iload_n 2, 1) := by decide +kernel
theorem dX2_struckSigns_14 : decode cX2_struckSigns 14 = .ok (.invokevirtual 57, 3) := by decide +kernel
theorem dX2_struckSigns_17 : decode cX2_struckSigns 17 = .ok (.astore_n 3, 1) := by decide +kernel
theorem dX2_struckSigns_18 : decode cX2_struckSigns 18 = .ok (.aload_n 3, 1) := by decide +kernel
theorem dX2_struckSigns_19 : decode cX2_struckSigns 19 = .ok (.ifnull 13, 3) := by decide +kernel
theorem dX2_struckSigns_22 : decode cX2_struckSigns 22 = .ok (.aload_n 3, 1) := by decide +kernel
theorem dX2_struckSigns_23 : decode cX2_struckSigns 23 = .ok (.getfield 61, 3) := by decide +kernel
theorem dX2_struckSigns_26 : decode cX2_struckSigns 26 = .ok (.ifCond .eq 6, 3) := by decide +kernel
theorem dX2_struckSigns_29 : decode cX2_struckSigns 29 = .ok (.iinc 1 1, 3) := by decide +kernel
theorem dX2_struckSigns_32 : decode cX2_struckSigns 32 = .ok (.iinc 2 1, 3) := by decide +kernel
theorem dX2_struckSigns_35 : decode cX2_struckSigns 35 = .ok (.goto (-31), 3) := by decide +kernel
theorem dX2_struckSigns_38 : decode cX2_struckSigns 38 = .ok (.iload_n 1, 1) := by decide +kernel
theorem dX2_struckSigns_39 : decode cX2_struckSigns 39 = .ok (.ireturn, 1) := by decide +kernel
theorem dX2_lowestMark_0 : decode cX2_lowestMark 0 = .ok (.iconst 0, 1) := by decide +kernel
theorem dX2_lowestMark_1 : decode cX2_lowestMark 1 = .ok (.istore_n 2, 1) := by decide +kernel
theorem dX2_lowestMark_2 : decode cX2_lowestMark 2 = .ok (.iload_n 2, 1) := by decide +kernel
theorem dX2_lowestMark_3 : decode cX2_lowestMark 3 = .ok (.aload_n 0, 1) := by decide +kernel
theorem dX2_lowestMark_4 : decode cX2_lowestMark 4 = .ok (.getfield 25, 3) := by decide +kernel
theorem dX2_lowestMark_7 : decode cX2_lowestMark 7 = .ok (.if_icmp .ge 24, 3) := by decide +kernel
theorem dX2_lowestMark_10 : decode cX2_lowestMark 10 = .ok (.aload_n 0, 1) := by decide +kernel
theorem dX2_lowestMark_11 : decode cX2_lowestMark 11 = .ok (.aload_n 0, 1) := by decide +kernel
theorem dX2_lowestMark_12 : decode cX2_lowestMark 12 = .ok (.iload_n 2, 1) := by decide +kernel
theorem dX2_lowestMark_13 : decode cX2_lowestMark 13 = .ok (.invokevirtual 57, 3) := by decide +kernel
theorem dX2_lowestMark_16 : decode cX2_lowestMark 16 = .ok (.iload_n 1, 1) := by decide +kernel
theorem dX2_lowestMark_17 : decode cX2_lowestMark 17 = .ok (.invokevirtual 64, 3) := by decide +kernel
theorem dX2_lowestMark_20 : decode cX2_lowestMark 20 = .ok (.ifCond .eq 5, 3) := by decide +kernel
theorem dX2_lowestMark_23 : decode cX2_lowestMark 23 = .ok (.iload_n 2, 1) := by decide +kernel
theorem dX2_lowestMark_24 : decode cX2_lowestMark 24 = .ok (.ireturn, 1) := by decide +kernel
theorem dX2_lowestMark_25 : decode cX2_lowestMark 25 = .ok (.iinc 2 1, 3) := by decide +kernel
theorem dX2_lowestMark_28 : decode cX2_lowestMark 28 = .ok (.goto (-26), 3) := by decide +kernel
theorem dX2_lowestMark_31 : decode cX2_lowestMark 31 = .ok (.bipush (-4), 2) := by decide +kernel
theorem dX2_lowestMark_33 : decode cX2_lowestMark 33 = .ok (.ireturn, 1) := by decide +kernel
theorem dX2_marksOf_0 : decode cX2_marksOf 0 = .ok (.iconst 0, 1) := by decide +kernel
theorem dX2_marksOf_1 : decode cX2_marksOf 1 = .ok (.istore_n 2, 1) := by decide +kernel
theorem dX2_marksOf_2 : decode cX2_marksOf 2 = .ok (.iconst 0, 1) := by decide +kernel
theorem dX2_marksOf_3 : decode cX2_marksOf 3 = .ok (.istore_n 3, 1) := by decide +kernel
theorem dX2_marksOf_4 : decode cX2_marksOf 4 = .ok (.iload_n 3, 1) := by decide +kernel
theorem dX2_marksOf_5 : decode cX2_marksOf 5 = .ok (.aload_n 0, 1) := by decide +kernel
theorem dX2_marksOf_6 : decode cX2_marksOf 6 = .ok (.getfield 25, 3) := by decide +kernel
theorem dX2_marksOf_9 : decode cX2_marksOf 9 = .ok (.if_icmp .ge 25, 3) := by decide +kernel
theorem dX2_marksOf_12 : decode cX2_marksOf 12 = .ok (.aload_n 0, 1) := by decide +kernel
theorem dX2_marksOf_13 : decode cX2_marksOf 13 = .ok (.aload_n 0, 1) := by decide +kernel
theorem dX2_marksOf_14 : decode cX2_marksOf 14 = .ok (.iload_n 3, 1) := by decide +kernel
theorem dX2_marksOf_15 : decode cX2_marksOf 15 = .ok (.invokevirtual 57, 3) := by decide +kernel
theorem dX2_marksOf_18 : decode cX2_marksOf 18 = .ok (.iload_n 1, 1) := by decide +kernel
theorem dX2_marksOf_19 : decode cX2_marksOf 19 = .ok (.invokevirtual 64, 3) := by decide +kernel
theorem dX2_marksOf_22 : decode cX2_marksOf 22 = .ok (.ifCond .eq 6, 3) := by decide +kernel
theorem dX2_marksOf_25 : decode cX2_marksOf 25 = .ok (.iinc 2 1, 3) := by decide +kernel
theorem dX2_marksOf_28 : decode cX2_marksOf 28 = .ok (.iinc 3 1, 3) := by decide +kernel
theorem dX2_marksOf_31 : decode cX2_marksOf 31 = .ok (.goto (-27), 3) := by decide +kernel
theorem dX2_marksOf_34 : decode cX2_marksOf 34 = .ok (.iload_n 2, 1) := by decide +kernel
theorem dX2_marksOf_35 : decode cX2_marksOf 35 = .ok (.ireturn, 1) := by decide +kernel
theorem dX2_marks_0 : decode cX2_marks 0 = .ok (.aload_n 1, 1) := by decide +kernel
theorem dX2_marks_1 : decode cX2_marks 1 = .ok (.ifnull 30, 3) := by decide +kernel
theorem dX2_marks_4 : decode cX2_marks 4 = .ok (.aload_n 1, 1) := by decide +kernel
theorem dX2_marks_5 : decode cX2_marks 5 = .ok (.getfield 68, 3) := by decide +kernel
theorem dX2_marks_8 : decode cX2_marks 8 = .ok (.iconst 2, 1) := by decide +kernel
theorem dX2_marks_9 : decode cX2_marks 9 = .ok (.if_icmp .ne 22, 3) := by decide +kernel
theorem dX2_marks_12 : decode cX2_marks 12 = .ok (.aload_n 1, 1) := by decide +kernel
theorem dX2_marks_13 : decode cX2_marks 13 = .ok (.getfield 61, 3) := by decide +kernel
theorem dX2_marks_16 : decode cX2_marks 16 = .ok (.ifCond .ne 15, 3) := by decide +kernel
theorem dX2_marks_19 : decode cX2_marks 19 = .ok (.aload_n 1, 1) := by decide +kernel
theorem dX2_marks_20 : decode cX2_marks 20 = .ok (.getfield 71, 3) := by decide +kernel
theorem dX2_marks_23 : decode cX2_marks 23 = .ok (.iload_n 2, 1) := by decide +kernel
theorem dX2_marks_24 : decode cX2_marks 24 = .ok (.if_icmp .ne 7, 3) := by decide +kernel
theorem dX2_marks_27 : decode cX2_marks 27 = .ok (.iconst 1, 1) := by decide +kernel
theorem dX2_marks_28 : decode cX2_marks 28 = .ok (.goto 4, 3) := by decide +kernel
theorem dX2_marks_31 : decode cX2_marks 31 = .ok (.iconst 0, 1) := by decide +kernel
theorem dX2_marks_32 : decode cX2_marks 32 = .ok (.ireturn, 1) := by decide +kernel
theorem dX2_lettersOf_0 : decode cX2_lettersOf 0 = .ok (.iconst 0, 1) := by decide +kernel
theorem dX2_lettersOf_1 : decode cX2_lettersOf 1 = .ok (.istore_n 2, 1) := by decide +kernel
theorem dX2_lettersOf_2 : decode cX2_lettersOf 2 = .ok (.iconst 0, 1) := by decide +kernel
theorem dX2_lettersOf_3 : decode cX2_lettersOf 3 = .ok (.istore_n 3, 1) := by decide +kernel
theorem dX2_lettersOf_4 : decode cX2_lettersOf 4 = .ok (.iload_n 3, 1) := by decide +kernel
theorem dX2_lettersOf_5 : decode cX2_lettersOf 5 = .ok (.aload_n 1, 1) := by decide +kernel
theorem dX2_lettersOf_6 : decode cX2_lettersOf 6 = .ok (.invokevirtual 72, 3) := by decide +kernel
theorem dX2_lettersOf_9 : decode cX2_lettersOf 9 = .ok (.if_icmp .ge 36, 3) := by decide +kernel
theorem dX2_lettersOf_12 : decode cX2_lettersOf 12 = .ok (.aload_n 0, 1) := by decide +kernel
theorem dX2_lettersOf_13 : decode cX2_lettersOf 13 = .ok (.aload_n 1, 1) := by decide +kernel
theorem dX2_lettersOf_14 : decode cX2_lettersOf 14 = .ok (.iload_n 3, 1) := by decide +kernel
theorem dX2_lettersOf_15 : decode cX2_lettersOf 15 = .ok (.invokevirtual 75, 3) := by decide +kernel
theorem dX2_lettersOf_18 : decode cX2_lettersOf 18 = .ok (.invokevirtual 57, 3) := by decide +kernel
theorem dX2_lettersOf_21 : decode cX2_lettersOf 21 = .ok (.astore 4, 2) := by decide +kernel
theorem dX2_lettersOf_23 : decode cX2_lettersOf 23 = .ok (.aload 4, 2) := by decide +kernel
theorem dX2_lettersOf_25 : decode cX2_lettersOf 25 = .ok (.ifnull 14, 3) := by decide +kernel
theorem dX2_lettersOf_28 : decode cX2_lettersOf 28 = .ok (.iload_n 2, 1) := by decide +kernel
theorem dX2_lettersOf_29 : decode cX2_lettersOf 29 = .ok (.aload 4, 2) := by decide +kernel
theorem dX2_lettersOf_31 : decode cX2_lettersOf 31 = .ok (.getfield 79, 3) := by decide +kernel
theorem dX2_lettersOf_34 : decode cX2_lettersOf 34 = .ok (.invokevirtual 47, 3) := by decide +kernel
theorem dX2_lettersOf_37 : decode cX2_lettersOf 37 = .ok (.iadd, 1) := by decide +kernel
theorem dX2_lettersOf_38 : decode cX2_lettersOf 38 = .ok (.istore_n 2, 1) := by decide +kernel
theorem dX2_lettersOf_39 : decode cX2_lettersOf 39 = .ok (.iinc 3 1, 3) := by decide +kernel
theorem dX2_lettersOf_42 : decode cX2_lettersOf 42 = .ok (.goto (-38), 3) := by decide +kernel
theorem dX2_lettersOf_45 : decode cX2_lettersOf 45 = .ok (.iload_n 2, 1) := by decide +kernel
theorem dX2_lettersOf_46 : decode cX2_lettersOf 46 = .ok (.ireturn, 1) := by decide +kernel
theorem dX2_placeBehind_0 : decode cX2_placeBehind 0 = .ok (.iload_n 2, 1) := by decide +kernel
theorem dX2_placeBehind_1 : decode cX2_placeBehind 1 = .ok (.ifCond .lt 18, 3) := by decide +kernel
theorem dX2_placeBehind_4 : decode cX2_placeBehind 4 = .ok (.aload_n 3, 1) := by decide +kernel
theorem dX2_placeBehind_5 : decode cX2_placeBehind 5 = .ok (.getfield 61, 3) := by decide +kernel
theorem dX2_placeBehind_8 : decode cX2_placeBehind 8 = .ok (.ifCond .ne 11, 3) := by decide +kernel
theorem dX2_placeBehind_11 : decode cX2_placeBehind 11 = .ok (.aload_n 3, 1) := by decide +kernel
theorem dX2_placeBehind_12 : decode cX2_placeBehind 12 = .ok (.getfield 68, 3) := by decide +kernel
theorem dX2_placeBehind_15 : decode cX2_placeBehind 15 = .ok (.iconst 2, 1) := by decide +kernel
theorem dX2_placeBehind_16 : decode cX2_placeBehind 16 = .ok (.if_icmp .ne 6, 3) := by decide +kernel
theorem dX2_placeBehind_19 : decode cX2_placeBehind 19 = .ok (.bipush (-4), 2) := by decide +kernel
theorem dX2_placeBehind_21 : decode cX2_placeBehind 21 = .ok (.ireturn, 1) := by decide +kernel
theorem dX2_placeBehind_22 : decode cX2_placeBehind 22 = .ok (.iload_n 2, 1) := by decide +kernel
theorem dX2_placeBehind_23 : decode cX2_placeBehind 23 = .ok (.istore 4, 2) := by decide +kernel
theorem dX2_placeBehind_25 : decode cX2_placeBehind 25 = .ok (.iload 4, 2) := by decide +kernel
theorem dX2_placeBehind_27 : decode cX2_placeBehind 27 = .ok (.aload_n 1, 1) := by decide +kernel
theorem dX2_placeBehind_28 : decode cX2_placeBehind 28 = .ok (.getfield 43, 3) := by decide +kernel
theorem dX2_placeBehind_31 : decode cX2_placeBehind 31 = .ok (.invokevirtual 47, 3) := by decide +kernel
theorem dX2_placeBehind_34 : decode cX2_placeBehind 34 = .ok (.if_icmp .ge 58, 3) := by decide +kernel
theorem dX2_placeBehind_37 : decode cX2_placeBehind 37 = .ok (.aload_n 1, 1) := by decide +kernel
theorem dX2_placeBehind_38 : decode cX2_placeBehind 38 = .ok (.getfield 43, 3) := by decide +kernel
theorem dX2_placeBehind_41 : decode cX2_placeBehind 41 = .ok (.iload 4, 2) := by decide +kernel
theorem dX2_placeBehind_43 : decode cX2_placeBehind 43 = .ok (.aload_n 3, 1) := by decide +kernel
theorem dX2_placeBehind_44 : decode cX2_placeBehind 44 = .ok (.getfield 79, 3) := by decide +kernel
theorem dX2_placeBehind_47 : decode cX2_placeBehind 47 = .ok (.invokevirtual 53, 3) := by decide +kernel
theorem dX2_placeBehind_50 : decode cX2_placeBehind 50 = .ok (.ifCond .eq 14, 3) := by decide +kernel
theorem dX2_placeBehind_53 : decode cX2_placeBehind 53 = .ok (.iload 4, 2) := by decide +kernel
theorem dX2_placeBehind_55 : decode cX2_placeBehind 55 = .ok (.aload_n 3, 1) := by decide +kernel
theorem dX2_placeBehind_56 : decode cX2_placeBehind 56 = .ok (.getfield 79, 3) := by decide +kernel
theorem dX2_placeBehind_59 : decode cX2_placeBehind 59 = .ok (.invokevirtual 47, 3) := by decide +kernel
theorem dX2_placeBehind_62 : decode cX2_placeBehind 62 = .ok (.iadd, 1) := by decide +kernel
theorem dX2_placeBehind_63 : decode cX2_placeBehind 63 = .ok (.ireturn, 1) := by decide +kernel
theorem dX2_placeBehind_64 : decode cX2_placeBehind 64 = .ok (.aload_n 0, 1) := by decide +kernel
theorem dX2_placeBehind_65 : decode cX2_placeBehind 65 = .ok (.getfield 32, 3) := by decide +kernel
theorem dX2_placeBehind_68 : decode cX2_placeBehind 68 = .ok (.ifCond .eq 15, 3) := by decide +kernel
theorem dX2_placeBehind_71 : decode cX2_placeBehind 71 = .ok (.aload_n 1, 1) := by decide +kernel
theorem dX2_placeBehind_72 : decode cX2_placeBehind 72 = .ok (.getfield 43, 3) := by decide +kernel
theorem dX2_placeBehind_75 : decode cX2_placeBehind 75 = .ok (.iload 4, 2) := by decide +kernel
theorem dX2_placeBehind_77 : decode cX2_placeBehind 77 = .ok (.invokevirtual 82, 3) := by decide +kernel
theorem dX2_placeBehind_80 : decode cX2_placeBehind 80 = .ok (.ifCond .ne 6, 3) := by decide +kernel
theorem dX2_placeBehind_83 : decode cX2_placeBehind 83 = .ok (.bipush (-4), 2) := by decide +kernel
theorem dX2_placeBehind_85 : decode cX2_placeBehind 85 = .ok (.ireturn, 1) := by decide +kernel
theorem dX2_placeBehind_86 : decode cX2_placeBehind 86 = .ok (.iinc 4 1, 3) := by decide +kernel
theorem dX2_placeBehind_89 : decode cX2_placeBehind 89 = .ok (.goto (-64), 3) := by decide +kernel
theorem dX2_placeBehind_92 : decode cX2_placeBehind 92 = .ok (.bipush (-4), 2) := by decide +kernel
theorem dX2_placeBehind_94 : decode cX2_placeBehind 94 = .ok (.ireturn, 1) := by decide +kernel
theorem dX2_mayEndAt_0 : decode cX2_mayEndAt 0 = .ok (.iload_n 2, 1) := by decide +kernel
theorem dX2_mayEndAt_1 : decode cX2_mayEndAt 1 = .ok (.istore_n 3, 1) := by decide +kernel
theorem dX2_mayEndAt_2 : decode cX2_mayEndAt 2 = .ok (.iload_n 3, 1) := by decide +kernel
theorem dX2_mayEndAt_3 : decode cX2_mayEndAt 3 = .ok (.aload_n 1, 1) := by decide +kernel
theorem dX2_mayEndAt_4 : decode cX2_mayEndAt 4 = .ok (.getfield 43, 3) := by decide +kernel
theorem dX2_mayEndAt_7 : decode cX2_mayEndAt 7 = .ok (.invokevirtual 47, 3) := by decide +kernel
theorem dX2_mayEndAt_10 : decode cX2_mayEndAt 10 = .ok (.if_icmp .ge 29, 3) := by decide +kernel
theorem dX2_mayEndAt_13 : decode cX2_mayEndAt 13 = .ok (.aload_n 0, 1) := by decide +kernel
theorem dX2_mayEndAt_14 : decode cX2_mayEndAt 14 = .ok (.getfield 32, 3) := by decide +kernel
theorem dX2_mayEndAt_17 : decode cX2_mayEndAt 17 = .ok (.ifCond .eq 14, 3) := by decide +kernel
theorem dX2_mayEndAt_20 : decode cX2_mayEndAt 20 = .ok (.aload_n 1, 1) := by decide +kernel
theorem dX2_mayEndAt_21 : decode cX2_mayEndAt 21 = .ok (.getfield 43, 3) := by decide +kernel
theorem dX2_mayEndAt_24 : decode cX2_mayEndAt 24 = .ok (.iload_n 3, 1) := by decide +kernel
theorem dX2_mayEndAt_25 : decode cX2_mayEndAt 25 = .ok (.invokevirtual 82, 3) := by decide +kernel
theorem dX2_mayEndAt_28 : decode cX2_mayEndAt 28 = .ok (.ifCond .ne 5, 3) := by decide +kernel
theorem dX2_mayEndAt_31 : decode cX2_mayEndAt 31 = .ok (.iconst 0, 1) := by decide +kernel
theorem dX2_mayEndAt_32 : decode cX2_mayEndAt 32 = .ok (.ireturn, 1) := by decide +kernel
theorem dX2_mayEndAt_33 : decode cX2_mayEndAt 33 = .ok (.iinc 3 1, 3) := by decide +kernel
theorem dX2_mayEndAt_36 : decode cX2_mayEndAt 36 = .ok (.goto (-34), 3) := by decide +kernel
theorem dX2_mayEndAt_39 : decode cX2_mayEndAt 39 = .ok (.iconst 1, 1) := by decide +kernel
theorem dX2_mayEndAt_40 : decode cX2_mayEndAt 40 = .ok (.ireturn, 1) := by decide +kernel
theorem dX3_firstFault_0 : decode cX3_firstFault 0 = .ok (.aload_n 1, 1) := by decide +kernel
theorem dX3_firstFault_1 : decode cX3_firstFault 1 = .ok (.invokevirtual 9, 3) := by decide +kernel
theorem dX3_firstFault_4 : decode cX3_firstFault 4 = .ok (.iconst 0, 1) := by decide +kernel
theorem dX3_firstFault_5 : decode cX3_firstFault 5 = .ok (.istore_n 2, 1) := by decide +kernel
theorem dX3_firstFault_6 : decode cX3_firstFault 6 = .ok (.iload_n 2, 1) := by decide +kernel
theorem dX3_firstFault_7 : decode cX3_firstFault 7 = .ok (.aload_n 0, 1) := by decide +kernel
theorem dX3_firstFault_8 : decode cX3_firstFault 8 = .ok (.invokevirtual 14, 3) := by decide +kernel
theorem dX3_firstFault_11 : decode cX3_firstFault 11 = .ok (.if_icmp .ge 35, 3) := by decide +kernel
theorem dX3_firstFault_14 : decode cX3_firstFault 14 = .ok (.aload_n 0, 1) := by decide +kernel
theorem dX3_firstFault_15 : decode cX3_firstFault 15 = .ok (.bipush 59, 2) := by decide +kernel
theorem dX3_firstFault_17 : decode cX3_firstFault 17 = .ok (.iload_n 2, 1) := by decide +kernel
theorem dX3_firstFault_18 : decode cX3_firstFault 18 = .ok (.invokevirtual 20, 3) := by decide +kernel
theorem dX3_firstFault_21 : decode cX3_firstFault 21 = .ok (.istore_n 3, 1) := by decide +kernel
theorem dX3_firstFault_22 : decode cX3_firstFault 22 = .ok (.iload_n 3, 1) := by decide +kernel
theorem dX3_firstFault_23 : decode cX3_firstFault 23 = .ok (.iload_n 2, 1) := by decide +kernel
theorem dX3_firstFault_24 : decode cX3_firstFault 24 = .ok (.if_icmp .lt 13, 3) := by decide +kernel
theorem dX3_firstFault_27 : decode cX3_firstFault 27 = .ok (.aload_n 0, 1) := by decide +kernel
theorem dX3_firstFault_28 : decode cX3_firstFault 28 = .ok (.iload_n 2, 1) := by decide +kernel
theorem dX3_firstFault_29 : decode cX3_firstFault 29 = .ok (.iload_n 3, 1) := by decide +kernel
theorem dX3_firstFault_30 : decode cX3_firstFault 30 = .ok (.aload_n 1, 1) := by decide +kernel
theorem dX3_firstFault_31 : decode cX3_firstFault 31 = .ok (.invokestatic 24, 3) := by decide +kernel
theorem dX3_firstFault_34 : decode cX3_firstFault 34 = .ok (.ifCond .ne 5, 3) := by decide +kernel
theorem dX3_firstFault_37 : decode cX3_firstFault 37 = .ok (.iload_n 2, 1) := by decide +kernel
theorem dX3_firstFault_38 : decode cX3_firstFault 38 = .ok (.ireturn, 1) := by decide +kernel
theorem dX3_firstFault_39 : decode cX3_firstFault 39 = .ok (.iload_n 3, 1) := by decide +kernel
theorem dX3_firstFault_40 : decode cX3_firstFault 40 = .ok (.iconst 1, 1) := by decide +kernel
theorem dX3_firstFault_41 : decode cX3_firstFault 41 = .ok (.iadd, 1) := by decide +kernel
theorem dX3_firstFault_42 : decode cX3_firstFault 42 = .ok (.istore_n 2, 1) := by decide +kernel
theorem dX3_firstFault_43 : decode cX3_firstFault 43 = .ok (.goto (-37), 3) := by decide +kernel
theorem dX3_firstFault_46 : decode cX3_firstFault 46 = .ok (.bipush (-4), 2) := by decide +kernel
theorem dX3_firstFault_48 : decode cX3_firstFault 48 = .ok (.ireturn, 1) := by decide +kernel
theorem dX3_takesItem_0 : decode cX3_takesItem 0 = .ok (.aload_n 0, 1) := by decide +kernel
theorem dX3_takesItem_1 : decode cX3_takesItem 1 = .ok (.iload_n 1, 1) := by decide +kernel
theorem dX3_takesItem_2 : decode cX3_takesItem 2 = .ok (.invokevirtual 30, 3) := by decide +kernel
theorem dX3_takesItem_5 : decode cX3_takesItem 5 = .ok (.tableswitch 107 107 119 #[99, 107, 83, 107, 107, 67, 107, 107, 75, 107, 107, 107, 91], 67) := by decide +kernel
theorem dX3_takesItem_72 : decode cX3_takesItem 72 = .ok (.aload_n 0, 1) := by decide +kernel
theorem dX3_takesItem_73 : decode cX3_takesItem 73 = .ok (.iload_n 1, 1) := by decide +kernel
theorem dX3_takesItem_74 : decode cX3_takesItem 74 = .ok (.iload_n 2, 1) := by decide +kernel
theorem dX3_takesItem_75 : decode cX3_takesItem 75 = .ok (.aload_n 3, 1) := by decide +kernel
theorem dX3_takesItem_76 : decode cX3_takesItem 76 = .ok (.invokestatic 34, 3) := by decide +kernel
theorem dX3_takesItem_79 : decode cX3_takesItem 79 = .ok (.ireturn, 1) := by decide +kernel
theorem dX3_takesItem_80 : decode cX3_takesItem 80 = .ok (.aload_n 0, 1) := by decide +kernel
theorem dX3_takesItem_81 : decode cX3_takesItem 81 = .ok (.iload_n 1, 1) := by decide +kernel
theorem dX3_takesItem_82 : decode cX3_takesItem 82 = .ok (.iload_n 2, 1) := by decide +kernel
theorem dX3_takesItem_83 : decode cX3_takesItem 83 = .ok (.aload_n 3, 1) := by decide +kernel
theorem dX3_takesItem_84 : decode cX3_takesItem 84 = .ok (.invokestatic 37, 3) := by decide +kernel
theorem dX3_takesItem_87 : decode cX3_takesItem 87 = .ok (.ireturn, 1) := by decide +kernel
theorem dX3_takesItem_88 : decode cX3_takesItem 88 = .ok (.aload_n 0, 1) := by decide +kernel
theorem dX3_takesItem_89 : decode cX3_takesItem 89 = .ok (.iload_n 1, 1) := by decide +kernel
theorem dX3_takesItem_90 : decode cX3_takesItem 90 = .ok (.iload_n 2, 1) := by decide +kernel
theorem dX3_takesItem_91 : decode cX3_takesItem 91 = .ok (.aload_n 3, 1) := by decide +kernel
theorem dX3_takesItem_92 : decode cX3_takesItem 92 = .ok (.invokestatic 40, 3) := by decide +kernel
theorem dX3_takesItem_95 : decode cX3_takesItem 95 = .ok (.ireturn, 1) := by decide +kernel
theorem dX3_takesItem_96 : decode cX3_takesItem 96 = .ok (.aload_n 0, 1) := by decide +kernel
theorem dX3_takesItem_97 : decode cX3_takesItem 97 = .ok (.iload_n 1, 1) := by decide +kernel
theorem dX3_takesItem_98 : decode cX3_takesItem 98 = .ok (.iload_n 2, 1) := by decide +kernel
theorem dX3_takesItem_99 : decode cX3_takesItem 99 = .ok (.aload_n 3, 1) := by decide +kernel
theorem dX3_takesItem_100 : decode cX3_takesItem 100 = .ok (.invokestatic 43, 3) := by decide +kernel
theorem dX3_takesItem_103 : decode cX3_takesItem 103 = .ok (.ireturn, 1) := by decide +kernel
theorem dX3_takesItem_104 : decode cX3_takesItem 104 = .ok (.aload_n 0, 1) := by decide +kernel
theorem dX3_takesItem_105 : decode cX3_takesItem 105 = .ok (.iload_n 1, 1) := by decide +kernel
theorem dX3_takesItem_106 : decode cX3_takesItem 106 = .ok (.iload_n 2, 1) := by decide +kernel
theorem dX3_takesItem_107 : decode cX3_takesItem 107 = .ok (.aload_n 3, 1) := by decide +kernel
theorem dX3_takesItem_108 : decode cX3_takesItem 108 = .ok (.invokestatic 46, 3) := by decide +kernel
theorem dX3_takesItem_111 : decode cX3_takesItem 111 = .ok (.ireturn, 1) := by decide +kernel
theorem dX3_takesItem_112 : decode cX3_takesItem 112 = .ok (.iconst 0, 1) := by decide +kernel
theorem dX3_takesItem_113 : decode cX3_takesItem 113 = .ok (.ireturn, 1) := by decide +kernel
end
section
theorem dX3_takesPicture_0 : decode cX3_takesPicture 0 = .ok (.aload_n 3, 1) := by decide +kernel
theorem dX3_takesPicture_1 : decode cX3_takesPicture 1 = .ok (.invokevirtual 49, 3) := by decide +kernel
theorem dX3_takesPicture_4 : decode cX3_takesPicture 4 = .ok (.astore 4, 2) := by decide +kernel
theorem dX3_takesPicture_6 : decode cX3_takesPicture 6 = .ok (.aload_n 0, 1) := by decide +kernel
theorem dX3_takesPicture_7 : decode cX3_takesPicture 7 = .ok (.iload_n 1, 1) := by decide +kernel
theorem dX3_takesPicture_8 : decode cX3_takesPicture 8 = .ok (.iconst 1, 1) := by decide +kernel
theorem dX3_takesPicture_9 : decode cX3_takesPicture 9 = .ok (.iadd, 1) := by decide +kernel
theorem dX3_takesPicture_10 : decode cX3_takesPicture 10 = .ok (.iconst 5, 1) := by decide +kernel
theorem dX3_takesPicture_11 : decode cX3_takesPicture 11 = .ok (.invokestatic 53, 3) := by decide +kernel
theorem dX3_takesPicture_14 : decode cX3_takesPicture 14 = .ok (.istore 5, 2) := by decide +kernel
theorem dX3_takesPicture_16 : decode cX3_takesPicture 16 = .ok (.aload 4, 2) := by decide +kernel
theorem dX3_takesPicture_18 : decode cX3_takesPicture 18 = .ok (.ifnull 22, 3) := by decide +kernel
theorem dX3_takesPicture_21 : decode cX3_takesPicture 21 = .ok (.iload 5, 2) := by decide +kernel
theorem dX3_takesPicture_23 : decode cX3_takesPicture 23 = .ok (.bipush (-4), 2) := by decide +kernel
theorem dX3_takesPicture_25 : decode cX3_takesPicture 25 = .ok (.if_icmp .eq 15, 3) := by decide +kernel
theorem dX3_takesPicture_28 : decode cX3_takesPicture 28 = .ok (.aload_n 0, 1) := by decide +kernel
theorem dX3_takesPicture_29 : decode cX3_takesPicture 29 = .ok (.iload_n 1, 1) := by decide +kernel
theorem dX3_takesPicture_30 : decode cX3_takesPicture 30 = .ok (.iconst 2, 1) := by decide +kernel
theorem dX3_takesPicture_31 : decode cX3_takesPicture 31 = .ok (.iadd, 1) := by decide +kernel
theorem dX3_takesPicture_32 : decode cX3_takesPicture 32 = .ok (.invokevirtual 30, 3) := by decide +kernel
theorem dX3_takesPicture_35 : decode cX3_takesPicture 35 = .ok (.bipush 44, 2) := by decide +kernel
theorem dX3_takesPicture_37 : decode cX3_takesPicture 37 = .ok (.if_icmp .eq 5, 3) := by decide +kernel
theorem dX3_takesPicture_40 : decode cX3_takesPicture 40 = .ok (.iconst 0, 1) := by decide +kernel
theorem dX3_takesPicture_41 : decode cX3_takesPicture 41 = .ok (.ireturn, 1) := by decide +kernel
theorem dX3_takesPicture_42 : decode cX3_takesPicture 42 = .ok (.aload 4, 2) := by decide +kernel
theorem dX3_takesPicture_44 : decode cX3_takesPicture 44 = .ok (.getfield 57, 3) := by decide +kernel
theorem dX3_takesPicture_47 : decode cX3_takesPicture 47 = .ok (.aload_n 0, 1) := by decide +kernel
theorem dX3_takesPicture_48 : decode cX3_takesPicture 48 = .ok (.iload_n 1, 1) := by decide +kernel
theorem dX3_takesPicture_49 : decode cX3_takesPicture 49 = .ok (.iconst 3, 1) := by decide +kernel
theorem dX3_takesPicture_50 : decode cX3_takesPicture 50 = .ok (.iadd, 1) := by decide +kernel
theorem dX3_takesPicture_51 : decode cX3_takesPicture 51 = .ok (.iload_n 2, 1) := by decide +kernel
theorem dX3_takesPicture_52 : decode cX3_takesPicture 52 = .ok (.invokevirtual 63, 3) := by decide +kernel
theorem dX3_takesPicture_55 : decode cX3_takesPicture 55 = .ok (.ifCond .ne 5, 3) := by decide +kernel
theorem dX3_takesPicture_58 : decode cX3_takesPicture 58 = .ok (.iconst 0, 1) := by decide +kernel
theorem dX3_takesPicture_59 : decode cX3_takesPicture 59 = .ok (.ireturn, 1) := by decide +kernel
theorem dX3_takesPicture_60 : decode cX3_takesPicture 60 = .ok (.aload 4, 2) := by decide +kernel
theorem dX3_takesPicture_62 : decode cX3_takesPicture 62 = .ok (.iconst 0, 1) := by decide +kernel
theorem dX3_takesPicture_63 : decode cX3_takesPicture 63 = .ok (.iload 5, 2) := by decide +kernel
theorem dX3_takesPicture_65 : decode cX3_takesPicture 65 = .ok (.aload_n 3, 1) := by decide +kernel
theorem dX3_takesPicture_66 : decode cX3_takesPicture 66 = .ok (.invokestatic 67, 3) := by decide +kernel
theorem dX3_takesPicture_69 : decode cX3_takesPicture 69 = .ok (.iconst 1, 1) := by decide +kernel
theorem dX3_takesPicture_70 : decode cX3_takesPicture 70 = .ok (.ireturn, 1) := by decide +kernel
theorem dX3_takesSound_0 : decode cX3_takesSound 0 = .ok (.aload_n 3, 1) := by decide +kernel
theorem dX3_takesSound_1 : decode cX3_takesSound 1 = .ok (.invokevirtual 49, 3) := by decide +kernel
theorem dX3_takesSound_4 : decode cX3_takesSound 4 = .ok (.astore 4, 2) := by decide +kernel
theorem dX3_takesSound_6 : decode cX3_takesSound 6 = .ok (.aload 4, 2) := by decide +kernel
theorem dX3_takesSound_8 : decode cX3_takesSound 8 = .ok (.ifnull 19, 3) := by decide +kernel
theorem dX3_takesSound_11 : decode cX3_takesSound 11 = .ok (.aload 4, 2) := by decide +kernel
theorem dX3_takesSound_13 : decode cX3_takesSound 13 = .ok (.getfield 57, 3) := by decide +kernel
theorem dX3_takesSound_16 : decode cX3_takesSound 16 = .ok (.aload_n 0, 1) := by decide +kernel
theorem dX3_takesSound_17 : decode cX3_takesSound 17 = .ok (.iload_n 1, 1) := by decide +kernel
theorem dX3_takesSound_18 : decode cX3_takesSound 18 = .ok (.iconst 1, 1) := by decide +kernel
theorem dX3_takesSound_19 : decode cX3_takesSound 19 = .ok (.iadd, 1) := by decide +kernel
theorem dX3_takesSound_20 : decode cX3_takesSound 20 = .ok (.iload_n 2, 1) := by decide +kernel
theorem dX3_takesSound_21 : decode cX3_takesSound 21 = .ok (.invokevirtual 63, 3) := by decide +kernel
theorem dX3_takesSound_24 : decode cX3_takesSound 24 = .ok (.ifCond .ne 5, 3) := by decide +kernel
theorem dX3_takesSound_27 : decode cX3_takesSound 27 = .ok (.iconst 0, 1) := by decide +kernel
theorem dX3_takesSound_28 : decode cX3_takesSound 28 = .ok (.ireturn, 1) := by decide +kernel
theorem dX3_takesSound_29 : decode cX3_takesSound 29 = .ok (.aload 4, 2) := by decide +kernel
theorem dX3_takesSound_31 : decode cX3_takesSound 31 = .ok (.iconst 1, 1) := by decide +kernel
theorem dX3_takesSound_32 : decode cX3_takesSound 32 = .ok (.iconst 0, 1) := by decide +kernel
theorem dX3_takesSound_33 : decode cX3_takesSound 33 = .ok (.aload_n 3, 1) := by decide +kernel
theorem dX3_takesSound_34 : decode cX3_takesSound 34 = .ok (.invokestatic 67, 3) := by decide +kernel
theorem dX3_takesSound_37 : decode cX3_takesSound 37 = .ok (.iconst 1, 1) := by decide +kernel
theorem dX3_takesSound_38 : decode cX3_takesSound 38 = .ok (.ireturn, 1) := by decide +kernel
theorem dX3_takesMark_0 : decode cX3_takesMark 0 = .ok (.aload_n 3, 1) := by decide +kernel
theorem dX3_takesMark_1 : decode cX3_takesMark 1 = .ok (.invokevirtual 49, 3) := by decide +kernel
theorem dX3_takesMark_4 : decode cX3_takesMark 4 = .ok (.astore 4, 2) := by decide +kernel
theorem dX3_takesMark_6 : decode cX3_takesMark 6 = .ok (.aload_n 0, 1) := by decide +kernel
theorem dX3_takesMark_7 : decode cX3_takesMark 7 = .ok (.iload_n 1, 1) := by decide +kernel
theorem dX3_takesMark_8 : decode cX3_takesMark 8 = .ok (.iconst 1, 1) := by decide +kernel
theorem dX3_takesMark_9 : decode cX3_takesMark 9 = .ok (.iadd, 1) := by decide +kernel
theorem dX3_takesMark_10 : decode cX3_takesMark 10 = .ok (.iconst 5, 1) := by decide +kernel
theorem dX3_takesMark_11 : decode cX3_takesMark 11 = .ok (.invokestatic 53, 3) := by decide +kernel
theorem dX3_takesMark_14 : decode cX3_takesMark 14 = .ok (.istore 5, 2) := by decide +kernel
theorem dX3_takesMark_16 : decode cX3_takesMark 16 = .ok (.aload 4, 2) := by decide +kernel
theorem dX3_takesMark_18 : decode cX3_takesMark 18 = .ok (.ifnull 17, 3) := by decide +kernel
theorem dX3_takesMark_21 : decode cX3_takesMark 21 = .ok (.iload 5, 2) := by decide +kernel
theorem dX3_takesMark_23 : decode cX3_takesMark 23 = .ok (.bipush (-4), 2) := by decide +kernel
theorem dX3_takesMark_25 : decode cX3_takesMark 25 = .ok (.if_icmp .eq 10, 3) := by decide +kernel
theorem dX3_takesMark_28 : decode cX3_takesMark 28 = .ok (.iload_n 2, 1) := by decide +kernel
theorem dX3_takesMark_29 : decode cX3_takesMark 29 = .ok (.iload_n 1, 1) := by decide +kernel
theorem dX3_takesMark_30 : decode cX3_takesMark 30 = .ok (.iconst 2, 1) := by decide +kernel
theorem dX3_takesMark_31 : decode cX3_takesMark 31 = .ok (.iadd, 1) := by decide +kernel
theorem dX3_takesMark_32 : decode cX3_takesMark 32 = .ok (.if_icmp .eq 5, 3) := by decide +kernel
theorem dX3_takesMark_35 : decode cX3_takesMark 35 = .ok (.iconst 0, 1) := by decide +kernel
theorem dX3_takesMark_36 : decode cX3_takesMark 36 = .ok (.ireturn, 1) := by decide +kernel
theorem dX3_takesMark_37 : decode cX3_takesMark 37 = .ok (.aload 4, 2) := by decide +kernel
theorem dX3_takesMark_39 : decode cX3_takesMark 39 = .ok (.getfield 57, 3) := by decide +kernel
theorem dX3_takesMark_42 : decode cX3_takesMark 42 = .ok (.invokevirtual 71, 3) := by decide +kernel
theorem dX3_takesMark_45 : decode cX3_takesMark 45 = .ok (.aload 4, 2) := by decide +kernel
theorem dX3_takesMark_47 : decode cX3_takesMark 47 = .ok (.iconst 2, 1) := by decide +kernel
theorem dX3_takesMark_48 : decode cX3_takesMark 48 = .ok (.iload 5, 2) := by decide +kernel
theorem dX3_takesMark_50 : decode cX3_takesMark 50 = .ok (.aload_n 3, 1) := by decide +kernel
theorem dX3_takesMark_51 : decode cX3_takesMark 51 = .ok (.invokestatic 67, 3) := by decide +kernel
theorem dX3_takesMark_54 : decode cX3_takesMark 54 = .ok (.iconst 1, 1) := by decide +kernel
theorem dX3_takesMark_55 : decode cX3_takesMark 55 = .ok (.ireturn, 1) := by decide +kernel
theorem dX3_takesWord_0 : decode cX3_takesWord 0 = .ok (.aload_n 3, 1) := by decide +kernel
theorem dX3_takesWord_1 : decode cX3_takesWord 1 = .ok (.invokevirtual 72, 3) := by decide +kernel
theorem dX3_takesWord_4 : decode cX3_takesWord 4 = .ok (.astore 4, 2) := by decide +kernel
theorem dX3_takesWord_6 : decode cX3_takesWord 6 = .ok (.aload_n 0, 1) := by decide +kernel
theorem dX3_takesWord_7 : decode cX3_takesWord 7 = .ok (.iload_n 1, 1) := by decide +kernel
theorem dX3_takesWord_8 : decode cX3_takesWord 8 = .ok (.iconst 1, 1) := by decide +kernel
theorem dX3_takesWord_9 : decode cX3_takesWord 9 = .ok (.iadd, 1) := by decide +kernel
theorem dX3_takesWord_10 : decode cX3_takesWord 10 = .ok (.iconst 5, 1) := by decide +kernel
theorem dX3_takesWord_11 : decode cX3_takesWord 11 = .ok (.invokestatic 53, 3) := by decide +kernel
theorem dX3_takesWord_14 : decode cX3_takesWord 14 = .ok (.istore 5, 2) := by decide +kernel
theorem dX3_takesWord_16 : decode cX3_takesWord 16 = .ok (.aload 4, 2) := by decide +kernel
theorem dX3_takesWord_18 : decode cX3_takesWord 18 = .ok (.ifnull 22, 3) := by decide +kernel
theorem dX3_takesWord_21 : decode cX3_takesWord 21 = .ok (.iload 5, 2) := by decide +kernel
theorem dX3_takesWord_23 : decode cX3_takesWord 23 = .ok (.bipush (-4), 2) := by decide +kernel
theorem dX3_takesWord_25 : decode cX3_takesWord 25 = .ok (.if_icmp .eq 15, 3) := by decide +kernel
theorem dX3_takesWord_28 : decode cX3_takesWord 28 = .ok (.aload_n 0, 1) := by decide +kernel
theorem dX3_takesWord_29 : decode cX3_takesWord 29 = .ok (.iload_n 1, 1) := by decide +kernel
theorem dX3_takesWord_30 : decode cX3_takesWord 30 = .ok (.iconst 2, 1) := by decide +kernel
theorem dX3_takesWord_31 : decode cX3_takesWord 31 = .ok (.iadd, 1) := by decide +kernel
theorem dX3_takesWord_32 : decode cX3_takesWord 32 = .ok (.invokevirtual 30, 3) := by decide +kernel
theorem dX3_takesWord_35 : decode cX3_takesWord 35 = .ok (.bipush 44, 2) := by decide +kernel
theorem dX3_takesWord_37 : decode cX3_takesWord 37 = .ok (.if_icmp .eq 5, 3) := by decide +kernel
theorem dX3_takesWord_40 : decode cX3_takesWord 40 = .ok (.iconst 0, 1) := by decide +kernel
theorem dX3_takesWord_41 : decode cX3_takesWord 41 = .ok (.ireturn, 1) := by decide +kernel
theorem dX3_takesWord_42 : decode cX3_takesWord 42 = .ok (.aload 4, 2) := by decide +kernel
theorem dX3_takesWord_44 : decode cX3_takesWord 44 = .ok (.getfield 76, 3) := by decide +kernel
theorem dX3_takesWord_47 : decode cX3_takesWord 47 = .ok (.aload_n 0, 1) := by decide +kernel
theorem dX3_takesWord_48 : decode cX3_takesWord 48 = .ok (.iload_n 1, 1) := by decide +kernel
theorem dX3_takesWord_49 : decode cX3_takesWord 49 = .ok (.iconst 3, 1) := by decide +kernel
theorem dX3_takesWord_50 : decode cX3_takesWord 50 = .ok (.iadd, 1) := by decide +kernel
theorem dX3_takesWord_51 : decode cX3_takesWord 51 = .ok (.iload_n 2, 1) := by decide +kernel
theorem dX3_takesWord_52 : decode cX3_takesWord 52 = .ok (.invokevirtual 63, 3) := by decide +kernel
theorem dX3_takesWord_55 : decode cX3_takesWord 55 = .ok (.ifCond .eq 19, 3) := by decide +kernel
theorem dX3_takesWord_58 : decode cX3_takesWord 58 = .ok (.aload_n 3, 1) := by decide +kernel
theorem dX3_takesWord_59 : decode cX3_takesWord 59 = .ok (.iload 5, 2) := by decide +kernel
theorem dX3_takesWord_61 : decode cX3_takesWord 61 = .ok (.aload 4, 2) := by decide +kernel
theorem dX3_takesWord_63 : decode cX3_takesWord 63 = .ok (.getfield 76, 3) := by decide +kernel
theorem dX3_takesWord_66 : decode cX3_takesWord 66 = .ok (.invokevirtual 81, 3) := by decide +kernel
theorem dX3_takesWord_69 : decode cX3_takesWord 69 = .ok (.bipush (-4), 2) := by decide +kernel
theorem dX3_takesWord_71 : decode cX3_takesWord 71 = .ok (.if_icmp .eq 5, 3) := by decide +kernel
theorem dX3_takesWord_74 : decode cX3_takesWord 74 = .ok (.iconst 0, 1) := by decide +kernel
theorem dX3_takesWord_75 : decode cX3_takesWord 75 = .ok (.ireturn, 1) := by decide +kernel
theorem dX3_takesWord_76 : decode cX3_takesWord 76 = .ok (.aload 4, 2) := by decide +kernel
theorem dX3_takesWord_78 : decode cX3_takesWord 78 = .ok (.iload 5, 2) := by decide +kernel
theorem dX3_takesWord_80 : decode cX3_takesWord 80 = .ok (.putfield 85, 3) := by decide +kernel
theorem dX3_takesWord_83 : decode cX3_takesWord 83 = .ok (.aload_n 3, 1) := by decide +kernel
theorem dX3_takesWord_84 : decode cX3_takesWord 84 = .ok (.dup, 1) := by decide +kernel
theorem dX3_takesWord_85 : decode cX3_takesWord 85 = .ok (.getfield 89, 3) := by decide +kernel
theorem dX3_takesWord_88 : decode cX3_takesWord 88 = .ok (.iconst 1, 1) := by decide +kernel
theorem dX3_takesWord_89 : decode cX3_takesWord 89 = .ok (.iadd, 1) := by decide +kernel
theorem dX3_takesWord_90 : decode cX3_takesWord 90 = .ok (.putfield 89, 3) := by decide +kernel
theorem dX3_takesWord_93 : decode cX3_takesWord 93 = .ok (.iconst 1, 1) := by decide +kernel
theorem dX3_takesWord_94 : decode cX3_takesWord 94 = .ok (.ireturn, 1) := by decide +kernel
theorem dX3_takesLaw_0 : decode cX3_takesLaw 0 = .ok (.aload_n 0, 1) := by decide +kernel
theorem dX3_takesLaw_1 : decode cX3_takesLaw 1 = .ok (.iload_n 1, 1) := by decide +kernel
theorem dX3_takesLaw_2 : decode cX3_takesLaw 2 = .ok (.iconst 1, 1) := by decide +kernel
theorem dX3_takesLaw_3 : decode cX3_takesLaw 3 = .ok (.iadd, 1) := by decide +kernel
theorem dX3_takesLaw_4 : decode cX3_takesLaw 4 = .ok (.iconst 1, 1) := by decide +kernel
theorem dX3_takesLaw_5 : decode cX3_takesLaw 5 = .ok (.invokestatic 53, 3) := by decide +kernel
theorem dX3_takesLaw_8 : decode cX3_takesLaw 8 = .ok (.istore 4, 2) := by decide +kernel
theorem dX3_takesLaw_10 : decode cX3_takesLaw 10 = .ok (.iload 4, 2) := by decide +kernel
theorem dX3_takesLaw_12 : decode cX3_takesLaw 12 = .ok (.bipush (-4), 2) := by decide +kernel
theorem dX3_takesLaw_14 : decode cX3_takesLaw 14 = .ok (.if_icmp .eq 10, 3) := by decide +kernel
theorem dX3_takesLaw_17 : decode cX3_takesLaw 17 = .ok (.iload_n 2, 1) := by decide +kernel
theorem dX3_takesLaw_18 : decode cX3_takesLaw 18 = .ok (.iload_n 1, 1) := by decide +kernel
theorem dX3_takesLaw_19 : decode cX3_takesLaw 19 = .ok (.iconst 2, 1) := by decide +kernel
theorem dX3_takesLaw_20 : decode cX3_takesLaw 20 = .ok (.iadd, 1) := by decide +kernel
theorem dX3_takesLaw_21 : decode cX3_takesLaw 21 = .ok (.if_icmp .eq 5, 3) := by decide +kernel
theorem dX3_takesLaw_24 : decode cX3_takesLaw 24 = .ok (.iconst 0, 1) := by decide +kernel
theorem dX3_takesLaw_25 : decode cX3_takesLaw 25 = .ok (.ireturn, 1) := by decide +kernel
theorem dX3_takesLaw_26 : decode cX3_takesLaw 26 = .ok (.aload_n 3, 1) := by decide +kernel
theorem dX3_takesLaw_27 : decode cX3_takesLaw 27 = .ok (.iload 4, 2) := by decide +kernel
theorem dX3_takesLaw_29 : decode cX3_takesLaw 29 = .ok (.iconst 1, 1) := by decide +kernel
theorem dX3_takesLaw_30 : decode cX3_takesLaw 30 = .ok (.if_icmp .ne 7, 3) := by decide +kernel
theorem dX3_takesLaw_33 : decode cX3_takesLaw 33 = .ok (.iconst 1, 1) := by decide +kernel
theorem dX3_takesLaw_34 : decode cX3_takesLaw 34 = .ok (.goto 4, 3) := by decide +kernel
theorem dX3_takesLaw_37 : decode cX3_takesLaw 37 = .ok (.iconst 0, 1) := by decide +kernel
theorem dX3_takesLaw_38 : decode cX3_takesLaw 38 = .ok (.putfield 92, 3) := by decide +kernel
theorem dX3_takesLaw_41 : decode cX3_takesLaw 41 = .ok (.iconst 1, 1) := by decide +kernel
theorem dX3_takesLaw_42 : decode cX3_takesLaw 42 = .ok (.ireturn, 1) := by decide +kernel
theorem dX3_keep_0 : decode cX3_keep 0 = .ok (.aload_n 0, 1) := by decide +kernel
theorem dX3_keep_1 : decode cX3_keep 1 = .ok (.iload_n 1, 1) := by decide +kernel
theorem dX3_keep_2 : decode cX3_keep 2 = .ok (.putfield 96, 3) := by decide +kernel
theorem dX3_keep_5 : decode cX3_keep 5 = .ok (.aload_n 0, 1) := by decide +kernel
theorem dX3_keep_6 : decode cX3_keep 6 = .ok (.iload_n 2, 1) := by decide +kernel
theorem dX3_keep_7 : decode cX3_keep 7 = .ok (.putfield 99, 3) := by decide +kernel
theorem dX3_keep_10 : decode cX3_keep 10 = .ok (.aload_n 0, 1) := by decide +kernel
theorem dX3_keep_11 : decode cX3_keep 11 = .ok (.iconst 0, 1) := by decide +kernel
theorem dX3_keep_12 : decode cX3_keep 12 = .ok (.putfield 100, 3) := by decide +kernel
theorem dX3_keep_15 : decode cX3_keep 15 = .ok (.aload_n 3, 1) := by decide +kernel
theorem dX3_keep_16 : decode cX3_keep 16 = .ok (.dup, 1) := by decide +kernel
theorem dX3_keep_17 : decode cX3_keep 17 = .ok (.getfield 103, 3) := by decide +kernel
theorem dX3_keep_20 : decode cX3_keep 20 = .ok (.iconst 1, 1) := by decide +kernel
theorem dX3_keep_21 : decode cX3_keep 21 = .ok (.iadd, 1) := by decide +kernel
theorem dX3_keep_22 : decode cX3_keep 22 = .ok (.putfield 103, 3) := by decide +kernel
theorem dX3_keep_25 : decode cX3_keep 25 = .ok (.return_, 1) := by decide +kernel
theorem dX3_digitAt_0 : decode cX3_digitAt 0 = .ok (.aload_n 0, 1) := by decide +kernel
theorem dX3_digitAt_1 : decode cX3_digitAt 1 = .ok (.iload_n 1, 1) := by decide +kernel
theorem dX3_digitAt_2 : decode cX3_digitAt 2 = .ok (.invokevirtual 30, 3) := by decide +kernel
theorem dX3_digitAt_5 : decode cX3_digitAt 5 = .ok (.bipush 48, 2) := by decide +kernel
theorem dX3_digitAt_7 : decode cX3_digitAt 7 = .ok (.isub, 1) := by decide +kernel
theorem dX3_digitAt_8 : decode cX3_digitAt 8 = .ok (.istore_n 3, 1) := by decide +kernel
theorem dX3_digitAt_9 : decode cX3_digitAt 9 = .ok (.iload_n 3, 1) := by decide +kernel
theorem dX3_digitAt_10 : decode cX3_digitAt 10 = .ok (.ifCond .lt 12, 3) := by decide +kernel
theorem dX3_digitAt_13 : decode cX3_digitAt 13 = .ok (.iload_n 3, 1) := by decide +kernel
theorem dX3_digitAt_14 : decode cX3_digitAt 14 = .ok (.iload_n 2, 1) := by decide +kernel
theorem dX3_digitAt_15 : decode cX3_digitAt 15 = .ok (.if_icmp .gt 7, 3) := by decide +kernel
theorem dX3_digitAt_18 : decode cX3_digitAt 18 = .ok (.iload_n 3, 1) := by decide +kernel
theorem dX3_digitAt_19 : decode cX3_digitAt 19 = .ok (.goto 5, 3) := by decide +kernel
theorem dX3_digitAt_22 : decode cX3_digitAt 22 = .ok (.bipush (-4), 2) := by decide +kernel
theorem dX3_digitAt_24 : decode cX3_digitAt 24 = .ok (.ireturn, 1) := by decide +kernel
theorem dX4_init_0 : decode cX4_init 0 = .ok (.aload_n 0, 1) := by decide +kernel
theorem dX4_init_1 : decode cX4_init 1 = .ok (.invokespecial 3, 3) := by decide +kernel
theorem dX4_init_4 : decode cX4_init 4 = .ok (.aload_n 0, 1) := by decide +kernel
theorem dX4_init_5 : decode cX4_init 5 = .ok (.bipush 10, 2) := by decide +kernel
theorem dX4_init_7 : decode cX4_init 7 = .ok (.newarray .int, 2) := by decide +kernel
theorem dX4_init_9 : decode cX4_init 9 = .ok (.putfield 9, 3) := by decide +kernel
theorem dX4_init_12 : decode cX4_init 12 = .ok (.aload_n 0, 1) := by decide +kernel
theorem dX4_init_13 : decode cX4_init 13 = .ok (.bipush 17, 2) := by decide +kernel
theorem dX4_init_15 : decode cX4_init 15 = .ok (.newarray .long, 2) := by decide +kernel
theorem dX4_init_17 : decode cX4_init 17 = .ok (.putfield 15, 3) := by decide +kernel
theorem dX4_init_20 : decode cX4_init 20 = .ok (.aload_n 0, 1) := by decide +kernel
theorem dX4_init_21 : decode cX4_init 21 = .ok (.bipush 17, 2) := by decide +kernel
theorem dX4_init_23 : decode cX4_init 23 = .ok (.newarray .int, 2) := by decide +kernel
theorem dX4_init_25 : decode cX4_init 25 = .ok (.putfield 19, 3) := by decide +kernel
theorem dX4_init_28 : decode cX4_init 28 = .ok (.aload_n 0, 1) := by decide +kernel
theorem dX4_init_29 : decode cX4_init 29 = .ok (.bipush 17, 2) := by decide +kernel
theorem dX4_init_31 : decode cX4_init 31 = .ok (.newarray .int, 2) := by decide +kernel
theorem dX4_init_33 : decode cX4_init 33 = .ok (.putfield 22, 3) := by decide +kernel
theorem dX4_init_36 : decode cX4_init 36 = .ok (.aload_n 0, 1) := by decide +kernel
theorem dX4_init_37 : decode cX4_init 37 = .ok (.bipush 17, 2) := by decide +kernel
theorem dX4_init_39 : decode cX4_init 39 = .ok (.newarray .int, 2) := by decide +kernel
theorem dX4_init_41 : decode cX4_init 41 = .ok (.putfield 25, 3) := by decide +kernel
theorem dX4_init_44 : decode cX4_init 44 = .ok (.return_, 1) := by decide +kernel
theorem dX4_look_0 : decode cX4_look 0 = .ok (.aload_n 0, 1) := by decide +kernel
theorem dX4_look_1 : decode cX4_look 1 = .ok (.getfield 9, 3) := by decide +kernel
theorem dX4_look_4 : decode cX4_look 4 = .ok (.iconst 0, 1) := by decide +kernel
theorem dX4_look_5 : decode cX4_look 5 = .ok (.invokestatic 28, 3) := by decide +kernel
theorem dX4_look_8 : decode cX4_look 8 = .ok (.iconst 0, 1) := by decide +kernel
theorem dX4_look_9 : decode cX4_look 9 = .ok (.istore 4, 2) := by decide +kernel
theorem dX4_look_11 : decode cX4_look 11 = .ok (.iload 4, 2) := by decide +kernel
theorem dX4_look_13 : decode cX4_look 13 = .ok (.aload_n 1, 1) := by decide +kernel
theorem dX4_look_14 : decode cX4_look 14 = .ok (.getfield 34, 3) := by decide +kernel
theorem dX4_look_17 : decode cX4_look 17 = .ok (.if_icmp .ge 18, 3) := by decide +kernel
theorem dX4_look_20 : decode cX4_look 20 = .ok (.aload_n 0, 1) := by decide +kernel
theorem dX4_look_21 : decode cX4_look 21 = .ok (.aload_n 1, 1) := by decide +kernel
theorem dX4_look_22 : decode cX4_look 22 = .ok (.iload 4, 2) := by decide +kernel
theorem dX4_look_24 : decode cX4_look 24 = .ok (.aload_n 2, 1) := by decide +kernel
theorem dX4_look_25 : decode cX4_look 25 = .ok (.iload_n 3, 1) := by decide +kernel
theorem dX4_look_26 : decode cX4_look 26 = .ok (.invokevirtual 40, 3) := by decide +kernel
theorem dX4_look_29 : decode cX4_look 29 = .ok (.iinc 4 1, 3) := by decide +kernel
theorem dX4_look_32 : decode cX4_look 32 = .ok (.goto (-21), 3) := by decide +kernel
theorem dX4_look_35 : decode cX4_look 35 = .ok (.aload_n 1, 1) := by decide +kernel
theorem dX4_look_36 : decode cX4_look 36 = .ok (.aload_n 2, 1) := by decide +kernel
theorem dX4_look_37 : decode cX4_look 37 = .ok (.iload_n 3, 1) := by decide +kernel
theorem dX4_look_38 : decode cX4_look 38 = .ok (.invokevirtual 44, 3) := by decide +kernel
theorem dX4_look_41 : decode cX4_look 41 = .ok (.invokevirtual 50, 3) := by decide +kernel
theorem dX4_look_44 : decode cX4_look 44 = .ok (.astore 4, 2) := by decide +kernel
theorem dX4_look_46 : decode cX4_look 46 = .ok (.aload 4, 2) := by decide +kernel
theorem dX4_look_48 : decode cX4_look 48 = .ok (.ifnull 50, 3) := by decide +kernel
theorem dX4_look_51 : decode cX4_look 51 = .ok (.aload 4, 2) := by decide +kernel
theorem dX4_look_53 : decode cX4_look 53 = .ok (.getfield 54, 3) := by decide +kernel
theorem dX4_look_56 : decode cX4_look 56 = .ok (.ifCond .ne 42, 3) := by decide +kernel
theorem dX4_look_59 : decode cX4_look 59 = .ok (.aload 4, 2) := by decide +kernel
theorem dX4_look_61 : decode cX4_look 61 = .ok (.getfield 59, 3) := by decide +kernel
theorem dX4_look_64 : decode cX4_look 64 = .ok (.ifCond .ne 34, 3) := by decide +kernel
theorem dX4_look_67 : decode cX4_look 67 = .ok (.aload_n 1, 1) := by decide +kernel
theorem dX4_look_68 : decode cX4_look 68 = .ok (.aload 4, 2) := by decide +kernel
theorem dX4_look_70 : decode cX4_look 70 = .ok (.getfield 63, 3) := by decide +kernel
theorem dX4_look_73 : decode cX4_look 73 = .ok (.aload 4, 2) := by decide +kernel
theorem dX4_look_75 : decode cX4_look 75 = .ok (.getfield 66, 3) := by decide +kernel
theorem dX4_look_78 : decode cX4_look 78 = .ok (.invokevirtual 70, 3) := by decide +kernel
theorem dX4_look_81 : decode cX4_look 81 = .ok (.istore 5, 2) := by decide +kernel
theorem dX4_look_83 : decode cX4_look 83 = .ok (.iload 5, 2) := by decide +kernel
theorem dX4_look_85 : decode cX4_look 85 = .ok (.ifCond .lt 13, 3) := by decide +kernel
theorem dX4_look_88 : decode cX4_look 88 = .ok (.aload_n 0, 1) := by decide +kernel
theorem dX4_look_89 : decode cX4_look 89 = .ok (.getfield 9, 3) := by decide +kernel
theorem dX4_look_92 : decode cX4_look 92 = .ok (.iconst 1, 1) := by decide +kernel
theorem dX4_look_93 : decode cX4_look 93 = .ok (.iconst 1, 1) := by decide +kernel
theorem dX4_look_94 : decode cX4_look 94 = .ok (.iload 5, 2) := by decide +kernel
theorem dX4_look_96 : decode cX4_look 96 = .ok (.ishl, 1) := by decide +kernel
theorem dX4_look_97 : decode cX4_look 97 = .ok (.iastore, 1) := by decide +kernel
theorem dX4_look_98 : decode cX4_look 98 = .ok (.return_, 1) := by decide +kernel
theorem dX4_wordsBy_0 : decode cX4_wordsBy 0 = .ok (.iload_n 1, 1) := by decide +kernel
theorem dX4_wordsBy_1 : decode cX4_wordsBy 1 = .ok (.ifCond .lt 18, 3) := by decide +kernel
theorem dX4_wordsBy_4 : decode cX4_wordsBy 4 = .ok (.iload_n 1, 1) := by decide +kernel
theorem dX4_wordsBy_5 : decode cX4_wordsBy 5 = .ok (.bipush 9, 2) := by decide +kernel
theorem dX4_wordsBy_7 : decode cX4_wordsBy 7 = .ok (.if_icmp .gt 12, 3) := by decide +kernel
theorem dX4_wordsBy_10 : decode cX4_wordsBy 10 = .ok (.aload_n 0, 1) := by decide +kernel
theorem dX4_wordsBy_11 : decode cX4_wordsBy 11 = .ok (.getfield 9, 3) := by decide +kernel
theorem dX4_wordsBy_14 : decode cX4_wordsBy 14 = .ok (.iload_n 1, 1) := by decide +kernel
theorem dX4_wordsBy_15 : decode cX4_wordsBy 15 = .ok (.iaload, 1) := by decide +kernel
theorem dX4_wordsBy_16 : decode cX4_wordsBy 16 = .ok (.goto 4, 3) := by decide +kernel
theorem dX4_wordsBy_19 : decode cX4_wordsBy 19 = .ok (.iconst 0, 1) := by decide +kernel
theorem dX4_wordsBy_20 : decode cX4_wordsBy 20 = .ok (.ireturn, 1) := by decide +kernel
theorem dX4_follow_0 : decode cX4_follow 0 = .ok (.aload_n 1, 1) := by decide +kernel
theorem dX4_follow_1 : decode cX4_follow 1 = .ok (.iload_n 2, 1) := by decide +kernel
theorem dX4_follow_2 : decode cX4_follow 2 = .ok (.invokevirtual 74, 3) := by decide +kernel
theorem dX4_follow_5 : decode cX4_follow 5 = .ok (.astore 5, 2) := by decide +kernel
theorem dX4_follow_7 : decode cX4_follow 7 = .ok (.iconst 0, 1) := by decide +kernel
theorem dX4_follow_8 : decode cX4_follow 8 = .ok (.istore 6, 2) := by decide +kernel
theorem dX4_follow_10 : decode cX4_follow 10 = .ok (.iconst 1, 1) := by decide +kernel
theorem dX4_follow_11 : decode cX4_follow 11 = .ok (.istore 7, 2) := by decide +kernel
theorem dX4_follow_13 : decode cX4_follow 13 = .ok (.iload 7, 2) := by decide +kernel
theorem dX4_follow_15 : decode cX4_follow 15 = .ok (.bipush 9, 2) := by decide +kernel
theorem dX4_follow_17 : decode cX4_follow 17 = .ok (.if_icmp .gt 117, 3) := by decide +kernel
theorem dX4_follow_20 : decode cX4_follow 20 = .ok (.aload 5, 2) := by decide +kernel
theorem dX4_follow_22 : decode cX4_follow 22 = .ok (.ifnull 112, 3) := by decide +kernel
theorem dX4_follow_25 : decode cX4_follow 25 = .ok (.aload_n 1, 1) := by decide +kernel
theorem dX4_follow_26 : decode cX4_follow 26 = .ok (.aload_n 3, 1) := by decide +kernel
theorem dX4_follow_27 : decode cX4_follow 27 = .ok (.iload 4, 2) := by decide +kernel
theorem dX4_follow_29 : decode cX4_follow 29 = .ok (.iload 7, 2) := by decide +kernel
theorem dX4_follow_31 : decode cX4_follow 31 = .ok (.iadd, 1) := by decide +kernel
theorem dX4_follow_32 : decode cX4_follow 32 = .ok (.iconst 1, 1) := by decide +kernel
theorem dX4_follow_33 : decode cX4_follow 33 = .ok (.isub, 1) := by decide +kernel
theorem dX4_follow_34 : decode cX4_follow 34 = .ok (.invokevirtual 44, 3) := by decide +kernel
theorem dX4_follow_37 : decode cX4_follow 37 = .ok (.invokevirtual 50, 3) := by decide +kernel
theorem dX4_follow_40 : decode cX4_follow 40 = .ok (.astore 8, 2) := by decide +kernel
theorem dX4_follow_42 : decode cX4_follow 42 = .ok (.aload 8, 2) := by decide +kernel
theorem dX4_follow_44 : decode cX4_follow 44 = .ok (.ifnonnull 4, 3) := by decide +kernel
theorem dX4_follow_47 : decode cX4_follow 47 = .ok (.return_, 1) := by decide +kernel
theorem dX4_follow_48 : decode cX4_follow 48 = .ok (.iload 7, 2) := by decide +kernel
theorem dX4_follow_50 : decode cX4_follow 50 = .ok (.iconst 1, 1) := by decide +kernel
theorem dX4_follow_51 : decode cX4_follow 51 = .ok (.if_icmp .le 21, 3) := by decide +kernel
theorem dX4_follow_54 : decode cX4_follow 54 = .ok (.aload_n 1, 1) := by decide +kernel
theorem dX4_follow_55 : decode cX4_follow 55 = .ok (.aload 8, 2) := by decide +kernel
theorem dX4_follow_57 : decode cX4_follow 57 = .ok (.aload 5, 2) := by decide +kernel
theorem dX4_follow_59 : decode cX4_follow 59 = .ok (.getfield 78, 3) := by decide +kernel
theorem dX4_follow_62 : decode cX4_follow 62 = .ok (.invokevirtual 81, 3) := by decide +kernel
theorem dX4_follow_65 : decode cX4_follow 65 = .ok (.ifCond .eq 7, 3) := by decide +kernel
theorem dX4_follow_68 : decode cX4_follow 68 = .ok (.iconst 1, 1) := by decide +kernel
theorem dX4_follow_69 : decode cX4_follow 69 = .ok (.goto 4, 3) := by decide +kernel
theorem dX4_follow_72 : decode cX4_follow 72 = .ok (.iconst 0, 1) := by decide +kernel
theorem dX4_follow_73 : decode cX4_follow 73 = .ok (.istore 9, 2) := by decide +kernel
theorem dX4_follow_75 : decode cX4_follow 75 = .ok (.iload 9, 2) := by decide +kernel
theorem dX4_follow_77 : decode cX4_follow 77 = .ok (.ifCond .ne 15, 3) := by decide +kernel
theorem dX4_follow_80 : decode cX4_follow 80 = .ok (.aload_n 1, 1) := by decide +kernel
theorem dX4_follow_81 : decode cX4_follow 81 = .ok (.aload 5, 2) := by decide +kernel
theorem dX4_follow_83 : decode cX4_follow 83 = .ok (.iload 6, 2) := by decide +kernel
theorem dX4_follow_85 : decode cX4_follow 85 = .ok (.aload 8, 2) := by decide +kernel
theorem dX4_follow_87 : decode cX4_follow 87 = .ok (.invokevirtual 85, 3) := by decide +kernel
theorem dX4_follow_90 : decode cX4_follow 90 = .ok (.istore 6, 2) := by decide +kernel
theorem dX4_follow_92 : decode cX4_follow 92 = .ok (.iload 6, 2) := by decide +kernel
theorem dX4_follow_94 : decode cX4_follow 94 = .ok (.ifCond .ge 4, 3) := by decide +kernel
theorem dX4_follow_97 : decode cX4_follow 97 = .ok (.return_, 1) := by decide +kernel
theorem dX4_follow_98 : decode cX4_follow 98 = .ok (.aload_n 1, 1) := by decide +kernel
theorem dX4_follow_99 : decode cX4_follow 99 = .ok (.aload 5, 2) := by decide +kernel
theorem dX4_follow_101 : decode cX4_follow 101 = .ok (.iload 6, 2) := by decide +kernel
theorem dX4_follow_103 : decode cX4_follow 103 = .ok (.invokevirtual 89, 3) := by decide +kernel
theorem dX4_follow_106 : decode cX4_follow 106 = .ok (.ifCond .eq 16, 3) := by decide +kernel
theorem dX4_follow_109 : decode cX4_follow 109 = .ok (.aload_n 0, 1) := by decide +kernel
theorem dX4_follow_110 : decode cX4_follow 110 = .ok (.getfield 9, 3) := by decide +kernel
theorem dX4_follow_113 : decode cX4_follow 113 = .ok (.iload 7, 2) := by decide +kernel
theorem dX4_follow_115 : decode cX4_follow 115 = .ok (.dup2, 1) := by decide +kernel
theorem dX4_follow_116 : decode cX4_follow 116 = .ok (.iaload, 1) := by decide +kernel
theorem dX4_follow_117 : decode cX4_follow 117 = .ok (.iconst 1, 1) := by decide +kernel
theorem dX4_follow_118 : decode cX4_follow 118 = .ok (.iload_n 2, 1) := by decide +kernel
theorem dX4_follow_119 : decode cX4_follow 119 = .ok (.ishl, 1) := by decide +kernel
theorem dX4_follow_120 : decode cX4_follow 120 = .ok (.ior, 1) := by decide +kernel
theorem dX4_follow_121 : decode cX4_follow 121 = .ok (.iastore, 1) := by decide +kernel
theorem dX4_follow_122 : decode cX4_follow 122 = .ok (.iload 9, 2) := by decide +kernel
theorem dX4_follow_124 : decode cX4_follow 124 = .ok (.ifCond .eq 4, 3) := by decide +kernel
theorem dX4_follow_127 : decode cX4_follow 127 = .ok (.return_, 1) := by decide +kernel
theorem dX4_follow_128 : decode cX4_follow 128 = .ok (.iinc 7 1, 3) := by decide +kernel
theorem dX4_follow_131 : decode cX4_follow 131 = .ok (.goto (-118), 3) := by decide +kernel
theorem dX4_follow_134 : decode cX4_follow 134 = .ok (.return_, 1) := by decide +kernel
theorem dX4_plan_0 : decode cX4_plan 0 = .ok (.aload_n 2, 1) := by decide +kernel
theorem dX4_plan_1 : decode cX4_plan 1 = .ok (.invokevirtual 93, 3) := by decide +kernel
theorem dX4_plan_4 : decode cX4_plan 4 = .ok (.bipush 16, 2) := by decide +kernel
theorem dX4_plan_6 : decode cX4_plan 6 = .ok (.invokestatic 97, 3) := by decide +kernel
theorem dX4_plan_9 : decode cX4_plan 9 = .ok (.istore_n 3, 1) := by decide +kernel
theorem dX4_plan_10 : decode cX4_plan 10 = .ok (.aload_n 0, 1) := by decide +kernel
theorem dX4_plan_11 : decode cX4_plan 11 = .ok (.getfield 15, 3) := by decide +kernel
theorem dX4_plan_14 : decode cX4_plan 14 = .ok (.lconst 0, 1) := by decide +kernel
theorem dX4_plan_15 : decode cX4_plan 15 = .ok (.invokestatic 103, 3) := by decide +kernel
theorem dX4_plan_18 : decode cX4_plan 18 = .ok (.aload_n 0, 1) := by decide +kernel
theorem dX4_plan_19 : decode cX4_plan 19 = .ok (.getfield 19, 3) := by decide +kernel
theorem dX4_plan_22 : decode cX4_plan 22 = .ok (.sipush 1000, 3) := by decide +kernel
theorem dX4_plan_25 : decode cX4_plan 25 = .ok (.invokestatic 28, 3) := by decide +kernel
theorem dX4_plan_28 : decode cX4_plan 28 = .ok (.iload_n 3, 1) := by decide +kernel
theorem dX4_plan_29 : decode cX4_plan 29 = .ok (.ifCond .ge 4, 3) := by decide +kernel
theorem dX4_plan_32 : decode cX4_plan 32 = .ok (.return_, 1) := by decide +kernel
theorem dX4_plan_33 : decode cX4_plan 33 = .ok (.aload_n 0, 1) := by decide +kernel
theorem dX4_plan_34 : decode cX4_plan 34 = .ok (.getfield 15, 3) := by decide +kernel
theorem dX4_plan_37 : decode cX4_plan 37 = .ok (.iload_n 3, 1) := by decide +kernel
theorem dX4_plan_38 : decode cX4_plan 38 = .ok (.lconst 1, 1) := by decide +kernel
theorem dX4_plan_39 : decode cX4_plan 39 = .ok (.lastore, 1) := by decide +kernel
theorem dX4_plan_40 : decode cX4_plan 40 = .ok (.aload_n 0, 1) := by decide +kernel
theorem dX4_plan_41 : decode cX4_plan 41 = .ok (.getfield 19, 3) := by decide +kernel
theorem dX4_plan_44 : decode cX4_plan 44 = .ok (.iload_n 3, 1) := by decide +kernel
theorem dX4_plan_45 : decode cX4_plan 45 = .ok (.iconst 0, 1) := by decide +kernel
theorem dX4_plan_46 : decode cX4_plan 46 = .ok (.iastore, 1) := by decide +kernel
theorem dX4_plan_47 : decode cX4_plan 47 = .ok (.iload_n 3, 1) := by decide +kernel
theorem dX4_plan_48 : decode cX4_plan 48 = .ok (.iconst 1, 1) := by decide +kernel
theorem dX4_plan_49 : decode cX4_plan 49 = .ok (.isub, 1) := by decide +kernel
theorem dX4_plan_50 : decode cX4_plan 50 = .ok (.istore 4, 2) := by decide +kernel
theorem dX4_plan_52 : decode cX4_plan 52 = .ok (.iload 4, 2) := by decide +kernel
theorem dX4_plan_54 : decode cX4_plan 54 = .ok (.ifCond .lt 24, 3) := by decide +kernel
theorem dX4_plan_57 : decode cX4_plan 57 = .ok (.aload_n 0, 1) := by decide +kernel
theorem dX4_plan_58 : decode cX4_plan 58 = .ok (.aload_n 1, 1) := by decide +kernel
theorem dX4_plan_59 : decode cX4_plan 59 = .ok (.aload_n 2, 1) := by decide +kernel
theorem dX4_plan_60 : decode cX4_plan 60 = .ok (.iload 4, 2) := by decide +kernel
theorem dX4_plan_62 : decode cX4_plan 62 = .ok (.invokevirtual 106, 3) := by decide +kernel
theorem dX4_plan_65 : decode cX4_plan 65 = .ok (.aload_n 0, 1) := by decide +kernel
theorem dX4_plan_66 : decode cX4_plan 66 = .ok (.iload 4, 2) := by decide +kernel
theorem dX4_plan_68 : decode cX4_plan 68 = .ok (.iload_n 3, 1) := by decide +kernel
theorem dX4_plan_69 : decode cX4_plan 69 = .ok (.invokevirtual 110, 3) := by decide +kernel
theorem dX4_plan_72 : decode cX4_plan 72 = .ok (.iinc 4 (-1), 3) := by decide +kernel
theorem dX4_plan_75 : decode cX4_plan 75 = .ok (.goto (-23), 3) := by decide +kernel
theorem dX4_plan_78 : decode cX4_plan 78 = .ok (.return_, 1) := by decide +kernel
theorem dX4_join_0 : decode cX4_join 0 = .ok (.iload_n 1, 1) := by decide +kernel
theorem dX4_join_1 : decode cX4_join 1 = .ok (.ifCond .lt 9, 3) := by decide +kernel
theorem dX4_join_4 : decode cX4_join 4 = .ok (.iload_n 2, 1) := by decide +kernel
theorem dX4_join_5 : decode cX4_join 5 = .ok (.bipush 16, 2) := by decide +kernel
theorem dX4_join_7 : decode cX4_join 7 = .ok (.if_icmp .le 4, 3) := by decide +kernel
theorem dX4_join_10 : decode cX4_join 10 = .ok (.return_, 1) := by decide +kernel
theorem dX4_join_11 : decode cX4_join 11 = .ok (.iconst 1, 1) := by decide +kernel
theorem dX4_join_12 : decode cX4_join 12 = .ok (.istore_n 3, 1) := by decide +kernel
theorem dX4_join_13 : decode cX4_join 13 = .ok (.iload_n 3, 1) := by decide +kernel
theorem dX4_join_14 : decode cX4_join 14 = .ok (.bipush 9, 2) := by decide +kernel
theorem dX4_join_16 : decode cX4_join 16 = .ok (.if_icmp .gt 109, 3) := by decide +kernel
theorem dX4_join_19 : decode cX4_join 19 = .ok (.iload_n 1, 1) := by decide +kernel
theorem dX4_join_20 : decode cX4_join 20 = .ok (.iload_n 3, 1) := by decide +kernel
theorem dX4_join_21 : decode cX4_join 21 = .ok (.iadd, 1) := by decide +kernel
theorem dX4_join_22 : decode cX4_join 22 = .ok (.iload_n 2, 1) := by decide +kernel
theorem dX4_join_23 : decode cX4_join 23 = .ok (.if_icmp .gt 102, 3) := by decide +kernel
theorem dX4_join_26 : decode cX4_join 26 = .ok (.aload_n 0, 1) := by decide +kernel
theorem dX4_join_27 : decode cX4_join 27 = .ok (.getfield 9, 3) := by decide +kernel
theorem dX4_join_30 : decode cX4_join 30 = .ok (.iload_n 3, 1) := by decide +kernel
theorem dX4_join_31 : decode cX4_join 31 = .ok (.iaload, 1) := by decide +kernel
theorem dX4_join_32 : decode cX4_join 32 = .ok (.istore 4, 2) := by decide +kernel
theorem dX4_join_34 : decode cX4_join 34 = .ok (.iload 4, 2) := by decide +kernel
theorem dX4_join_36 : decode cX4_join 36 = .ok (.ifCond .ne 6, 3) := by decide +kernel
theorem dX4_join_39 : decode cX4_join 39 = .ok (.goto 80, 3) := by decide +kernel
theorem dX4_join_42 : decode cX4_join 42 = .ok (.aload_n 0, 1) := by decide +kernel
theorem dX4_join_43 : decode cX4_join 43 = .ok (.getfield 15, 3) := by decide +kernel
theorem dX4_join_46 : decode cX4_join 46 = .ok (.iload_n 1, 1) := by decide +kernel
theorem dX4_join_47 : decode cX4_join 47 = .ok (.dup2, 1) := by decide +kernel
theorem dX4_join_48 : decode cX4_join 48 = .ok (.laload, 1) := by decide +kernel
theorem dX4_join_49 : decode cX4_join 49 = .ok (.iload 4, 2) := by decide +kernel
theorem dX4_join_51 : decode cX4_join 51 = .ok (.invokestatic 114, 3) := by decide +kernel
theorem dX4_join_54 : decode cX4_join 54 = .ok (.i2l, 1) := by decide +kernel
theorem dX4_join_55 : decode cX4_join 55 = .ok (.aload_n 0, 1) := by decide +kernel
theorem dX4_join_56 : decode cX4_join 56 = .ok (.getfield 15, 3) := by decide +kernel
theorem dX4_join_59 : decode cX4_join 59 = .ok (.iload_n 1, 1) := by decide +kernel
theorem dX4_join_60 : decode cX4_join 60 = .ok (.iload_n 3, 1) := by decide +kernel
theorem dX4_join_61 : decode cX4_join 61 = .ok (.iadd, 1) := by decide +kernel
theorem dX4_join_62 : decode cX4_join 62 = .ok (.laload, 1) := by decide +kernel
theorem dX4_join_63 : decode cX4_join 63 = .ok (.lmul, 1) := by decide +kernel
theorem dX4_join_64 : decode cX4_join 64 = .ok (.ladd, 1) := by decide +kernel
theorem dX4_join_65 : decode cX4_join 65 = .ok (.lastore, 1) := by decide +kernel
theorem dX4_join_66 : decode cX4_join 66 = .ok (.aload_n 0, 1) := by decide +kernel
theorem dX4_join_67 : decode cX4_join 67 = .ok (.getfield 19, 3) := by decide +kernel
theorem dX4_join_70 : decode cX4_join 70 = .ok (.iload_n 1, 1) := by decide +kernel
theorem dX4_join_71 : decode cX4_join 71 = .ok (.iload_n 3, 1) := by decide +kernel
theorem dX4_join_72 : decode cX4_join 72 = .ok (.iadd, 1) := by decide +kernel
theorem dX4_join_73 : decode cX4_join 73 = .ok (.iaload, 1) := by decide +kernel
theorem dX4_join_74 : decode cX4_join 74 = .ok (.iconst 1, 1) := by decide +kernel
theorem dX4_join_75 : decode cX4_join 75 = .ok (.iadd, 1) := by decide +kernel
theorem dX4_join_76 : decode cX4_join 76 = .ok (.aload_n 0, 1) := by decide +kernel
theorem dX4_join_77 : decode cX4_join 77 = .ok (.getfield 19, 3) := by decide +kernel
theorem dX4_join_80 : decode cX4_join 80 = .ok (.iload_n 1, 1) := by decide +kernel
theorem dX4_join_81 : decode cX4_join 81 = .ok (.iaload, 1) := by decide +kernel
theorem dX4_join_82 : decode cX4_join 82 = .ok (.if_icmp .ge 37, 3) := by decide +kernel
theorem dX4_join_85 : decode cX4_join 85 = .ok (.aload_n 0, 1) := by decide +kernel
theorem dX4_join_86 : decode cX4_join 86 = .ok (.getfield 19, 3) := by decide +kernel
theorem dX4_join_89 : decode cX4_join 89 = .ok (.iload_n 1, 1) := by decide +kernel
theorem dX4_join_90 : decode cX4_join 90 = .ok (.aload_n 0, 1) := by decide +kernel
theorem dX4_join_91 : decode cX4_join 91 = .ok (.getfield 19, 3) := by decide +kernel
theorem dX4_join_94 : decode cX4_join 94 = .ok (.iload_n 1, 1) := by decide +kernel
theorem dX4_join_95 : decode cX4_join 95 = .ok (.iload_n 3, 1) := by decide +kernel
theorem dX4_join_96 : decode cX4_join 96 = .ok (.iadd, 1) := by decide +kernel
theorem dX4_join_97 : decode cX4_join 97 = .ok (.iaload, 1) := by decide +kernel
theorem dX4_join_98 : decode cX4_join 98 = .ok (.iconst 1, 1) := by decide +kernel
theorem dX4_join_99 : decode cX4_join 99 = .ok (.iadd, 1) := by decide +kernel
theorem dX4_join_100 : decode cX4_join 100 = .ok (.iastore, 1) := by decide +kernel
theorem dX4_join_101 : decode cX4_join 101 = .ok (.aload_n 0, 1) := by decide +kernel
theorem dX4_join_102 : decode cX4_join 102 = .ok (.getfield 22, 3) := by decide +kernel
theorem dX4_join_105 : decode cX4_join 105 = .ok (.iload_n 1, 1) := by decide +kernel
theorem dX4_join_106 : decode cX4_join 106 = .ok (.iload_n 3, 1) := by decide +kernel
theorem dX4_join_107 : decode cX4_join 107 = .ok (.iastore, 1) := by decide +kernel
theorem dX4_join_108 : decode cX4_join 108 = .ok (.aload_n 0, 1) := by decide +kernel
theorem dX4_join_109 : decode cX4_join 109 = .ok (.getfield 25, 3) := by decide +kernel
theorem dX4_join_112 : decode cX4_join 112 = .ok (.iload_n 1, 1) := by decide +kernel
theorem dX4_join_113 : decode cX4_join 113 = .ok (.iload 4, 2) := by decide +kernel
theorem dX4_join_115 : decode cX4_join 115 = .ok (.invokestatic 119, 3) := by decide +kernel
theorem dX4_join_118 : decode cX4_join 118 = .ok (.iastore, 1) := by decide +kernel
theorem dX4_join_119 : decode cX4_join 119 = .ok (.iinc 3 1, 3) := by decide +kernel
theorem dX4_join_122 : decode cX4_join 122 = .ok (.goto (-109), 3) := by decide +kernel
theorem dX4_join_125 : decode cX4_join 125 = .ok (.return_, 1) := by decide +kernel
theorem dX4_lowestBit_0 : decode cX4_lowestBit 0 = .ok (.iconst 0, 1) := by decide +kernel
theorem dX4_lowestBit_1 : decode cX4_lowestBit 1 = .ok (.istore_n 1, 1) := by decide +kernel
theorem dX4_lowestBit_2 : decode cX4_lowestBit 2 = .ok (.iload_n 1, 1) := by decide +kernel
theorem dX4_lowestBit_3 : decode cX4_lowestBit 3 = .ok (.bipush 8, 2) := by decide +kernel
theorem dX4_lowestBit_5 : decode cX4_lowestBit 5 = .ok (.if_icmp .ge 19, 3) := by decide +kernel
theorem dX4_lowestBit_8 : decode cX4_lowestBit 8 = .ok (.iload_n 0, 1) := by decide +kernel
theorem dX4_lowestBit_9 : decode cX4_lowestBit 9 = .ok (.iload_n 1, 1) := by decide +kernel
theorem dX4_lowestBit_10 : decode cX4_lowestBit 10 = .ok (.ishr, 1) := by decide +kernel
theorem dX4_lowestBit_11 : decode cX4_lowestBit 11 = .ok (.iconst 1, 1) := by decide +kernel
theorem dX4_lowestBit_12 : decode cX4_lowestBit 12 = .ok (.iand, 1) := by decide +kernel
theorem dX4_lowestBit_13 : decode cX4_lowestBit 13 = .ok (.ifCond .eq 5, 3) := by decide +kernel
theorem dX4_lowestBit_16 : decode cX4_lowestBit 16 = .ok (.iload_n 1, 1) := by decide +kernel
theorem dX4_lowestBit_17 : decode cX4_lowestBit 17 = .ok (.ireturn, 1) := by decide +kernel
theorem dX4_lowestBit_18 : decode cX4_lowestBit 18 = .ok (.iinc 1 1, 3) := by decide +kernel
theorem dX4_lowestBit_21 : decode cX4_lowestBit 21 = .ok (.goto (-19), 3) := by decide +kernel
theorem dX4_lowestBit_24 : decode cX4_lowestBit 24 = .ok (.bipush (-4), 2) := by decide +kernel
theorem dX4_lowestBit_26 : decode cX4_lowestBit 26 = .ok (.ireturn, 1) := by decide +kernel
theorem dX4_waysInAll_0 : decode cX4_waysInAll 0 = .ok (.aload_n 0, 1) := by decide +kernel
theorem dX4_waysInAll_1 : decode cX4_waysInAll 1 = .ok (.getfield 15, 3) := by decide +kernel
theorem dX4_waysInAll_4 : decode cX4_waysInAll 4 = .ok (.iconst 0, 1) := by decide +kernel
theorem dX4_waysInAll_5 : decode cX4_waysInAll 5 = .ok (.laload, 1) := by decide +kernel
theorem dX4_waysInAll_6 : decode cX4_waysInAll 6 = .ok (.lreturn, 1) := by decide +kernel
theorem dX4_fewestWords_0 : decode cX4_fewestWords 0 = .ok (.aload_n 0, 1) := by decide +kernel
theorem dX4_fewestWords_1 : decode cX4_fewestWords 1 = .ok (.getfield 19, 3) := by decide +kernel
theorem dX4_fewestWords_4 : decode cX4_fewestWords 4 = .ok (.iconst 0, 1) := by decide +kernel
theorem dX4_fewestWords_5 : decode cX4_fewestWords 5 = .ok (.iaload, 1) := by decide +kernel
theorem dX4_fewestWords_6 : decode cX4_fewestWords 6 = .ok (.ireturn, 1) := by decide +kernel
theorem dX4_plannedWord_0 : decode cX4_plannedWord 0 = .ok (.aload_n 0, 1) := by decide +kernel
theorem dX4_plannedWord_1 : decode cX4_plannedWord 1 = .ok (.iload_n 1, 1) := by decide +kernel
theorem dX4_plannedWord_2 : decode cX4_plannedWord 2 = .ok (.invokevirtual 122, 3) := by decide +kernel
theorem dX4_plannedWord_5 : decode cX4_plannedWord 5 = .ok (.istore_n 2, 1) := by decide +kernel
theorem dX4_plannedWord_6 : decode cX4_plannedWord 6 = .ok (.iload_n 2, 1) := by decide +kernel
theorem dX4_plannedWord_7 : decode cX4_plannedWord 7 = .ok (.ifCond .lt 18, 3) := by decide +kernel
theorem dX4_plannedWord_10 : decode cX4_plannedWord 10 = .ok (.iload_n 2, 1) := by decide +kernel
theorem dX4_plannedWord_11 : decode cX4_plannedWord 11 = .ok (.bipush 16, 2) := by decide +kernel
theorem dX4_plannedWord_13 : decode cX4_plannedWord 13 = .ok (.if_icmp .gt 12, 3) := by decide +kernel
theorem dX4_plannedWord_16 : decode cX4_plannedWord 16 = .ok (.aload_n 0, 1) := by decide +kernel
theorem dX4_plannedWord_17 : decode cX4_plannedWord 17 = .ok (.getfield 25, 3) := by decide +kernel
theorem dX4_plannedWord_20 : decode cX4_plannedWord 20 = .ok (.iload_n 2, 1) := by decide +kernel
theorem dX4_plannedWord_21 : decode cX4_plannedWord 21 = .ok (.iaload, 1) := by decide +kernel
theorem dX4_plannedWord_22 : decode cX4_plannedWord 22 = .ok (.goto 5, 3) := by decide +kernel
theorem dX4_plannedWord_25 : decode cX4_plannedWord 25 = .ok (.bipush (-4), 2) := by decide +kernel
theorem dX4_plannedWord_27 : decode cX4_plannedWord 27 = .ok (.ireturn, 1) := by decide +kernel
theorem dX4_plannedCut_0 : decode cX4_plannedCut 0 = .ok (.aload_n 0, 1) := by decide +kernel
theorem dX4_plannedCut_1 : decode cX4_plannedCut 1 = .ok (.iload_n 1, 1) := by decide +kernel
theorem dX4_plannedCut_2 : decode cX4_plannedCut 2 = .ok (.invokevirtual 122, 3) := by decide +kernel
theorem dX4_plannedCut_5 : decode cX4_plannedCut 5 = .ok (.istore_n 2, 1) := by decide +kernel
theorem dX4_plannedCut_6 : decode cX4_plannedCut 6 = .ok (.iload_n 2, 1) := by decide +kernel
theorem dX4_plannedCut_7 : decode cX4_plannedCut 7 = .ok (.ifCond .lt 18, 3) := by decide +kernel
theorem dX4_plannedCut_10 : decode cX4_plannedCut 10 = .ok (.iload_n 2, 1) := by decide +kernel
theorem dX4_plannedCut_11 : decode cX4_plannedCut 11 = .ok (.bipush 16, 2) := by decide +kernel
theorem dX4_plannedCut_13 : decode cX4_plannedCut 13 = .ok (.if_icmp .gt 12, 3) := by decide +kernel
theorem dX4_plannedCut_16 : decode cX4_plannedCut 16 = .ok (.aload_n 0, 1) := by decide +kernel
theorem dX4_plannedCut_17 : decode cX4_plannedCut 17 = .ok (.getfield 22, 3) := by decide +kernel
theorem dX4_plannedCut_20 : decode cX4_plannedCut 20 = .ok (.iload_n 2, 1) := by decide +kernel
theorem dX4_plannedCut_21 : decode cX4_plannedCut 21 = .ok (.iaload, 1) := by decide +kernel
theorem dX4_plannedCut_22 : decode cX4_plannedCut 22 = .ok (.goto 5, 3) := by decide +kernel
theorem dX4_plannedCut_25 : decode cX4_plannedCut 25 = .ok (.bipush (-4), 2) := by decide +kernel
theorem dX4_plannedCut_27 : decode cX4_plannedCut 27 = .ok (.ireturn, 1) := by decide +kernel
theorem dX4_startOf_0 : decode cX4_startOf 0 = .ok (.aload_n 0, 1) := by decide +kernel
theorem dX4_startOf_1 : decode cX4_startOf 1 = .ok (.getfield 19, 3) := by decide +kernel
theorem dX4_startOf_4 : decode cX4_startOf 4 = .ok (.iconst 0, 1) := by decide +kernel
theorem dX4_startOf_5 : decode cX4_startOf 5 = .ok (.iaload, 1) := by decide +kernel
theorem dX4_startOf_6 : decode cX4_startOf 6 = .ok (.sipush 1000, 3) := by decide +kernel
theorem dX4_startOf_9 : decode cX4_startOf 9 = .ok (.if_icmp .ge 17, 3) := by decide +kernel
theorem dX4_startOf_12 : decode cX4_startOf 12 = .ok (.iload_n 1, 1) := by decide +kernel
theorem dX4_startOf_13 : decode cX4_startOf 13 = .ok (.ifCond .lt 13, 3) := by decide +kernel
theorem dX4_startOf_16 : decode cX4_startOf 16 = .ok (.iload_n 1, 1) := by decide +kernel
theorem dX4_startOf_17 : decode cX4_startOf 17 = .ok (.aload_n 0, 1) := by decide +kernel
theorem dX4_startOf_18 : decode cX4_startOf 18 = .ok (.getfield 19, 3) := by decide +kernel
theorem dX4_startOf_21 : decode cX4_startOf 21 = .ok (.iconst 0, 1) := by decide +kernel
theorem dX4_startOf_22 : decode cX4_startOf 22 = .ok (.iaload, 1) := by decide +kernel
theorem dX4_startOf_23 : decode cX4_startOf 23 = .ok (.if_icmp .lt 6, 3) := by decide +kernel
theorem dX4_startOf_26 : decode cX4_startOf 26 = .ok (.bipush (-4), 2) := by decide +kernel
theorem dX4_startOf_28 : decode cX4_startOf 28 = .ok (.ireturn, 1) := by decide +kernel
theorem dX4_startOf_29 : decode cX4_startOf 29 = .ok (.iconst 0, 1) := by decide +kernel
theorem dX4_startOf_30 : decode cX4_startOf 30 = .ok (.istore_n 2, 1) := by decide +kernel
theorem dX4_startOf_31 : decode cX4_startOf 31 = .ok (.iconst 0, 1) := by decide +kernel
theorem dX4_startOf_32 : decode cX4_startOf 32 = .ok (.istore_n 3, 1) := by decide +kernel
theorem dX4_startOf_33 : decode cX4_startOf 33 = .ok (.iload_n 3, 1) := by decide +kernel
theorem dX4_startOf_34 : decode cX4_startOf 34 = .ok (.iload_n 1, 1) := by decide +kernel
theorem dX4_startOf_35 : decode cX4_startOf 35 = .ok (.if_icmp .ge 28, 3) := by decide +kernel
theorem dX4_startOf_38 : decode cX4_startOf 38 = .ok (.iload_n 2, 1) := by decide +kernel
theorem dX4_startOf_39 : decode cX4_startOf 39 = .ok (.ifCond .lt 24, 3) := by decide +kernel
theorem dX4_startOf_42 : decode cX4_startOf 42 = .ok (.iload_n 2, 1) := by decide +kernel
theorem dX4_startOf_43 : decode cX4_startOf 43 = .ok (.bipush 16, 2) := by decide +kernel
theorem dX4_startOf_45 : decode cX4_startOf 45 = .ok (.if_icmp .gt 18, 3) := by decide +kernel
theorem dX4_startOf_48 : decode cX4_startOf 48 = .ok (.iload_n 2, 1) := by decide +kernel
theorem dX4_startOf_49 : decode cX4_startOf 49 = .ok (.aload_n 0, 1) := by decide +kernel
theorem dX4_startOf_50 : decode cX4_startOf 50 = .ok (.getfield 22, 3) := by decide +kernel
theorem dX4_startOf_53 : decode cX4_startOf 53 = .ok (.iload_n 2, 1) := by decide +kernel
theorem dX4_startOf_54 : decode cX4_startOf 54 = .ok (.iaload, 1) := by decide +kernel
theorem dX4_startOf_55 : decode cX4_startOf 55 = .ok (.iadd, 1) := by decide +kernel
theorem dX4_startOf_56 : decode cX4_startOf 56 = .ok (.istore_n 2, 1) := by decide +kernel
theorem dX4_startOf_57 : decode cX4_startOf 57 = .ok (.iinc 3 1, 3) := by decide +kernel
theorem dX4_startOf_60 : decode cX4_startOf 60 = .ok (.goto (-27), 3) := by decide +kernel
theorem dX4_startOf_63 : decode cX4_startOf 63 = .ok (.iload_n 2, 1) := by decide +kernel
theorem dX4_startOf_64 : decode cX4_startOf 64 = .ok (.ireturn, 1) := by decide +kernel
theorem dX5_init_0 : decode cX5_init 0 = .ok (.aload_n 0, 1) := by decide +kernel
theorem dX5_init_1 : decode cX5_init 1 = .ok (.invokespecial 3, 3) := by decide +kernel
theorem dX5_init_4 : decode cX5_init 4 = .ok (.aload_n 0, 1) := by decide +kernel
theorem dX5_init_5 : decode cX5_init 5 = .ok (.iload_n 1, 1) := by decide +kernel
theorem dX5_init_6 : decode cX5_init 6 = .ok (.iconst 0, 1) := by decide +kernel
theorem dX5_init_7 : decode cX5_init 7 = .ok (.invokestatic 9, 3) := by decide +kernel
theorem dX5_init_10 : decode cX5_init 10 = .ok (.newarray .int, 2) := by decide +kernel
theorem dX5_init_12 : decode cX5_init 12 = .ok (.putfield 15, 3) := by decide +kernel
theorem dX5_init_15 : decode cX5_init 15 = .ok (.return_, 1) := by decide +kernel
theorem dX5_size_0 : decode cX5_size 0 = .ok (.aload_n 0, 1) := by decide +kernel
theorem dX5_size_1 : decode cX5_size 1 = .ok (.getfield 21, 3) := by decide +kernel
theorem dX5_size_4 : decode cX5_size 4 = .ok (.ireturn, 1) := by decide +kernel
theorem dX5_isFull_0 : decode cX5_isFull 0 = .ok (.aload_n 0, 1) := by decide +kernel
theorem dX5_isFull_1 : decode cX5_isFull 1 = .ok (.getfield 21, 3) := by decide +kernel
theorem dX5_isFull_4 : decode cX5_isFull 4 = .ok (.aload_n 0, 1) := by decide +kernel
theorem dX5_isFull_5 : decode cX5_isFull 5 = .ok (.getfield 15, 3) := by decide +kernel
theorem dX5_isFull_8 : decode cX5_isFull 8 = .ok (.arraylength, 1) := by decide +kernel
theorem dX5_isFull_9 : decode cX5_isFull 9 = .ok (.if_icmp .lt 7, 3) := by decide +kernel
theorem dX5_isFull_12 : decode cX5_isFull 12 = .ok (.iconst 1, 1) := by decide +kernel
theorem dX5_isFull_13 : decode cX5_isFull 13 = .ok (.goto 4, 3) := by decide +kernel
theorem dX5_isFull_16 : decode cX5_isFull 16 = .ok (.iconst 0, 1) := by decide +kernel
theorem dX5_isFull_17 : decode cX5_isFull 17 = .ok (.ireturn, 1) := by decide +kernel
theorem dX5_clear_0 : decode cX5_clear 0 = .ok (.aload_n 0, 1) := by decide +kernel
theorem dX5_clear_1 : decode cX5_clear 1 = .ok (.iconst 0, 1) := by decide +kernel
theorem dX5_clear_2 : decode cX5_clear 2 = .ok (.putfield 21, 3) := by decide +kernel
theorem dX5_clear_5 : decode cX5_clear 5 = .ok (.return_, 1) := by decide +kernel
theorem dX5_put_0 : decode cX5_put 0 = .ok (.aload_n 0, 1) := by decide +kernel
theorem dX5_put_1 : decode cX5_put 1 = .ok (.getfield 21, 3) := by decide +kernel
theorem dX5_put_4 : decode cX5_put 4 = .ok (.ifCond .lt 35, 3) := by decide +kernel
theorem dX5_put_7 : decode cX5_put 7 = .ok (.aload_n 0, 1) := by decide +kernel
theorem dX5_put_8 : decode cX5_put 8 = .ok (.getfield 21, 3) := by decide +kernel
theorem dX5_put_11 : decode cX5_put 11 = .ok (.aload_n 0, 1) := by decide +kernel
theorem dX5_put_12 : decode cX5_put 12 = .ok (.getfield 15, 3) := by decide +kernel
theorem dX5_put_15 : decode cX5_put 15 = .ok (.arraylength, 1) := by decide +kernel
theorem dX5_put_16 : decode cX5_put 16 = .ok (.if_icmp .ge 23, 3) := by decide +kernel
theorem dX5_put_19 : decode cX5_put 19 = .ok (.aload_n 0, 1) := by decide +kernel
theorem dX5_put_20 : decode cX5_put 20 = .ok (.getfield 15, 3) := by decide +kernel
theorem dX5_put_23 : decode cX5_put 23 = .ok (.aload_n 0, 1) := by decide +kernel
theorem dX5_put_24 : decode cX5_put 24 = .ok (.getfield 21, 3) := by decide +kernel
theorem dX5_put_27 : decode cX5_put 27 = .ok (.iload_n 1, 1) := by decide +kernel
theorem dX5_put_28 : decode cX5_put 28 = .ok (.iastore, 1) := by decide +kernel
theorem dX5_put_29 : decode cX5_put 29 = .ok (.aload_n 0, 1) := by decide +kernel
theorem dX5_put_30 : decode cX5_put 30 = .ok (.dup, 1) := by decide +kernel
theorem dX5_put_31 : decode cX5_put 31 = .ok (.getfield 21, 3) := by decide +kernel
theorem dX5_put_34 : decode cX5_put 34 = .ok (.iconst 1, 1) := by decide +kernel
theorem dX5_put_35 : decode cX5_put 35 = .ok (.iadd, 1) := by decide +kernel
theorem dX5_put_36 : decode cX5_put 36 = .ok (.putfield 21, 3) := by decide +kernel
theorem dX5_put_39 : decode cX5_put 39 = .ok (.return_, 1) := by decide +kernel
theorem dX5_drop_0 : decode cX5_drop 0 = .ok (.aload_n 0, 1) := by decide +kernel
theorem dX5_drop_1 : decode cX5_drop 1 = .ok (.aload_n 0, 1) := by decide +kernel
theorem dX5_drop_2 : decode cX5_drop 2 = .ok (.getfield 21, 3) := by decide +kernel
theorem dX5_drop_5 : decode cX5_drop 5 = .ok (.iconst 1, 1) := by decide +kernel
theorem dX5_drop_6 : decode cX5_drop 6 = .ok (.isub, 1) := by decide +kernel
theorem dX5_drop_7 : decode cX5_drop 7 = .ok (.invokevirtual 25, 3) := by decide +kernel
theorem dX5_drop_10 : decode cX5_drop 10 = .ok (.istore_n 1, 1) := by decide +kernel
theorem dX5_drop_11 : decode cX5_drop 11 = .ok (.iload_n 1, 1) := by decide +kernel
theorem dX5_drop_12 : decode cX5_drop 12 = .ok (.bipush (-4), 2) := by decide +kernel
theorem dX5_drop_14 : decode cX5_drop 14 = .ok (.if_icmp .eq 13, 3) := by decide +kernel
theorem dX5_drop_17 : decode cX5_drop 17 = .ok (.aload_n 0, 1) := by decide +kernel
theorem dX5_drop_18 : decode cX5_drop 18 = .ok (.dup, 1) := by decide +kernel
theorem dX5_drop_19 : decode cX5_drop 19 = .ok (.getfield 21, 3) := by decide +kernel
theorem dX5_drop_22 : decode cX5_drop 22 = .ok (.iconst 1, 1) := by decide +kernel
theorem dX5_drop_23 : decode cX5_drop 23 = .ok (.isub, 1) := by decide +kernel
theorem dX5_drop_24 : decode cX5_drop 24 = .ok (.putfield 21, 3) := by decide +kernel
theorem dX5_drop_27 : decode cX5_drop 27 = .ok (.iload_n 1, 1) := by decide +kernel
theorem dX5_drop_28 : decode cX5_drop 28 = .ok (.ireturn, 1) := by decide +kernel
theorem dX5_at_0 : decode cX5_at 0 = .ok (.iload_n 1, 1) := by decide +kernel
theorem dX5_at_1 : decode cX5_at 1 = .ok (.ifCond .lt 29, 3) := by decide +kernel
theorem dX5_at_4 : decode cX5_at 4 = .ok (.iload_n 1, 1) := by decide +kernel
theorem dX5_at_5 : decode cX5_at 5 = .ok (.aload_n 0, 1) := by decide +kernel
theorem dX5_at_6 : decode cX5_at 6 = .ok (.getfield 21, 3) := by decide +kernel
theorem dX5_at_9 : decode cX5_at 9 = .ok (.if_icmp .ge 21, 3) := by decide +kernel
theorem dX5_at_12 : decode cX5_at 12 = .ok (.iload_n 1, 1) := by decide +kernel
theorem dX5_at_13 : decode cX5_at 13 = .ok (.aload_n 0, 1) := by decide +kernel
theorem dX5_at_14 : decode cX5_at 14 = .ok (.getfield 15, 3) := by decide +kernel
theorem dX5_at_17 : decode cX5_at 17 = .ok (.arraylength, 1) := by decide +kernel
theorem dX5_at_18 : decode cX5_at 18 = .ok (.if_icmp .ge 12, 3) := by decide +kernel
theorem dX5_at_21 : decode cX5_at 21 = .ok (.aload_n 0, 1) := by decide +kernel
theorem dX5_at_22 : decode cX5_at 22 = .ok (.getfield 15, 3) := by decide +kernel
theorem dX5_at_25 : decode cX5_at 25 = .ok (.iload_n 1, 1) := by decide +kernel
theorem dX5_at_26 : decode cX5_at 26 = .ok (.iaload, 1) := by decide +kernel
theorem dX5_at_27 : decode cX5_at 27 = .ok (.goto 5, 3) := by decide +kernel
theorem dX5_at_30 : decode cX5_at 30 = .ok (.bipush (-4), 2) := by decide +kernel
theorem dX5_at_32 : decode cX5_at 32 = .ok (.ireturn, 1) := by decide +kernel
theorem dX5_has_0 : decode cX5_has 0 = .ok (.iconst 0, 1) := by decide +kernel
theorem dX5_has_1 : decode cX5_has 1 = .ok (.istore_n 2, 1) := by decide +kernel
theorem dX5_has_2 : decode cX5_has 2 = .ok (.iload_n 2, 1) := by decide +kernel
theorem dX5_has_3 : decode cX5_has 3 = .ok (.aload_n 0, 1) := by decide +kernel
theorem dX5_has_4 : decode cX5_has 4 = .ok (.getfield 21, 3) := by decide +kernel
theorem dX5_has_7 : decode cX5_has 7 = .ok (.if_icmp .ge 20, 3) := by decide +kernel
theorem dX5_has_10 : decode cX5_has 10 = .ok (.aload_n 0, 1) := by decide +kernel
theorem dX5_has_11 : decode cX5_has 11 = .ok (.iload_n 2, 1) := by decide +kernel
theorem dX5_has_12 : decode cX5_has 12 = .ok (.invokevirtual 25, 3) := by decide +kernel
theorem dX5_has_15 : decode cX5_has 15 = .ok (.iload_n 1, 1) := by decide +kernel
theorem dX5_has_16 : decode cX5_has 16 = .ok (.if_icmp .ne 5, 3) := by decide +kernel
theorem dX5_has_19 : decode cX5_has 19 = .ok (.iconst 1, 1) := by decide +kernel
theorem dX5_has_20 : decode cX5_has 20 = .ok (.ireturn, 1) := by decide +kernel
theorem dX5_has_21 : decode cX5_has 21 = .ok (.iinc 2 1, 3) := by decide +kernel
theorem dX5_has_24 : decode cX5_has 24 = .ok (.goto (-22), 3) := by decide +kernel
theorem dX5_has_27 : decode cX5_has 27 = .ok (.iconst 0, 1) := by decide +kernel
theorem dX5_has_28 : decode cX5_has 28 = .ok (.ireturn, 1) := by decide +kernel
theorem dX5_copy_0 : decode cX5_copy 0 = .ok (.aload_n 0, 1) := by decide +kernel
theorem dX5_copy_1 : decode cX5_copy 1 = .ok (.invokevirtual 29, 3) := by decide +kernel
theorem dX5_copy_4 : decode cX5_copy 4 = .ok (.iconst 0, 1) := by decide +kernel
theorem dX5_copy_5 : decode cX5_copy 5 = .ok (.istore_n 2, 1) := by decide +kernel
theorem dX5_copy_6 : decode cX5_copy 6 = .ok (.iload_n 2, 1) := by decide +kernel
theorem dX5_copy_7 : decode cX5_copy 7 = .ok (.aload_n 1, 1) := by decide +kernel
theorem dX5_copy_8 : decode cX5_copy 8 = .ok (.getfield 21, 3) := by decide +kernel
theorem dX5_copy_11 : decode cX5_copy 11 = .ok (.if_icmp .ge 18, 3) := by decide +kernel
theorem dX5_copy_14 : decode cX5_copy 14 = .ok (.aload_n 0, 1) := by decide +kernel
theorem dX5_copy_15 : decode cX5_copy 15 = .ok (.aload_n 1, 1) := by decide +kernel
theorem dX5_copy_16 : decode cX5_copy 16 = .ok (.iload_n 2, 1) := by decide +kernel
theorem dX5_copy_17 : decode cX5_copy 17 = .ok (.invokevirtual 25, 3) := by decide +kernel
theorem dX5_copy_20 : decode cX5_copy 20 = .ok (.invokevirtual 32, 3) := by decide +kernel
theorem dX5_copy_23 : decode cX5_copy 23 = .ok (.iinc 2 1, 3) := by decide +kernel
theorem dX5_copy_26 : decode cX5_copy 26 = .ok (.goto (-20), 3) := by decide +kernel
theorem dX5_copy_29 : decode cX5_copy 29 = .ok (.return_, 1) := by decide +kernel
end
section
theorem dX5_isSameAs_0 : decode cX5_isSameAs 0 = .ok (.aload_n 0, 1) := by decide +kernel
theorem dX5_isSameAs_1 : decode cX5_isSameAs 1 = .ok (.getfield 21, 3) := by decide +kernel
theorem dX5_isSameAs_4 : decode cX5_isSameAs 4 = .ok (.aload_n 1, 1) := by decide +kernel
theorem dX5_isSameAs_5 : decode cX5_isSameAs 5 = .ok (.getfield 21, 3) := by decide +kernel
theorem dX5_isSameAs_8 : decode cX5_isSameAs 8 = .ok (.if_icmp .eq 5, 3) := by decide +kernel
theorem dX5_isSameAs_11 : decode cX5_isSameAs 11 = .ok (.iconst 0, 1) := by decide +kernel
theorem dX5_isSameAs_12 : decode cX5_isSameAs 12 = .ok (.ireturn, 1) := by decide +kernel
theorem dX5_isSameAs_13 : decode cX5_isSameAs 13 = .ok (.iconst 0, 1) := by decide +kernel
theorem dX5_isSameAs_14 : decode cX5_isSameAs 14 = .ok (.istore_n 2, 1) := by decide +kernel
theorem dX5_isSameAs_15 : decode cX5_isSameAs 15 = .ok (.iload_n 2, 1) := by decide +kernel
theorem dX5_isSameAs_16 : decode cX5_isSameAs 16 = .ok (.aload_n 0, 1) := by decide +kernel
theorem dX5_isSameAs_17 : decode cX5_isSameAs 17 = .ok (.getfield 21, 3) := by decide +kernel
theorem dX5_isSameAs_20 : decode cX5_isSameAs 20 = .ok (.if_icmp .ge 24, 3) := by decide +kernel
theorem dX5_isSameAs_23 : decode cX5_isSameAs 23 = .ok (.aload_n 0, 1) := by decide +kernel
theorem dX5_isSameAs_24 : decode cX5_isSameAs 24 = .ok (.iload_n 2, 1) := by decide +kernel
theorem dX5_isSameAs_25 : decode cX5_isSameAs 25 = .ok (.invokevirtual 25, 3) := by decide +kernel
theorem dX5_isSameAs_28 : decode cX5_isSameAs 28 = .ok (.aload_n 1, 1) := by decide +kernel
theorem dX5_isSameAs_29 : decode cX5_isSameAs 29 = .ok (.iload_n 2, 1) := by decide +kernel
theorem dX5_isSameAs_30 : decode cX5_isSameAs 30 = .ok (.invokevirtual 25, 3) := by decide +kernel
theorem dX5_isSameAs_33 : decode cX5_isSameAs 33 = .ok (.if_icmp .eq 5, 3) := by decide +kernel
theorem dX5_isSameAs_36 : decode cX5_isSameAs 36 = .ok (.iconst 0, 1) := by decide +kernel
theorem dX5_isSameAs_37 : decode cX5_isSameAs 37 = .ok (.ireturn, 1) := by decide +kernel
theorem dX5_isSameAs_38 : decode cX5_isSameAs 38 = .ok (.iinc 2 1, 3) := by decide +kernel
theorem dX5_isSameAs_41 : decode cX5_isSameAs 41 = .ok (.goto (-26), 3) := by decide +kernel
theorem dX5_isSameAs_44 : decode cX5_isSameAs 44 = .ok (.iconst 1, 1) := by decide +kernel
theorem dX5_isSameAs_45 : decode cX5_isSameAs 45 = .ok (.ireturn, 1) := by decide +kernel
theorem dX6_init_0 : decode cX6_init 0 = .ok (.aload_n 0, 1) := by decide +kernel
theorem dX6_init_1 : decode cX6_init 1 = .ok (.invokespecial 3, 3) := by decide +kernel
theorem dX6_init_4 : decode cX6_init 4 = .ok (.aload_n 0, 1) := by decide +kernel
theorem dX6_init_5 : decode cX6_init 5 = .ok (.bipush 8, 2) := by decide +kernel
theorem dX6_init_7 : decode cX6_init 7 = .ok (.anewarray 9, 3) := by decide +kernel
theorem dX6_init_10 : decode cX6_init 10 = .ok (.putfield 11, 3) := by decide +kernel
theorem dX6_init_13 : decode cX6_init 13 = .ok (.aload_n 0, 1) := by decide +kernel
theorem dX6_init_14 : decode cX6_init 14 = .ok (.bipush 9, 2) := by decide +kernel
theorem dX6_init_16 : decode cX6_init 16 = .ok (.newarray .int, 2) := by decide +kernel
theorem dX6_init_18 : decode cX6_init 18 = .ok (.putfield 17, 3) := by decide +kernel
theorem dX6_init_21 : decode cX6_init 21 = .ok (.aload_n 0, 1) := by decide +kernel
theorem dX6_init_22 : decode cX6_init 22 = .ok (.bipush 9, 2) := by decide +kernel
theorem dX6_init_24 : decode cX6_init 24 = .ok (.newarray .int, 2) := by decide +kernel
theorem dX6_init_26 : decode cX6_init 26 = .ok (.putfield 21, 3) := by decide +kernel
theorem dX6_init_29 : decode cX6_init 29 = .ok (.aload_n 0, 1) := by decide +kernel
theorem dX6_init_30 : decode cX6_init 30 = .ok (.bipush 9, 2) := by decide +kernel
theorem dX6_init_32 : decode cX6_init 32 = .ok (.newarray .int, 2) := by decide +kernel
theorem dX6_init_34 : decode cX6_init 34 = .ok (.putfield 24, 3) := by decide +kernel
theorem dX6_init_37 : decode cX6_init 37 = .ok (.aload_n 0, 1) := by decide +kernel
theorem dX6_init_38 : decode cX6_init 38 = .ok (.bipush 9, 2) := by decide +kernel
theorem dX6_init_40 : decode cX6_init 40 = .ok (.newarray .long, 2) := by decide +kernel
theorem dX6_init_42 : decode cX6_init 42 = .ok (.putfield 27, 3) := by decide +kernel
theorem dX6_init_45 : decode cX6_init 45 = .ok (.iconst 0, 1) := by decide +kernel
theorem dX6_init_46 : decode cX6_init 46 = .ok (.istore_n 1, 1) := by decide +kernel
theorem dX6_init_47 : decode cX6_init 47 = .ok (.iload_n 1, 1) := by decide +kernel
theorem dX6_init_48 : decode cX6_init 48 = .ok (.bipush 8, 2) := by decide +kernel
theorem dX6_init_50 : decode cX6_init 50 = .ok (.if_icmp .ge 24, 3) := by decide +kernel
theorem dX6_init_53 : decode cX6_init 53 = .ok (.aload_n 0, 1) := by decide +kernel
theorem dX6_init_54 : decode cX6_init 54 = .ok (.getfield 11, 3) := by decide +kernel
theorem dX6_init_57 : decode cX6_init 57 = .ok (.iload_n 1, 1) := by decide +kernel
theorem dX6_init_58 : decode cX6_init 58 = .ok (.new 9, 3) := by decide +kernel
theorem dX6_init_61 : decode cX6_init 61 = .ok (.dup, 1) := by decide +kernel
theorem dX6_init_62 : decode cX6_init 62 = .ok (.bipush 8, 2) := by decide +kernel
theorem dX6_init_64 : decode cX6_init 64 = .ok (.invokespecial 31, 3) := by decide +kernel
theorem dX6_init_67 : decode cX6_init 67 = .ok (.aastore, 1) := by decide +kernel
theorem dX6_init_68 : decode cX6_init 68 = .ok (.iinc 1 1, 3) := by decide +kernel
theorem dX6_init_71 : decode cX6_init 71 = .ok (.goto (-24), 3) := by decide +kernel
theorem dX6_init_74 : decode cX6_init 74 = .ok (.return_, 1) := by decide +kernel
theorem dX6_forget_0 : decode cX6_forget 0 = .ok (.aload_n 0, 1) := by decide +kernel
theorem dX6_forget_1 : decode cX6_forget 1 = .ok (.iconst 0, 1) := by decide +kernel
theorem dX6_forget_2 : decode cX6_forget 2 = .ok (.putfield 34, 3) := by decide +kernel
theorem dX6_forget_5 : decode cX6_forget 5 = .ok (.return_, 1) := by decide +kernel
theorem dX6_settle_0 : decode cX6_settle 0 = .ok (.aload_n 0, 1) := by decide +kernel
theorem dX6_settle_1 : decode cX6_settle 1 = .ok (.getfield 34, 3) := by decide +kernel
theorem dX6_settle_4 : decode cX6_settle 4 = .ok (.ifCond .eq 4, 3) := by decide +kernel
theorem dX6_settle_7 : decode cX6_settle 7 = .ok (.return_, 1) := by decide +kernel
theorem dX6_settle_8 : decode cX6_settle 8 = .ok (.iconst 0, 1) := by decide +kernel
theorem dX6_settle_9 : decode cX6_settle 9 = .ok (.istore_n 2, 1) := by decide +kernel
theorem dX6_settle_10 : decode cX6_settle 10 = .ok (.iload_n 2, 1) := by decide +kernel
theorem dX6_settle_11 : decode cX6_settle 11 = .ok (.bipush 8, 2) := by decide +kernel
theorem dX6_settle_13 : decode cX6_settle 13 = .ok (.if_icmp .ge 31, 3) := by decide +kernel
theorem dX6_settle_16 : decode cX6_settle 16 = .ok (.aload_n 1, 1) := by decide +kernel
theorem dX6_settle_17 : decode cX6_settle 17 = .ok (.iload_n 2, 1) := by decide +kernel
theorem dX6_settle_18 : decode cX6_settle 18 = .ok (.invokevirtual 38, 3) := by decide +kernel
theorem dX6_settle_21 : decode cX6_settle 21 = .ok (.astore_n 3, 1) := by decide +kernel
theorem dX6_settle_22 : decode cX6_settle 22 = .ok (.aload_n 3, 1) := by decide +kernel
theorem dX6_settle_23 : decode cX6_settle 23 = .ok (.ifnull 15, 3) := by decide +kernel
theorem dX6_settle_26 : decode cX6_settle 26 = .ok (.aload_n 0, 1) := by decide +kernel
theorem dX6_settle_27 : decode cX6_settle 27 = .ok (.aload_n 1, 1) := by decide +kernel
theorem dX6_settle_28 : decode cX6_settle 28 = .ok (.aload_n 3, 1) := by decide +kernel
theorem dX6_settle_29 : decode cX6_settle 29 = .ok (.aload_n 0, 1) := by decide +kernel
theorem dX6_settle_30 : decode cX6_settle 30 = .ok (.getfield 11, 3) := by decide +kernel
theorem dX6_settle_33 : decode cX6_settle 33 = .ok (.iload_n 2, 1) := by decide +kernel
theorem dX6_settle_34 : decode cX6_settle 34 = .ok (.aaload, 1) := by decide +kernel
theorem dX6_settle_35 : decode cX6_settle 35 = .ok (.invokevirtual 44, 3) := by decide +kernel
theorem dX6_settle_38 : decode cX6_settle 38 = .ok (.iinc 2 1, 3) := by decide +kernel
theorem dX6_settle_41 : decode cX6_settle 41 = .ok (.goto (-31), 3) := by decide +kernel
theorem dX6_settle_44 : decode cX6_settle 44 = .ok (.aload_n 0, 1) := by decide +kernel
theorem dX6_settle_45 : decode cX6_settle 45 = .ok (.iconst 1, 1) := by decide +kernel
theorem dX6_settle_46 : decode cX6_settle 46 = .ok (.putfield 34, 3) := by decide +kernel
theorem dX6_settle_49 : decode cX6_settle 49 = .ok (.return_, 1) := by decide +kernel
theorem dX6_rowOf_0 : decode cX6_rowOf 0 = .ok (.iload_n 1, 1) := by decide +kernel
theorem dX6_rowOf_1 : decode cX6_rowOf 1 = .ok (.ifCond .lt 18, 3) := by decide +kernel
theorem dX6_rowOf_4 : decode cX6_rowOf 4 = .ok (.iload_n 1, 1) := by decide +kernel
theorem dX6_rowOf_5 : decode cX6_rowOf 5 = .ok (.bipush 8, 2) := by decide +kernel
theorem dX6_rowOf_7 : decode cX6_rowOf 7 = .ok (.if_icmp .ge 12, 3) := by decide +kernel
theorem dX6_rowOf_10 : decode cX6_rowOf 10 = .ok (.aload_n 0, 1) := by decide +kernel
theorem dX6_rowOf_11 : decode cX6_rowOf 11 = .ok (.getfield 11, 3) := by decide +kernel
theorem dX6_rowOf_14 : decode cX6_rowOf 14 = .ok (.iload_n 1, 1) := by decide +kernel
theorem dX6_rowOf_15 : decode cX6_rowOf 15 = .ok (.aaload, 1) := by decide +kernel
theorem dX6_rowOf_16 : decode cX6_rowOf 16 = .ok (.goto 4, 3) := by decide +kernel
theorem dX6_rowOf_19 : decode cX6_rowOf 19 = .ok (.aconst_null, 1) := by decide +kernel
theorem dX6_rowOf_20 : decode cX6_rowOf 20 = .ok (.areturn, 1) := by decide +kernel
theorem dX6_findLeast_0 : decode cX6_findLeast 0 = .ok (.aload_n 2, 1) := by decide +kernel
theorem dX6_findLeast_1 : decode cX6_findLeast 1 = .ok (.getfield 48, 3) := by decide +kernel
theorem dX6_findLeast_4 : decode cX6_findLeast 4 = .ok (.invokevirtual 54, 3) := by decide +kernel
theorem dX6_findLeast_7 : decode cX6_findLeast 7 = .ok (.istore 4, 2) := by decide +kernel
theorem dX6_findLeast_9 : decode cX6_findLeast 9 = .ok (.iload 4, 2) := by decide +kernel
theorem dX6_findLeast_11 : decode cX6_findLeast 11 = .ok (.ifCond .lt 17, 3) := by decide +kernel
theorem dX6_findLeast_14 : decode cX6_findLeast 14 = .ok (.aload_n 0, 1) := by decide +kernel
theorem dX6_findLeast_15 : decode cX6_findLeast 15 = .ok (.aload_n 1, 1) := by decide +kernel
theorem dX6_findLeast_16 : decode cX6_findLeast 16 = .ok (.aload_n 2, 1) := by decide +kernel
theorem dX6_findLeast_17 : decode cX6_findLeast 17 = .ok (.iload 4, 2) := by decide +kernel
theorem dX6_findLeast_19 : decode cX6_findLeast 19 = .ok (.invokevirtual 60, 3) := by decide +kernel
theorem dX6_findLeast_22 : decode cX6_findLeast 22 = .ok (.iinc 4 (-1), 3) := by decide +kernel
theorem dX6_findLeast_25 : decode cX6_findLeast 25 = .ok (.goto (-16), 3) := by decide +kernel
theorem dX6_findLeast_28 : decode cX6_findLeast 28 = .ok (.aload_n 3, 1) := by decide +kernel
theorem dX6_findLeast_29 : decode cX6_findLeast 29 = .ok (.invokevirtual 64, 3) := by decide +kernel
theorem dX6_findLeast_32 : decode cX6_findLeast 32 = .ok (.iconst 0, 1) := by decide +kernel
theorem dX6_findLeast_33 : decode cX6_findLeast 33 = .ok (.istore 4, 2) := by decide +kernel
theorem dX6_findLeast_35 : decode cX6_findLeast 35 = .ok (.iconst 0, 1) := by decide +kernel
theorem dX6_findLeast_36 : decode cX6_findLeast 36 = .ok (.istore 5, 2) := by decide +kernel
theorem dX6_findLeast_38 : decode cX6_findLeast 38 = .ok (.iload 5, 2) := by decide +kernel
theorem dX6_findLeast_40 : decode cX6_findLeast 40 = .ok (.bipush 8, 2) := by decide +kernel
theorem dX6_findLeast_42 : decode cX6_findLeast 42 = .ok (.if_icmp .ge 62, 3) := by decide +kernel
theorem dX6_findLeast_45 : decode cX6_findLeast 45 = .ok (.iload 4, 2) := by decide +kernel
theorem dX6_findLeast_47 : decode cX6_findLeast 47 = .ok (.ifCond .lt 57, 3) := by decide +kernel
theorem dX6_findLeast_50 : decode cX6_findLeast 50 = .ok (.iload 4, 2) := by decide +kernel
theorem dX6_findLeast_52 : decode cX6_findLeast 52 = .ok (.bipush 8, 2) := by decide +kernel
theorem dX6_findLeast_54 : decode cX6_findLeast 54 = .ok (.if_icmp .gt 50, 3) := by decide +kernel
theorem dX6_findLeast_57 : decode cX6_findLeast 57 = .ok (.aload_n 1, 1) := by decide +kernel
theorem dX6_findLeast_58 : decode cX6_findLeast 58 = .ok (.aload_n 0, 1) := by decide +kernel
theorem dX6_findLeast_59 : decode cX6_findLeast 59 = .ok (.getfield 24, 3) := by decide +kernel
theorem dX6_findLeast_62 : decode cX6_findLeast 62 = .ok (.iload 4, 2) := by decide +kernel
theorem dX6_findLeast_64 : decode cX6_findLeast 64 = .ok (.iaload, 1) := by decide +kernel
theorem dX6_findLeast_65 : decode cX6_findLeast 65 = .ok (.invokevirtual 67, 3) := by decide +kernel
theorem dX6_findLeast_68 : decode cX6_findLeast 68 = .ok (.astore 6, 2) := by decide +kernel
theorem dX6_findLeast_70 : decode cX6_findLeast 70 = .ok (.aload 6, 2) := by decide +kernel
theorem dX6_findLeast_72 : decode cX6_findLeast 72 = .ok (.ifnonnull 4, 3) := by decide +kernel
theorem dX6_findLeast_75 : decode cX6_findLeast 75 = .ok (.return_, 1) := by decide +kernel
theorem dX6_findLeast_76 : decode cX6_findLeast 76 = .ok (.aload_n 3, 1) := by decide +kernel
theorem dX6_findLeast_77 : decode cX6_findLeast 77 = .ok (.aload_n 0, 1) := by decide +kernel
theorem dX6_findLeast_78 : decode cX6_findLeast 78 = .ok (.getfield 24, 3) := by decide +kernel
theorem dX6_findLeast_81 : decode cX6_findLeast 81 = .ok (.iload 4, 2) := by decide +kernel
theorem dX6_findLeast_83 : decode cX6_findLeast 83 = .ok (.iaload, 1) := by decide +kernel
theorem dX6_findLeast_84 : decode cX6_findLeast 84 = .ok (.invokevirtual 71, 3) := by decide +kernel
theorem dX6_findLeast_87 : decode cX6_findLeast 87 = .ok (.aload_n 1, 1) := by decide +kernel
theorem dX6_findLeast_88 : decode cX6_findLeast 88 = .ok (.aload_n 2, 1) := by decide +kernel
theorem dX6_findLeast_89 : decode cX6_findLeast 89 = .ok (.iload 4, 2) := by decide +kernel
theorem dX6_findLeast_91 : decode cX6_findLeast 91 = .ok (.aload 6, 2) := by decide +kernel
theorem dX6_findLeast_93 : decode cX6_findLeast 93 = .ok (.invokevirtual 74, 3) := by decide +kernel
theorem dX6_findLeast_96 : decode cX6_findLeast 96 = .ok (.istore 4, 2) := by decide +kernel
theorem dX6_findLeast_98 : decode cX6_findLeast 98 = .ok (.iinc 5 1, 3) := by decide +kernel
theorem dX6_findLeast_101 : decode cX6_findLeast 101 = .ok (.goto (-63), 3) := by decide +kernel
theorem dX6_findLeast_104 : decode cX6_findLeast 104 = .ok (.return_, 1) := by decide +kernel
theorem dX6_weigh_0 : decode cX6_weigh 0 = .ok (.iload_n 3, 1) := by decide +kernel
theorem dX6_weigh_1 : decode cX6_weigh 1 = .ok (.ifCond .lt 9, 3) := by decide +kernel
theorem dX6_weigh_4 : decode cX6_weigh 4 = .ok (.iload_n 3, 1) := by decide +kernel
theorem dX6_weigh_5 : decode cX6_weigh 5 = .ok (.bipush 8, 2) := by decide +kernel
theorem dX6_weigh_7 : decode cX6_weigh 7 = .ok (.if_icmp .le 4, 3) := by decide +kernel
theorem dX6_weigh_10 : decode cX6_weigh 10 = .ok (.return_, 1) := by decide +kernel
theorem dX6_weigh_11 : decode cX6_weigh 11 = .ok (.iload_n 3, 1) := by decide +kernel
theorem dX6_weigh_12 : decode cX6_weigh 12 = .ok (.ifCond .le 16, 3) := by decide +kernel
theorem dX6_weigh_15 : decode cX6_weigh 15 = .ok (.aload_n 1, 1) := by decide +kernel
theorem dX6_weigh_16 : decode cX6_weigh 16 = .ok (.aload_n 2, 1) := by decide +kernel
theorem dX6_weigh_17 : decode cX6_weigh 17 = .ok (.iload_n 3, 1) := by decide +kernel
theorem dX6_weigh_18 : decode cX6_weigh 18 = .ok (.invokevirtual 78, 3) := by decide +kernel
theorem dX6_weigh_21 : decode cX6_weigh 21 = .ok (.ifCond .eq 7, 3) := by decide +kernel
theorem dX6_weigh_24 : decode cX6_weigh 24 = .ok (.iconst 1, 1) := by decide +kernel
theorem dX6_weigh_25 : decode cX6_weigh 25 = .ok (.goto 4, 3) := by decide +kernel
theorem dX6_weigh_28 : decode cX6_weigh 28 = .ok (.iconst 0, 1) := by decide +kernel
theorem dX6_weigh_29 : decode cX6_weigh 29 = .ok (.istore 4, 2) := by decide +kernel
theorem dX6_weigh_31 : decode cX6_weigh 31 = .ok (.aload_n 0, 1) := by decide +kernel
theorem dX6_weigh_32 : decode cX6_weigh 32 = .ok (.getfield 17, 3) := by decide +kernel
theorem dX6_weigh_35 : decode cX6_weigh 35 = .ok (.iload_n 3, 1) := by decide +kernel
theorem dX6_weigh_36 : decode cX6_weigh 36 = .ok (.iload 4, 2) := by decide +kernel
theorem dX6_weigh_38 : decode cX6_weigh 38 = .ok (.ifCond .eq 7, 3) := by decide +kernel
theorem dX6_weigh_41 : decode cX6_weigh 41 = .ok (.iconst 0, 1) := by decide +kernel
theorem dX6_weigh_42 : decode cX6_weigh 42 = .ok (.goto 6, 3) := by decide +kernel
theorem dX6_weigh_45 : decode cX6_weigh 45 = .ok (.sipush 1000, 3) := by decide +kernel
theorem dX6_weigh_48 : decode cX6_weigh 48 = .ok (.iastore, 1) := by decide +kernel
theorem dX6_weigh_49 : decode cX6_weigh 49 = .ok (.aload_n 0, 1) := by decide +kernel
theorem dX6_weigh_50 : decode cX6_weigh 50 = .ok (.getfield 21, 3) := by decide +kernel
theorem dX6_weigh_53 : decode cX6_weigh 53 = .ok (.iload_n 3, 1) := by decide +kernel
theorem dX6_weigh_54 : decode cX6_weigh 54 = .ok (.iconst 0, 1) := by decide +kernel
theorem dX6_weigh_55 : decode cX6_weigh 55 = .ok (.iastore, 1) := by decide +kernel
theorem dX6_weigh_56 : decode cX6_weigh 56 = .ok (.aload_n 0, 1) := by decide +kernel
theorem dX6_weigh_57 : decode cX6_weigh 57 = .ok (.getfield 24, 3) := by decide +kernel
theorem dX6_weigh_60 : decode cX6_weigh 60 = .ok (.iload_n 3, 1) := by decide +kernel
theorem dX6_weigh_61 : decode cX6_weigh 61 = .ok (.bipush (-4), 2) := by decide +kernel
theorem dX6_weigh_63 : decode cX6_weigh 63 = .ok (.iastore, 1) := by decide +kernel
theorem dX6_weigh_64 : decode cX6_weigh 64 = .ok (.iconst 0, 1) := by decide +kernel
theorem dX6_weigh_65 : decode cX6_weigh 65 = .ok (.istore 5, 2) := by decide +kernel
theorem dX6_weigh_67 : decode cX6_weigh 67 = .ok (.iload 5, 2) := by decide +kernel
theorem dX6_weigh_69 : decode cX6_weigh 69 = .ok (.aload_n 1, 1) := by decide +kernel
theorem dX6_weigh_70 : decode cX6_weigh 70 = .ok (.getfield 82, 3) := by decide +kernel
theorem dX6_weigh_73 : decode cX6_weigh 73 = .ok (.if_icmp .ge 154, 3) := by decide +kernel
theorem dX6_weigh_76 : decode cX6_weigh 76 = .ok (.iload 4, 2) := by decide +kernel
theorem dX6_weigh_78 : decode cX6_weigh 78 = .ok (.ifCond .ne 149, 3) := by decide +kernel
theorem dX6_weigh_81 : decode cX6_weigh 81 = .ok (.aload_n 1, 1) := by decide +kernel
theorem dX6_weigh_82 : decode cX6_weigh 82 = .ok (.iload 5, 2) := by decide +kernel
theorem dX6_weigh_84 : decode cX6_weigh 84 = .ok (.invokevirtual 67, 3) := by decide +kernel
theorem dX6_weigh_87 : decode cX6_weigh 87 = .ok (.astore 6, 2) := by decide +kernel
theorem dX6_weigh_89 : decode cX6_weigh 89 = .ok (.aload 6, 2) := by decide +kernel
theorem dX6_weigh_91 : decode cX6_weigh 91 = .ok (.ifnonnull 6, 3) := by decide +kernel
theorem dX6_weigh_94 : decode cX6_weigh 94 = .ok (.goto 127, 3) := by decide +kernel
theorem dX6_weigh_97 : decode cX6_weigh 97 = .ok (.aload_n 1, 1) := by decide +kernel
theorem dX6_weigh_98 : decode cX6_weigh 98 = .ok (.aload_n 2, 1) := by decide +kernel
theorem dX6_weigh_99 : decode cX6_weigh 99 = .ok (.iload_n 3, 1) := by decide +kernel
theorem dX6_weigh_100 : decode cX6_weigh 100 = .ok (.aload 6, 2) := by decide +kernel
theorem dX6_weigh_102 : decode cX6_weigh 102 = .ok (.invokevirtual 74, 3) := by decide +kernel
theorem dX6_weigh_105 : decode cX6_weigh 105 = .ok (.istore 7, 2) := by decide +kernel
theorem dX6_weigh_107 : decode cX6_weigh 107 = .ok (.iload 7, 2) := by decide +kernel
theorem dX6_weigh_109 : decode cX6_weigh 109 = .ok (.ifCond .lt 112, 3) := by decide +kernel
theorem dX6_weigh_112 : decode cX6_weigh 112 = .ok (.iload 7, 2) := by decide +kernel
theorem dX6_weigh_114 : decode cX6_weigh 114 = .ok (.bipush 8, 2) := by decide +kernel
theorem dX6_weigh_116 : decode cX6_weigh 116 = .ok (.if_icmp .gt 105, 3) := by decide +kernel
theorem dX6_weigh_119 : decode cX6_weigh 119 = .ok (.aload_n 0, 1) := by decide +kernel
theorem dX6_weigh_120 : decode cX6_weigh 120 = .ok (.getfield 17, 3) := by decide +kernel
theorem dX6_weigh_123 : decode cX6_weigh 123 = .ok (.iload 7, 2) := by decide +kernel
theorem dX6_weigh_125 : decode cX6_weigh 125 = .ok (.iaload, 1) := by decide +kernel
theorem dX6_weigh_126 : decode cX6_weigh 126 = .ok (.sipush 1000, 3) := by decide +kernel
theorem dX6_weigh_129 : decode cX6_weigh 129 = .ok (.if_icmp .lt 6, 3) := by decide +kernel
theorem dX6_weigh_132 : decode cX6_weigh 132 = .ok (.goto 89, 3) := by decide +kernel
theorem dX6_weigh_135 : decode cX6_weigh 135 = .ok (.aload_n 0, 1) := by decide +kernel
theorem dX6_weigh_136 : decode cX6_weigh 136 = .ok (.getfield 17, 3) := by decide +kernel
theorem dX6_weigh_139 : decode cX6_weigh 139 = .ok (.iload 7, 2) := by decide +kernel
theorem dX6_weigh_141 : decode cX6_weigh 141 = .ok (.iaload, 1) := by decide +kernel
theorem dX6_weigh_142 : decode cX6_weigh 142 = .ok (.iconst 1, 1) := by decide +kernel
theorem dX6_weigh_143 : decode cX6_weigh 143 = .ok (.iadd, 1) := by decide +kernel
theorem dX6_weigh_144 : decode cX6_weigh 144 = .ok (.istore 8, 2) := by decide +kernel
theorem dX6_weigh_146 : decode cX6_weigh 146 = .ok (.aload_n 0, 1) := by decide +kernel
theorem dX6_weigh_147 : decode cX6_weigh 147 = .ok (.getfield 21, 3) := by decide +kernel
theorem dX6_weigh_150 : decode cX6_weigh 150 = .ok (.iload 7, 2) := by decide +kernel
theorem dX6_weigh_152 : decode cX6_weigh 152 = .ok (.iaload, 1) := by decide +kernel
theorem dX6_weigh_153 : decode cX6_weigh 153 = .ok (.aload 6, 2) := by decide +kernel
theorem dX6_weigh_155 : decode cX6_weigh 155 = .ok (.getfield 86, 3) := by decide +kernel
theorem dX6_weigh_158 : decode cX6_weigh 158 = .ok (.invokevirtual 54, 3) := by decide +kernel
theorem dX6_weigh_161 : decode cX6_weigh 161 = .ok (.iadd, 1) := by decide +kernel
theorem dX6_weigh_162 : decode cX6_weigh 162 = .ok (.istore 9, 2) := by decide +kernel
theorem dX6_weigh_164 : decode cX6_weigh 164 = .ok (.iload 8, 2) := by decide +kernel
theorem dX6_weigh_166 : decode cX6_weigh 166 = .ok (.aload_n 0, 1) := by decide +kernel
theorem dX6_weigh_167 : decode cX6_weigh 167 = .ok (.getfield 17, 3) := by decide +kernel
theorem dX6_weigh_170 : decode cX6_weigh 170 = .ok (.iload_n 3, 1) := by decide +kernel
theorem dX6_weigh_171 : decode cX6_weigh 171 = .ok (.iaload, 1) := by decide +kernel
theorem dX6_weigh_172 : decode cX6_weigh 172 = .ok (.if_icmp .lt 25, 3) := by decide +kernel
theorem dX6_weigh_175 : decode cX6_weigh 175 = .ok (.iload 8, 2) := by decide +kernel
theorem dX6_weigh_177 : decode cX6_weigh 177 = .ok (.aload_n 0, 1) := by decide +kernel
theorem dX6_weigh_178 : decode cX6_weigh 178 = .ok (.getfield 17, 3) := by decide +kernel
theorem dX6_weigh_181 : decode cX6_weigh 181 = .ok (.iload_n 3, 1) := by decide +kernel
theorem dX6_weigh_182 : decode cX6_weigh 182 = .ok (.iaload, 1) := by decide +kernel
theorem dX6_weigh_183 : decode cX6_weigh 183 = .ok (.if_icmp .ne 38, 3) := by decide +kernel
theorem dX6_weigh_186 : decode cX6_weigh 186 = .ok (.iload 9, 2) := by decide +kernel
theorem dX6_weigh_188 : decode cX6_weigh 188 = .ok (.aload_n 0, 1) := by decide +kernel
theorem dX6_weigh_189 : decode cX6_weigh 189 = .ok (.getfield 21, 3) := by decide +kernel
theorem dX6_weigh_192 : decode cX6_weigh 192 = .ok (.iload_n 3, 1) := by decide +kernel
theorem dX6_weigh_193 : decode cX6_weigh 193 = .ok (.iaload, 1) := by decide +kernel
theorem dX6_weigh_194 : decode cX6_weigh 194 = .ok (.if_icmp .le 27, 3) := by decide +kernel
theorem dX6_weigh_197 : decode cX6_weigh 197 = .ok (.aload_n 0, 1) := by decide +kernel
theorem dX6_weigh_198 : decode cX6_weigh 198 = .ok (.getfield 17, 3) := by decide +kernel
theorem dX6_weigh_201 : decode cX6_weigh 201 = .ok (.iload_n 3, 1) := by decide +kernel
theorem dX6_weigh_202 : decode cX6_weigh 202 = .ok (.iload 8, 2) := by decide +kernel
theorem dX6_weigh_204 : decode cX6_weigh 204 = .ok (.iastore, 1) := by decide +kernel
theorem dX6_weigh_205 : decode cX6_weigh 205 = .ok (.aload_n 0, 1) := by decide +kernel
theorem dX6_weigh_206 : decode cX6_weigh 206 = .ok (.getfield 21, 3) := by decide +kernel
theorem dX6_weigh_209 : decode cX6_weigh 209 = .ok (.iload_n 3, 1) := by decide +kernel
theorem dX6_weigh_210 : decode cX6_weigh 210 = .ok (.iload 9, 2) := by decide +kernel
theorem dX6_weigh_212 : decode cX6_weigh 212 = .ok (.iastore, 1) := by decide +kernel
theorem dX6_weigh_213 : decode cX6_weigh 213 = .ok (.aload_n 0, 1) := by decide +kernel
theorem dX6_weigh_214 : decode cX6_weigh 214 = .ok (.getfield 24, 3) := by decide +kernel
theorem dX6_weigh_217 : decode cX6_weigh 217 = .ok (.iload_n 3, 1) := by decide +kernel
theorem dX6_weigh_218 : decode cX6_weigh 218 = .ok (.iload 5, 2) := by decide +kernel
theorem dX6_weigh_220 : decode cX6_weigh 220 = .ok (.iastore, 1) := by decide +kernel
theorem dX6_weigh_221 : decode cX6_weigh 221 = .ok (.iinc 5 1, 3) := by decide +kernel
theorem dX6_weigh_224 : decode cX6_weigh 224 = .ok (.goto (-157), 3) := by decide +kernel
theorem dX6_weigh_227 : decode cX6_weigh 227 = .ok (.return_, 1) := by decide +kernel
theorem dX6_rowsOfSounds_0 : decode cX6_rowsOfSounds 0 = .ok (.aload_n 0, 1) := by decide +kernel
theorem dX6_rowsOfSounds_1 : decode cX6_rowsOfSounds 1 = .ok (.getfield 27, 3) := by decide +kernel
theorem dX6_rowsOfSounds_4 : decode cX6_rowsOfSounds 4 = .ok (.lconst 0, 1) := by decide +kernel
theorem dX6_rowsOfSounds_5 : decode cX6_rowsOfSounds 5 = .ok (.invokestatic 91, 3) := by decide +kernel
theorem dX6_rowsOfSounds_8 : decode cX6_rowsOfSounds 8 = .ok (.aload_n 0, 1) := by decide +kernel
theorem dX6_rowsOfSounds_9 : decode cX6_rowsOfSounds 9 = .ok (.getfield 27, 3) := by decide +kernel
theorem dX6_rowsOfSounds_12 : decode cX6_rowsOfSounds 12 = .ok (.iconst 0, 1) := by decide +kernel
theorem dX6_rowsOfSounds_13 : decode cX6_rowsOfSounds 13 = .ok (.lconst 1, 1) := by decide +kernel
theorem dX6_rowsOfSounds_14 : decode cX6_rowsOfSounds 14 = .ok (.lastore, 1) := by decide +kernel
theorem dX6_rowsOfSounds_15 : decode cX6_rowsOfSounds 15 = .ok (.lconst 0, 1) := by decide +kernel
theorem dX6_rowsOfSounds_16 : decode cX6_rowsOfSounds 16 = .ok (.lstore_n 3, 1) := by decide +kernel
theorem dX6_rowsOfSounds_17 : decode cX6_rowsOfSounds 17 = .ok (.iconst 0, 1) := by decide +kernel
theorem dX6_rowsOfSounds_18 : decode cX6_rowsOfSounds 18 = .ok (.istore 5, 2) := by decide +kernel
theorem dX6_rowsOfSounds_20 : decode cX6_rowsOfSounds 20 = .ok (.iload 5, 2) := by decide +kernel
theorem dX6_rowsOfSounds_22 : decode cX6_rowsOfSounds 22 = .ok (.aload_n 2, 1) := by decide +kernel
theorem dX6_rowsOfSounds_23 : decode cX6_rowsOfSounds 23 = .ok (.getfield 48, 3) := by decide +kernel
theorem dX6_rowsOfSounds_26 : decode cX6_rowsOfSounds 26 = .ok (.invokevirtual 54, 3) := by decide +kernel
theorem dX6_rowsOfSounds_29 : decode cX6_rowsOfSounds 29 = .ok (.if_icmp .gt 129, 3) := by decide +kernel
theorem dX6_rowsOfSounds_32 : decode cX6_rowsOfSounds 32 = .ok (.iload 5, 2) := by decide +kernel
theorem dX6_rowsOfSounds_34 : decode cX6_rowsOfSounds 34 = .ok (.bipush 8, 2) := by decide +kernel
theorem dX6_rowsOfSounds_36 : decode cX6_rowsOfSounds 36 = .ok (.if_icmp .gt 122, 3) := by decide +kernel
theorem dX6_rowsOfSounds_39 : decode cX6_rowsOfSounds 39 = .ok (.iload 5, 2) := by decide +kernel
theorem dX6_rowsOfSounds_41 : decode cX6_rowsOfSounds 41 = .ok (.ifCond .le 23, 3) := by decide +kernel
theorem dX6_rowsOfSounds_44 : decode cX6_rowsOfSounds 44 = .ok (.aload_n 1, 1) := by decide +kernel
theorem dX6_rowsOfSounds_45 : decode cX6_rowsOfSounds 45 = .ok (.aload_n 2, 1) := by decide +kernel
theorem dX6_rowsOfSounds_46 : decode cX6_rowsOfSounds 46 = .ok (.iload 5, 2) := by decide +kernel
theorem dX6_rowsOfSounds_48 : decode cX6_rowsOfSounds 48 = .ok (.invokevirtual 78, 3) := by decide +kernel
theorem dX6_rowsOfSounds_51 : decode cX6_rowsOfSounds 51 = .ok (.ifCond .eq 13, 3) := by decide +kernel
theorem dX6_rowsOfSounds_54 : decode cX6_rowsOfSounds 54 = .ok (.lload_n 3, 1) := by decide +kernel
theorem dX6_rowsOfSounds_55 : decode cX6_rowsOfSounds 55 = .ok (.aload_n 0, 1) := by decide +kernel
theorem dX6_rowsOfSounds_56 : decode cX6_rowsOfSounds 56 = .ok (.getfield 27, 3) := by decide +kernel
theorem dX6_rowsOfSounds_59 : decode cX6_rowsOfSounds 59 = .ok (.iload 5, 2) := by decide +kernel
theorem dX6_rowsOfSounds_61 : decode cX6_rowsOfSounds 61 = .ok (.laload, 1) := by decide +kernel
theorem dX6_rowsOfSounds_62 : decode cX6_rowsOfSounds 62 = .ok (.ladd, 1) := by decide +kernel
theorem dX6_rowsOfSounds_63 : decode cX6_rowsOfSounds 63 = .ok (.lstore_n 3, 1) := by decide +kernel
theorem dX6_rowsOfSounds_64 : decode cX6_rowsOfSounds 64 = .ok (.iconst 0, 1) := by decide +kernel
theorem dX6_rowsOfSounds_65 : decode cX6_rowsOfSounds 65 = .ok (.istore 6, 2) := by decide +kernel
theorem dX6_rowsOfSounds_67 : decode cX6_rowsOfSounds 67 = .ok (.iload 6, 2) := by decide +kernel
theorem dX6_rowsOfSounds_69 : decode cX6_rowsOfSounds 69 = .ok (.aload_n 1, 1) := by decide +kernel
theorem dX6_rowsOfSounds_70 : decode cX6_rowsOfSounds 70 = .ok (.getfield 82, 3) := by decide +kernel
theorem dX6_rowsOfSounds_73 : decode cX6_rowsOfSounds 73 = .ok (.if_icmp .ge 79, 3) := by decide +kernel
theorem dX6_rowsOfSounds_76 : decode cX6_rowsOfSounds 76 = .ok (.aload_n 0, 1) := by decide +kernel
theorem dX6_rowsOfSounds_77 : decode cX6_rowsOfSounds 77 = .ok (.getfield 27, 3) := by decide +kernel
theorem dX6_rowsOfSounds_80 : decode cX6_rowsOfSounds 80 = .ok (.iload 5, 2) := by decide +kernel
theorem dX6_rowsOfSounds_82 : decode cX6_rowsOfSounds 82 = .ok (.laload, 1) := by decide +kernel
theorem dX6_rowsOfSounds_83 : decode cX6_rowsOfSounds 83 = .ok (.lconst 0, 1) := by decide +kernel
theorem dX6_rowsOfSounds_84 : decode cX6_rowsOfSounds 84 = .ok (.lcmp, 1) := by decide +kernel
theorem dX6_rowsOfSounds_85 : decode cX6_rowsOfSounds 85 = .ok (.ifCond .le 67, 3) := by decide +kernel
theorem dX6_rowsOfSounds_88 : decode cX6_rowsOfSounds 88 = .ok (.aload_n 1, 1) := by decide +kernel
theorem dX6_rowsOfSounds_89 : decode cX6_rowsOfSounds 89 = .ok (.iload 6, 2) := by decide +kernel
theorem dX6_rowsOfSounds_91 : decode cX6_rowsOfSounds 91 = .ok (.invokevirtual 67, 3) := by decide +kernel
theorem dX6_rowsOfSounds_94 : decode cX6_rowsOfSounds 94 = .ok (.astore 7, 2) := by decide +kernel
theorem dX6_rowsOfSounds_96 : decode cX6_rowsOfSounds 96 = .ok (.aload 7, 2) := by decide +kernel
theorem dX6_rowsOfSounds_98 : decode cX6_rowsOfSounds 98 = .ok (.ifnonnull 8, 3) := by decide +kernel
theorem dX6_rowsOfSounds_101 : decode cX6_rowsOfSounds 101 = .ok (.bipush (-4), 2) := by decide +kernel
theorem dX6_rowsOfSounds_103 : decode cX6_rowsOfSounds 103 = .ok (.goto 12, 3) := by decide +kernel
theorem dX6_rowsOfSounds_106 : decode cX6_rowsOfSounds 106 = .ok (.aload_n 1, 1) := by decide +kernel
theorem dX6_rowsOfSounds_107 : decode cX6_rowsOfSounds 107 = .ok (.aload_n 2, 1) := by decide +kernel
theorem dX6_rowsOfSounds_108 : decode cX6_rowsOfSounds 108 = .ok (.iload 5, 2) := by decide +kernel
theorem dX6_rowsOfSounds_110 : decode cX6_rowsOfSounds 110 = .ok (.aload 7, 2) := by decide +kernel
theorem dX6_rowsOfSounds_112 : decode cX6_rowsOfSounds 112 = .ok (.invokevirtual 74, 3) := by decide +kernel
theorem dX6_rowsOfSounds_115 : decode cX6_rowsOfSounds 115 = .ok (.istore 8, 2) := by decide +kernel
theorem dX6_rowsOfSounds_117 : decode cX6_rowsOfSounds 117 = .ok (.iload 8, 2) := by decide +kernel
theorem dX6_rowsOfSounds_119 : decode cX6_rowsOfSounds 119 = .ok (.ifCond .lt 27, 3) := by decide +kernel
theorem dX6_rowsOfSounds_122 : decode cX6_rowsOfSounds 122 = .ok (.iload 8, 2) := by decide +kernel
theorem dX6_rowsOfSounds_124 : decode cX6_rowsOfSounds 124 = .ok (.bipush 8, 2) := by decide +kernel
theorem dX6_rowsOfSounds_126 : decode cX6_rowsOfSounds 126 = .ok (.if_icmp .gt 20, 3) := by decide +kernel
theorem dX6_rowsOfSounds_129 : decode cX6_rowsOfSounds 129 = .ok (.aload_n 0, 1) := by decide +kernel
theorem dX6_rowsOfSounds_130 : decode cX6_rowsOfSounds 130 = .ok (.getfield 27, 3) := by decide +kernel
theorem dX6_rowsOfSounds_133 : decode cX6_rowsOfSounds 133 = .ok (.iload 8, 2) := by decide +kernel
theorem dX6_rowsOfSounds_135 : decode cX6_rowsOfSounds 135 = .ok (.dup2, 1) := by decide +kernel
theorem dX6_rowsOfSounds_136 : decode cX6_rowsOfSounds 136 = .ok (.laload, 1) := by decide +kernel
theorem dX6_rowsOfSounds_137 : decode cX6_rowsOfSounds 137 = .ok (.aload_n 0, 1) := by decide +kernel
theorem dX6_rowsOfSounds_138 : decode cX6_rowsOfSounds 138 = .ok (.getfield 27, 3) := by decide +kernel
theorem dX6_rowsOfSounds_141 : decode cX6_rowsOfSounds 141 = .ok (.iload 5, 2) := by decide +kernel
theorem dX6_rowsOfSounds_143 : decode cX6_rowsOfSounds 143 = .ok (.laload, 1) := by decide +kernel
theorem dX6_rowsOfSounds_144 : decode cX6_rowsOfSounds 144 = .ok (.ladd, 1) := by decide +kernel
theorem dX6_rowsOfSounds_145 : decode cX6_rowsOfSounds 145 = .ok (.lastore, 1) := by decide +kernel
theorem dX6_rowsOfSounds_146 : decode cX6_rowsOfSounds 146 = .ok (.iinc 6 1, 3) := by decide +kernel
theorem dX6_rowsOfSounds_149 : decode cX6_rowsOfSounds 149 = .ok (.goto (-82), 3) := by decide +kernel
theorem dX6_rowsOfSounds_152 : decode cX6_rowsOfSounds 152 = .ok (.iinc 5 1, 3) := by decide +kernel
theorem dX6_rowsOfSounds_155 : decode cX6_rowsOfSounds 155 = .ok (.goto (-135), 3) := by decide +kernel
theorem dX6_rowsOfSounds_158 : decode cX6_rowsOfSounds 158 = .ok (.lload_n 3, 1) := by decide +kernel
theorem dX6_rowsOfSounds_159 : decode cX6_rowsOfSounds 159 = .ok (.lreturn, 1) := by decide +kernel
theorem dX7_init_0 : decode cX7_init 0 = .ok (.aload_n 0, 1) := by decide +kernel
theorem dX7_init_1 : decode cX7_init 1 = .ok (.invokespecial 3, 3) := by decide +kernel
theorem dX7_init_4 : decode cX7_init 4 = .ok (.aload_n 0, 1) := by decide +kernel
theorem dX7_init_5 : decode cX7_init 5 = .ok (.new 9, 3) := by decide +kernel
theorem dX7_init_8 : decode cX7_init 8 = .ok (.dup, 1) := by decide +kernel
theorem dX7_init_9 : decode cX7_init 9 = .ok (.iconst 4, 1) := by decide +kernel
theorem dX7_init_10 : decode cX7_init 10 = .ok (.invokespecial 11, 3) := by decide +kernel
theorem dX7_init_13 : decode cX7_init 13 = .ok (.putfield 14, 3) := by decide +kernel
theorem dX7_init_16 : decode cX7_init 16 = .ok (.return_, 1) := by decide +kernel
theorem dX8_init_0 : decode cX8_init 0 = .ok (.aload_n 0, 1) := by decide +kernel
theorem dX8_init_1 : decode cX8_init 1 = .ok (.invokespecial 3, 3) := by decide +kernel
theorem dX8_init_4 : decode cX8_init 4 = .ok (.aload_n 0, 1) := by decide +kernel
theorem dX8_init_5 : decode cX8_init 5 = .ok (.new 9, 3) := by decide +kernel
theorem dX8_init_8 : decode cX8_init 8 = .ok (.dup, 1) := by decide +kernel
theorem dX8_init_9 : decode cX8_init 9 = .ok (.bipush 8, 2) := by decide +kernel
theorem dX8_init_11 : decode cX8_init 11 = .ok (.invokespecial 11, 3) := by decide +kernel
theorem dX8_init_14 : decode cX8_init 14 = .ok (.putfield 14, 3) := by decide +kernel
theorem dX8_init_17 : decode cX8_init 17 = .ok (.return_, 1) := by decide +kernel
theorem dX9_init_0 : decode cX9_init 0 = .ok (.aload_n 0, 1) := by decide +kernel
theorem dX9_init_1 : decode cX9_init 1 = .ok (.invokespecial 1, 3) := by decide +kernel
theorem dX9_init_4 : decode cX9_init 4 = .ok (.aload_n 0, 1) := by decide +kernel
theorem dX9_init_5 : decode cX9_init 5 = .ok (.new 7, 3) := by decide +kernel
theorem dX9_init_8 : decode cX9_init 8 = .ok (.dup, 1) := by decide +kernel
theorem dX9_init_9 : decode cX9_init 9 = .ok (.sipush 200, 3) := by decide +kernel
theorem dX9_init_12 : decode cX9_init 12 = .ok (.invokespecial 11, 3) := by decide +kernel
theorem dX9_init_15 : decode cX9_init 15 = .ok (.putfield 14, 3) := by decide +kernel
theorem dX9_init_18 : decode cX9_init 18 = .ok (.aload_n 0, 1) := by decide +kernel
theorem dX9_init_19 : decode cX9_init 19 = .ok (.new 18, 3) := by decide +kernel
theorem dX9_init_22 : decode cX9_init 22 = .ok (.dup, 1) := by decide +kernel
theorem dX9_init_23 : decode cX9_init 23 = .ok (.bipush 16, 2) := by decide +kernel
theorem dX9_init_25 : decode cX9_init 25 = .ok (.invokespecial 20, 3) := by decide +kernel
theorem dX9_init_28 : decode cX9_init 28 = .ok (.putfield 21, 3) := by decide +kernel
theorem dX9_init_31 : decode cX9_init 31 = .ok (.aload_n 0, 1) := by decide +kernel
theorem dX9_init_32 : decode cX9_init 32 = .ok (.new 18, 3) := by decide +kernel
theorem dX9_init_35 : decode cX9_init 35 = .ok (.dup, 1) := by decide +kernel
theorem dX9_init_36 : decode cX9_init 36 = .ok (.bipush 9, 2) := by decide +kernel
theorem dX9_init_38 : decode cX9_init 38 = .ok (.invokespecial 20, 3) := by decide +kernel
theorem dX9_init_41 : decode cX9_init 41 = .ok (.putfield 25, 3) := by decide +kernel
theorem dX9_init_44 : decode cX9_init 44 = .ok (.aload_n 0, 1) := by decide +kernel
theorem dX9_init_45 : decode cX9_init 45 = .ok (.new 28, 3) := by decide +kernel
theorem dX9_init_48 : decode cX9_init 48 = .ok (.dup, 1) := by decide +kernel
theorem dX9_init_49 : decode cX9_init 49 = .ok (.invokespecial 30, 3) := by decide +kernel
theorem dX9_init_52 : decode cX9_init 52 = .ok (.putfield 31, 3) := by decide +kernel
theorem dX9_init_55 : decode cX9_init 55 = .ok (.aload_n 0, 1) := by decide +kernel
theorem dX9_init_56 : decode cX9_init 56 = .ok (.new 35, 3) := by decide +kernel
theorem dX9_init_59 : decode cX9_init 59 = .ok (.dup, 1) := by decide +kernel
theorem dX9_init_60 : decode cX9_init 60 = .ok (.invokespecial 37, 3) := by decide +kernel
theorem dX9_init_63 : decode cX9_init 63 = .ok (.putfield 38, 3) := by decide +kernel
theorem dX9_init_66 : decode cX9_init 66 = .ok (.aload_n 0, 1) := by decide +kernel
theorem dX9_init_67 : decode cX9_init 67 = .ok (.new 42, 3) := by decide +kernel
theorem dX9_init_70 : decode cX9_init 70 = .ok (.dup, 1) := by decide +kernel
theorem dX9_init_71 : decode cX9_init 71 = .ok (.invokespecial 44, 3) := by decide +kernel
theorem dX9_init_74 : decode cX9_init 74 = .ok (.putfield 45, 3) := by decide +kernel
theorem dX9_init_77 : decode cX9_init 77 = .ok (.aload_n 0, 1) := by decide +kernel
theorem dX9_init_78 : decode cX9_init 78 = .ok (.invokestatic 49, 3) := by decide +kernel
theorem dX9_init_81 : decode cX9_init 81 = .ok (.putfield 53, 3) := by decide +kernel
theorem dX9_init_84 : decode cX9_init 84 = .ok (.aload_n 0, 1) := by decide +kernel
theorem dX9_init_85 : decode cX9_init 85 = .ok (.new 57, 3) := by decide +kernel
theorem dX9_init_88 : decode cX9_init 88 = .ok (.dup, 1) := by decide +kernel
theorem dX9_init_89 : decode cX9_init 89 = .ok (.invokespecial 59, 3) := by decide +kernel
theorem dX9_init_92 : decode cX9_init 92 = .ok (.putfield 60, 3) := by decide +kernel
theorem dX9_init_95 : decode cX9_init 95 = .ok (.return_, 1) := by decide +kernel
theorem dX9_write_0 : decode cX9_write 0 = .ok (.iload_n 1, 1) := by decide +kernel
theorem dX9_write_1 : decode cX9_write 1 = .ok (.bipush 32, 2) := by decide +kernel
theorem dX9_write_3 : decode cX9_write 3 = .ok (.if_icmp .lt 9, 3) := by decide +kernel
theorem dX9_write_6 : decode cX9_write 6 = .ok (.iload_n 1, 1) := by decide +kernel
theorem dX9_write_7 : decode cX9_write 7 = .ok (.bipush 126, 2) := by decide +kernel
theorem dX9_write_9 : decode cX9_write 9 = .ok (.if_icmp .le 5, 3) := by decide +kernel
theorem dX9_write_12 : decode cX9_write 12 = .ok (.iconst (-1), 1) := by decide +kernel
theorem dX9_write_13 : decode cX9_write 13 = .ok (.ireturn, 1) := by decide +kernel
theorem dX9_write_14 : decode cX9_write 14 = .ok (.aload_n 0, 1) := by decide +kernel
theorem dX9_write_15 : decode cX9_write 15 = .ok (.getfield 14, 3) := by decide +kernel
theorem dX9_write_18 : decode cX9_write 18 = .ok (.invokevirtual 63, 3) := by decide +kernel
theorem dX9_write_21 : decode cX9_write 21 = .ok (.ifCond .eq 6, 3) := by decide +kernel
theorem dX9_write_24 : decode cX9_write 24 = .ok (.bipush (-3), 2) := by decide +kernel
theorem dX9_write_26 : decode cX9_write 26 = .ok (.ireturn, 1) := by decide +kernel
theorem dX9_write_27 : decode cX9_write 27 = .ok (.aload_n 0, 1) := by decide +kernel
theorem dX9_write_28 : decode cX9_write 28 = .ok (.getfield 14, 3) := by decide +kernel
theorem dX9_write_31 : decode cX9_write 31 = .ok (.iload_n 1, 1) := by decide +kernel
theorem dX9_write_32 : decode cX9_write 32 = .ok (.i2c, 1) := by decide +kernel
theorem dX9_write_33 : decode cX9_write 33 = .ok (.invokevirtual 67, 3) := by decide +kernel
theorem dX9_write_36 : decode cX9_write 36 = .ok (.aload_n 0, 1) := by decide +kernel
theorem dX9_write_37 : decode cX9_write 37 = .ok (.getfield 14, 3) := by decide +kernel
theorem dX9_write_40 : decode cX9_write 40 = .ok (.invokevirtual 71, 3) := by decide +kernel
theorem dX9_write_43 : decode cX9_write 43 = .ok (.ireturn, 1) := by decide +kernel
theorem dX9_wipe_0 : decode cX9_wipe 0 = .ok (.aload_n 0, 1) := by decide +kernel
theorem dX9_wipe_1 : decode cX9_wipe 1 = .ok (.getfield 14, 3) := by decide +kernel
theorem dX9_wipe_4 : decode cX9_wipe 4 = .ok (.invokevirtual 71, 3) := by decide +kernel
theorem dX9_wipe_7 : decode cX9_wipe 7 = .ok (.istore_n 1, 1) := by decide +kernel
theorem dX9_wipe_8 : decode cX9_wipe 8 = .ok (.aload_n 0, 1) := by decide +kernel
theorem dX9_wipe_9 : decode cX9_wipe 9 = .ok (.getfield 14, 3) := by decide +kernel
theorem dX9_wipe_12 : decode cX9_wipe 12 = .ok (.invokevirtual 75, 3) := by decide +kernel
theorem dX9_wipe_15 : decode cX9_wipe 15 = .ok (.iload_n 1, 1) := by decide +kernel
theorem dX9_wipe_16 : decode cX9_wipe 16 = .ok (.ireturn, 1) := by decide +kernel
theorem dX9_fault_0 : decode cX9_fault 0 = .ok (.aload_n 0, 1) := by decide +kernel
theorem dX9_fault_1 : decode cX9_fault 1 = .ok (.getfield 14, 3) := by decide +kernel
theorem dX9_fault_4 : decode cX9_fault 4 = .ok (.aload_n 0, 1) := by decide +kernel
theorem dX9_fault_5 : decode cX9_fault 5 = .ok (.getfield 60, 3) := by decide +kernel
theorem dX9_fault_8 : decode cX9_fault 8 = .ok (.invokestatic 78, 3) := by decide +kernel
theorem dX9_fault_11 : decode cX9_fault 11 = .ok (.ireturn, 1) := by decide +kernel
theorem dX9_lay_0 : decode cX9_lay 0 = .ok (.aload_n 0, 1) := by decide +kernel
theorem dX9_lay_1 : decode cX9_lay 1 = .ok (.getfield 14, 3) := by decide +kernel
theorem dX9_lay_4 : decode cX9_lay 4 = .ok (.aload_n 0, 1) := by decide +kernel
theorem dX9_lay_5 : decode cX9_lay 5 = .ok (.getfield 60, 3) := by decide +kernel
theorem dX9_lay_8 : decode cX9_lay 8 = .ok (.invokestatic 78, 3) := by decide +kernel
theorem dX9_lay_11 : decode cX9_lay 11 = .ok (.bipush (-4), 2) := by decide +kernel
theorem dX9_lay_13 : decode cX9_lay 13 = .ok (.if_icmp .eq 6, 3) := by decide +kernel
theorem dX9_lay_16 : decode cX9_lay 16 = .ok (.bipush (-2), 2) := by decide +kernel
theorem dX9_lay_18 : decode cX9_lay 18 = .ok (.ireturn, 1) := by decide +kernel
theorem dX9_lay_19 : decode cX9_lay 19 = .ok (.aload_n 0, 1) := by decide +kernel
theorem dX9_lay_20 : decode cX9_lay 20 = .ok (.getfield 60, 3) := by decide +kernel
theorem dX9_lay_23 : decode cX9_lay 23 = .ok (.getfield 84, 3) := by decide +kernel
theorem dX9_lay_26 : decode cX9_lay 26 = .ok (.ifCond .eq 13, 3) := by decide +kernel
theorem dX9_lay_29 : decode cX9_lay 29 = .ok (.aload_n 0, 1) := by decide +kernel
theorem dX9_lay_30 : decode cX9_lay 30 = .ok (.getfield 60, 3) := by decide +kernel
theorem dX9_lay_33 : decode cX9_lay 33 = .ok (.getfield 88, 3) := by decide +kernel
theorem dX9_lay_36 : decode cX9_lay 36 = .ok (.ifCond .ne 6, 3) := by decide +kernel
theorem dX9_lay_39 : decode cX9_lay 39 = .ok (.bipush (-2), 2) := by decide +kernel
theorem dX9_lay_41 : decode cX9_lay 41 = .ok (.ireturn, 1) := by decide +kernel
theorem dX9_lay_42 : decode cX9_lay 42 = .ok (.aload_n 0, 1) := by decide +kernel
theorem dX9_lay_43 : decode cX9_lay 43 = .ok (.getfield 53, 3) := by decide +kernel
theorem dX9_lay_46 : decode cX9_lay 46 = .ok (.astore_n 1, 1) := by decide +kernel
theorem dX9_lay_47 : decode cX9_lay 47 = .ok (.aload_n 0, 1) := by decide +kernel
theorem dX9_lay_48 : decode cX9_lay 48 = .ok (.aload_n 0, 1) := by decide +kernel
theorem dX9_lay_49 : decode cX9_lay 49 = .ok (.getfield 60, 3) := by decide +kernel
theorem dX9_lay_52 : decode cX9_lay 52 = .ok (.putfield 53, 3) := by decide +kernel
theorem dX9_lay_55 : decode cX9_lay 55 = .ok (.aload_n 0, 1) := by decide +kernel
theorem dX9_lay_56 : decode cX9_lay 56 = .ok (.aload_n 1, 1) := by decide +kernel
theorem dX9_lay_57 : decode cX9_lay 57 = .ok (.putfield 60, 3) := by decide +kernel
theorem dX9_lay_60 : decode cX9_lay 60 = .ok (.aload_n 0, 1) := by decide +kernel
theorem dX9_lay_61 : decode cX9_lay 61 = .ok (.getfield 21, 3) := by decide +kernel
theorem dX9_lay_64 : decode cX9_lay 64 = .ok (.invokevirtual 91, 3) := by decide +kernel
theorem dX9_lay_67 : decode cX9_lay 67 = .ok (.aload_n 0, 1) := by decide +kernel
theorem dX9_lay_68 : decode cX9_lay 68 = .ok (.getfield 31, 3) := by decide +kernel
theorem dX9_lay_71 : decode cX9_lay 71 = .ok (.invokevirtual 92, 3) := by decide +kernel
theorem dX9_lay_74 : decode cX9_lay 74 = .ok (.aload_n 0, 1) := by decide +kernel
theorem dX9_lay_75 : decode cX9_lay 75 = .ok (.getfield 38, 3) := by decide +kernel
theorem dX9_lay_78 : decode cX9_lay 78 = .ok (.invokevirtual 93, 3) := by decide +kernel
theorem dX9_lay_81 : decode cX9_lay 81 = .ok (.aload_n 0, 1) := by decide +kernel
theorem dX9_lay_82 : decode cX9_lay 82 = .ok (.getfield 53, 3) := by decide +kernel
theorem dX9_lay_85 : decode cX9_lay 85 = .ok (.getfield 84, 3) := by decide +kernel
theorem dX9_lay_88 : decode cX9_lay 88 = .ok (.ireturn, 1) := by decide +kernel
theorem dX9_strike_0 : decode cX9_strike 0 = .ok (.aload_n 0, 1) := by decide +kernel
theorem dX9_strike_1 : decode cX9_strike 1 = .ok (.getfield 53, 3) := by decide +kernel
theorem dX9_strike_4 : decode cX9_strike 4 = .ok (.iload_n 1, 1) := by decide +kernel
theorem dX9_strike_5 : decode cX9_strike 5 = .ok (.invokevirtual 96, 3) := by decide +kernel
theorem dX9_strike_8 : decode cX9_strike 8 = .ok (.astore_n 3, 1) := by decide +kernel
theorem dX9_strike_9 : decode cX9_strike 9 = .ok (.aload_n 3, 1) := by decide +kernel
theorem dX9_strike_10 : decode cX9_strike 10 = .ok (.ifnull 12, 3) := by decide +kernel
theorem dX9_strike_13 : decode cX9_strike 13 = .ok (.iload_n 2, 1) := by decide +kernel
theorem dX9_strike_14 : decode cX9_strike 14 = .ok (.ifCond .lt 8, 3) := by decide +kernel
theorem dX9_strike_17 : decode cX9_strike 17 = .ok (.iload_n 2, 1) := by decide +kernel
theorem dX9_strike_18 : decode cX9_strike 18 = .ok (.iconst 1, 1) := by decide +kernel
theorem dX9_strike_19 : decode cX9_strike 19 = .ok (.if_icmp .le 5, 3) := by decide +kernel
theorem dX9_strike_22 : decode cX9_strike 22 = .ok (.iconst (-1), 1) := by decide +kernel
theorem dX9_strike_23 : decode cX9_strike 23 = .ok (.ireturn, 1) := by decide +kernel
theorem dX9_strike_24 : decode cX9_strike 24 = .ok (.aload_n 3, 1) := by decide +kernel
theorem dX9_strike_25 : decode cX9_strike 25 = .ok (.getfield 100, 3) := by decide +kernel
theorem dX9_strike_28 : decode cX9_strike 28 = .ok (.iload_n 2, 1) := by decide +kernel
theorem dX9_strike_29 : decode cX9_strike 29 = .ok (.iconst 1, 1) := by decide +kernel
theorem dX9_strike_30 : decode cX9_strike 30 = .ok (.if_icmp .ne 7, 3) := by decide +kernel
theorem dX9_strike_33 : decode cX9_strike 33 = .ok (.iconst 1, 1) := by decide +kernel
theorem dX9_strike_34 : decode cX9_strike 34 = .ok (.goto 4, 3) := by decide +kernel
theorem dX9_strike_37 : decode cX9_strike 37 = .ok (.iconst 0, 1) := by decide +kernel
theorem dX9_strike_38 : decode cX9_strike 38 = .ok (.if_icmp .ne 6, 3) := by decide +kernel
theorem dX9_strike_41 : decode cX9_strike 41 = .ok (.bipush (-2), 2) := by decide +kernel
theorem dX9_strike_43 : decode cX9_strike 43 = .ok (.ireturn, 1) := by decide +kernel
theorem dX9_strike_44 : decode cX9_strike 44 = .ok (.aload_n 0, 1) := by decide +kernel
theorem dX9_strike_45 : decode cX9_strike 45 = .ok (.aload_n 3, 1) := by decide +kernel
theorem dX9_strike_46 : decode cX9_strike 46 = .ok (.invokevirtual 106, 3) := by decide +kernel
theorem dX9_strike_49 : decode cX9_strike 49 = .ok (.aload_n 0, 1) := by decide +kernel
theorem dX9_strike_50 : decode cX9_strike 50 = .ok (.getfield 31, 3) := by decide +kernel
theorem dX9_strike_53 : decode cX9_strike 53 = .ok (.iconst 0, 1) := by decide +kernel
theorem dX9_strike_54 : decode cX9_strike 54 = .ok (.iload_n 1, 1) := by decide +kernel
theorem dX9_strike_55 : decode cX9_strike 55 = .ok (.invokevirtual 110, 3) := by decide +kernel
theorem dX9_strike_58 : decode cX9_strike 58 = .ok (.aload_n 0, 1) := by decide +kernel
theorem dX9_strike_59 : decode cX9_strike 59 = .ok (.getfield 53, 3) := by decide +kernel
theorem dX9_strike_62 : decode cX9_strike 62 = .ok (.invokevirtual 114, 3) := by decide +kernel
theorem dX9_strike_65 : decode cX9_strike 65 = .ok (.ireturn, 1) := by decide +kernel
theorem dX9_law_0 : decode cX9_law 0 = .ok (.iload_n 1, 1) := by decide +kernel
theorem dX9_law_1 : decode cX9_law 1 = .ok (.ifCond .lt 8, 3) := by decide +kernel
theorem dX9_law_4 : decode cX9_law 4 = .ok (.iload_n 1, 1) := by decide +kernel
theorem dX9_law_5 : decode cX9_law 5 = .ok (.iconst 1, 1) := by decide +kernel
theorem dX9_law_6 : decode cX9_law 6 = .ok (.if_icmp .le 5, 3) := by decide +kernel
theorem dX9_law_9 : decode cX9_law 9 = .ok (.iconst (-1), 1) := by decide +kernel
theorem dX9_law_10 : decode cX9_law 10 = .ok (.ireturn, 1) := by decide +kernel
theorem dX9_law_11 : decode cX9_law 11 = .ok (.aload_n 0, 1) := by decide +kernel
theorem dX9_law_12 : decode cX9_law 12 = .ok (.getfield 53, 3) := by decide +kernel
theorem dX9_law_15 : decode cX9_law 15 = .ok (.getfield 117, 3) := by decide +kernel
theorem dX9_law_18 : decode cX9_law 18 = .ok (.iload_n 1, 1) := by decide +kernel
theorem dX9_law_19 : decode cX9_law 19 = .ok (.iconst 1, 1) := by decide +kernel
theorem dX9_law_20 : decode cX9_law 20 = .ok (.if_icmp .ne 7, 3) := by decide +kernel
theorem dX9_law_23 : decode cX9_law 23 = .ok (.iconst 1, 1) := by decide +kernel
theorem dX9_law_24 : decode cX9_law 24 = .ok (.goto 4, 3) := by decide +kernel
theorem dX9_law_27 : decode cX9_law 27 = .ok (.iconst 0, 1) := by decide +kernel
theorem dX9_law_28 : decode cX9_law 28 = .ok (.if_icmp .ne 6, 3) := by decide +kernel
theorem dX9_law_31 : decode cX9_law 31 = .ok (.bipush (-2), 2) := by decide +kernel
theorem dX9_law_33 : decode cX9_law 33 = .ok (.ireturn, 1) := by decide +kernel
theorem dX9_law_34 : decode cX9_law 34 = .ok (.aload_n 0, 1) := by decide +kernel
theorem dX9_law_35 : decode cX9_law 35 = .ok (.invokevirtual 120, 3) := by decide +kernel
theorem dX9_law_38 : decode cX9_law 38 = .ok (.istore_n 2, 1) := by decide +kernel
theorem dX9_law_39 : decode cX9_law 39 = .ok (.aload_n 0, 1) := by decide +kernel
theorem dX9_law_40 : decode cX9_law 40 = .ok (.invokevirtual 123, 3) := by decide +kernel
theorem dX9_law_43 : decode cX9_law 43 = .ok (.aload_n 0, 1) := by decide +kernel
theorem dX9_law_44 : decode cX9_law 44 = .ok (.getfield 31, 3) := by decide +kernel
theorem dX9_law_47 : decode cX9_law 47 = .ok (.iconst 1, 1) := by decide +kernel
theorem dX9_law_48 : decode cX9_law 48 = .ok (.iload_n 2, 1) := by decide +kernel
theorem dX9_law_49 : decode cX9_law 49 = .ok (.invokevirtual 110, 3) := by decide +kernel
theorem dX9_law_52 : decode cX9_law 52 = .ok (.iload_n 2, 1) := by decide +kernel
theorem dX9_law_53 : decode cX9_law 53 = .ok (.ireturn, 1) := by decide +kernel
theorem dX9_carve_0 : decode cX9_carve 0 = .ok (.aload_n 0, 1) := by decide +kernel
theorem dX9_carve_1 : decode cX9_carve 1 = .ok (.getfield 53, 3) := by decide +kernel
theorem dX9_carve_4 : decode cX9_carve 4 = .ok (.iload_n 1, 1) := by decide +kernel
theorem dX9_carve_5 : decode cX9_carve 5 = .ok (.invokevirtual 96, 3) := by decide +kernel
theorem dX9_carve_8 : decode cX9_carve 8 = .ok (.ifnonnull 5, 3) := by decide +kernel
theorem dX9_carve_11 : decode cX9_carve 11 = .ok (.iconst (-1), 1) := by decide +kernel
theorem dX9_carve_12 : decode cX9_carve 12 = .ok (.ireturn, 1) := by decide +kernel
theorem dX9_carve_13 : decode cX9_carve 13 = .ok (.aload_n 0, 1) := by decide +kernel
theorem dX9_carve_14 : decode cX9_carve 14 = .ok (.getfield 21, 3) := by decide +kernel
theorem dX9_carve_17 : decode cX9_carve 17 = .ok (.invokevirtual 126, 3) := by decide +kernel
theorem dX9_carve_20 : decode cX9_carve 20 = .ok (.ifCond .eq 6, 3) := by decide +kernel
theorem dX9_carve_23 : decode cX9_carve 23 = .ok (.bipush (-3), 2) := by decide +kernel
theorem dX9_carve_25 : decode cX9_carve 25 = .ok (.ireturn, 1) := by decide +kernel
theorem dX9_carve_26 : decode cX9_carve 26 = .ok (.aload_n 0, 1) := by decide +kernel
theorem dX9_carve_27 : decode cX9_carve 27 = .ok (.getfield 21, 3) := by decide +kernel
theorem dX9_carve_30 : decode cX9_carve 30 = .ok (.iload_n 1, 1) := by decide +kernel
theorem dX9_carve_31 : decode cX9_carve 31 = .ok (.invokevirtual 127, 3) := by decide +kernel
theorem dX9_carve_34 : decode cX9_carve 34 = .ok (.aload_n 0, 1) := by decide +kernel
theorem dX9_carve_35 : decode cX9_carve 35 = .ok (.getfield 31, 3) := by decide +kernel
theorem dX9_carve_38 : decode cX9_carve 38 = .ok (.iconst 2, 1) := by decide +kernel
theorem dX9_carve_39 : decode cX9_carve 39 = .ok (.iload_n 1, 1) := by decide +kernel
theorem dX9_carve_40 : decode cX9_carve 40 = .ok (.invokevirtual 110, 3) := by decide +kernel
theorem dX9_carve_43 : decode cX9_carve 43 = .ok (.aload_n 0, 1) := by decide +kernel
theorem dX9_carve_44 : decode cX9_carve 44 = .ok (.getfield 21, 3) := by decide +kernel
theorem dX9_carve_47 : decode cX9_carve 47 = .ok (.invokevirtual 129, 3) := by decide +kernel
theorem dX9_carve_50 : decode cX9_carve 50 = .ok (.ireturn, 1) := by decide +kernel
theorem dX9_chip_0 : decode cX9_chip 0 = .ok (.aload_n 0, 1) := by decide +kernel
theorem dX9_chip_1 : decode cX9_chip 1 = .ok (.getfield 21, 3) := by decide +kernel
theorem dX9_chip_4 : decode cX9_chip 4 = .ok (.invokevirtual 129, 3) := by decide +kernel
theorem dX9_chip_7 : decode cX9_chip 7 = .ok (.ifCond .ne 6, 3) := by decide +kernel
theorem dX9_chip_10 : decode cX9_chip 10 = .ok (.bipush (-2), 2) := by decide +kernel
theorem dX9_chip_12 : decode cX9_chip 12 = .ok (.ireturn, 1) := by decide +kernel
theorem dX9_chip_13 : decode cX9_chip 13 = .ok (.aload_n 0, 1) := by decide +kernel
theorem dX9_chip_14 : decode cX9_chip 14 = .ok (.getfield 21, 3) := by decide +kernel
theorem dX9_chip_17 : decode cX9_chip 17 = .ok (.invokevirtual 130, 3) := by decide +kernel
theorem dX9_chip_20 : decode cX9_chip 20 = .ok (.istore_n 1, 1) := by decide +kernel
theorem dX9_chip_21 : decode cX9_chip 21 = .ok (.aload_n 0, 1) := by decide +kernel
theorem dX9_chip_22 : decode cX9_chip 22 = .ok (.getfield 31, 3) := by decide +kernel
theorem dX9_chip_25 : decode cX9_chip 25 = .ok (.iconst 3, 1) := by decide +kernel
theorem dX9_chip_26 : decode cX9_chip 26 = .ok (.iload_n 1, 1) := by decide +kernel
theorem dX9_chip_27 : decode cX9_chip 27 = .ok (.invokevirtual 110, 3) := by decide +kernel
theorem dX9_chip_30 : decode cX9_chip 30 = .ok (.iload_n 1, 1) := by decide +kernel
theorem dX9_chip_31 : decode cX9_chip 31 = .ok (.ireturn, 1) := by decide +kernel
theorem dX9_undo_0 : decode cX9_undo 0 = .ok (.aload_n 0, 1) := by decide +kernel
theorem dX9_undo_1 : decode cX9_undo 1 = .ok (.getfield 31, 3) := by decide +kernel
theorem dX9_undo_4 : decode cX9_undo 4 = .ok (.invokevirtual 133, 3) := by decide +kernel
theorem dX9_undo_7 : decode cX9_undo 7 = .ok (.ifCond .ne 6, 3) := by decide +kernel
theorem dX9_undo_10 : decode cX9_undo 10 = .ok (.bipush (-2), 2) := by decide +kernel
theorem dX9_undo_12 : decode cX9_undo 12 = .ok (.ireturn, 1) := by decide +kernel
theorem dX9_undo_13 : decode cX9_undo 13 = .ok (.aload_n 0, 1) := by decide +kernel
theorem dX9_undo_14 : decode cX9_undo 14 = .ok (.getfield 31, 3) := by decide +kernel
theorem dX9_undo_17 : decode cX9_undo 17 = .ok (.invokevirtual 134, 3) := by decide +kernel
theorem dX9_undo_20 : decode cX9_undo 20 = .ok (.istore_n 1, 1) := by decide +kernel
theorem dX9_undo_21 : decode cX9_undo 21 = .ok (.aload_n 0, 1) := by decide +kernel
theorem dX9_undo_22 : decode cX9_undo 22 = .ok (.getfield 31, 3) := by decide +kernel
theorem dX9_undo_25 : decode cX9_undo 25 = .ok (.invokevirtual 137, 3) := by decide +kernel
theorem dX9_undo_28 : decode cX9_undo 28 = .ok (.tableswitch 61 0 2 #[28, 43, 50], 28) := by decide +kernel
theorem dX9_undo_56 : decode cX9_undo 56 = .ok (.aload_n 0, 1) := by decide +kernel
theorem dX9_undo_57 : decode cX9_undo 57 = .ok (.aload_n 0, 1) := by decide +kernel
theorem dX9_undo_58 : decode cX9_undo 58 = .ok (.getfield 53, 3) := by decide +kernel
theorem dX9_undo_61 : decode cX9_undo 61 = .ok (.iload_n 1, 1) := by decide +kernel
theorem dX9_undo_62 : decode cX9_undo 62 = .ok (.invokevirtual 96, 3) := by decide +kernel
theorem dX9_undo_65 : decode cX9_undo 65 = .ok (.invokevirtual 106, 3) := by decide +kernel
theorem dX9_undo_68 : decode cX9_undo 68 = .ok (.goto 29, 3) := by decide +kernel
theorem dX9_undo_71 : decode cX9_undo 71 = .ok (.aload_n 0, 1) := by decide +kernel
theorem dX9_undo_72 : decode cX9_undo 72 = .ok (.invokevirtual 123, 3) := by decide +kernel
theorem dX9_undo_75 : decode cX9_undo 75 = .ok (.goto 22, 3) := by decide +kernel
theorem dX9_undo_78 : decode cX9_undo 78 = .ok (.aload_n 0, 1) := by decide +kernel
theorem dX9_undo_79 : decode cX9_undo 79 = .ok (.getfield 21, 3) := by decide +kernel
theorem dX9_undo_82 : decode cX9_undo 82 = .ok (.invokevirtual 130, 3) := by decide +kernel
theorem dX9_undo_85 : decode cX9_undo 85 = .ok (.pop, 1) := by decide +kernel
theorem dX9_undo_86 : decode cX9_undo 86 = .ok (.goto 11, 3) := by decide +kernel
theorem dX9_undo_89 : decode cX9_undo 89 = .ok (.aload_n 0, 1) := by decide +kernel
theorem dX9_undo_90 : decode cX9_undo 90 = .ok (.getfield 21, 3) := by decide +kernel
theorem dX9_undo_93 : decode cX9_undo 93 = .ok (.iload_n 1, 1) := by decide +kernel
theorem dX9_undo_94 : decode cX9_undo 94 = .ok (.invokevirtual 127, 3) := by decide +kernel
theorem dX9_undo_97 : decode cX9_undo 97 = .ok (.aload_n 0, 1) := by decide +kernel
theorem dX9_undo_98 : decode cX9_undo 98 = .ok (.getfield 31, 3) := by decide +kernel
theorem dX9_undo_101 : decode cX9_undo 101 = .ok (.invokevirtual 140, 3) := by decide +kernel
theorem dX9_undo_104 : decode cX9_undo 104 = .ok (.aload_n 0, 1) := by decide +kernel
theorem dX9_undo_105 : decode cX9_undo 105 = .ok (.getfield 31, 3) := by decide +kernel
theorem dX9_undo_108 : decode cX9_undo 108 = .ok (.invokevirtual 133, 3) := by decide +kernel
theorem dX9_undo_111 : decode cX9_undo 111 = .ok (.ireturn, 1) := by decide +kernel
theorem dX9_sign_0 : decode cX9_sign 0 = .ok (.aload_n 0, 1) := by decide +kernel
theorem dX9_sign_1 : decode cX9_sign 1 = .ok (.getfield 53, 3) := by decide +kernel
theorem dX9_sign_4 : decode cX9_sign 4 = .ok (.iload_n 1, 1) := by decide +kernel
theorem dX9_sign_5 : decode cX9_sign 5 = .ok (.invokevirtual 96, 3) := by decide +kernel
theorem dX9_sign_8 : decode cX9_sign 8 = .ok (.astore_n 3, 1) := by decide +kernel
theorem dX9_sign_9 : decode cX9_sign 9 = .ok (.aload_n 3, 1) := by decide +kernel
theorem dX9_sign_10 : decode cX9_sign 10 = .ok (.ifnonnull 5, 3) := by decide +kernel
theorem dX9_sign_13 : decode cX9_sign 13 = .ok (.iconst (-1), 1) := by decide +kernel
theorem dX9_sign_14 : decode cX9_sign 14 = .ok (.ireturn, 1) := by decide +kernel
theorem dX9_sign_15 : decode cX9_sign 15 = .ok (.iload_n 2, 1) := by decide +kernel
theorem dX9_sign_16 : decode cX9_sign 16 = .ok (.tableswitch 86 0 4 #[36, 41, 59, 67, 80], 36) := by decide +kernel
theorem dX9_sign_52 : decode cX9_sign 52 = .ok (.aload_n 3, 1) := by decide +kernel
theorem dX9_sign_53 : decode cX9_sign 53 = .ok (.getfield 142, 3) := by decide +kernel
theorem dX9_sign_56 : decode cX9_sign 56 = .ok (.ireturn, 1) := by decide +kernel
theorem dX9_sign_57 : decode cX9_sign 57 = .ok (.aload_n 3, 1) := by decide +kernel
theorem dX9_sign_58 : decode cX9_sign 58 = .ok (.getfield 142, 3) := by decide +kernel
theorem dX9_sign_61 : decode cX9_sign 61 = .ok (.iconst 1, 1) := by decide +kernel
theorem dX9_sign_62 : decode cX9_sign 62 = .ok (.if_icmp .ne 8, 3) := by decide +kernel
theorem dX9_sign_65 : decode cX9_sign 65 = .ok (.bipush (-4), 2) := by decide +kernel
theorem dX9_sign_67 : decode cX9_sign 67 = .ok (.goto 7, 3) := by decide +kernel
theorem dX9_sign_70 : decode cX9_sign 70 = .ok (.aload_n 3, 1) := by decide +kernel
theorem dX9_sign_71 : decode cX9_sign 71 = .ok (.getfield 145, 3) := by decide +kernel
theorem dX9_sign_74 : decode cX9_sign 74 = .ok (.ireturn, 1) := by decide +kernel
theorem dX9_sign_75 : decode cX9_sign 75 = .ok (.aload_n 3, 1) := by decide +kernel
theorem dX9_sign_76 : decode cX9_sign 76 = .ok (.getfield 148, 3) := by decide +kernel
theorem dX9_sign_79 : decode cX9_sign 79 = .ok (.invokevirtual 71, 3) := by decide +kernel
theorem dX9_sign_82 : decode cX9_sign 82 = .ok (.ireturn, 1) := by decide +kernel
theorem dX9_sign_83 : decode cX9_sign 83 = .ok (.aload_n 3, 1) := by decide +kernel
theorem dX9_sign_84 : decode cX9_sign 84 = .ok (.getfield 100, 3) := by decide +kernel
theorem dX9_sign_87 : decode cX9_sign 87 = .ok (.ifCond .eq 7, 3) := by decide +kernel
theorem dX9_sign_90 : decode cX9_sign 90 = .ok (.iconst 1, 1) := by decide +kernel
theorem dX9_sign_91 : decode cX9_sign 91 = .ok (.goto 4, 3) := by decide +kernel
theorem dX9_sign_94 : decode cX9_sign 94 = .ok (.iconst 0, 1) := by decide +kernel
theorem dX9_sign_95 : decode cX9_sign 95 = .ok (.ireturn, 1) := by decide +kernel
theorem dX9_sign_96 : decode cX9_sign 96 = .ok (.aload_n 0, 1) := by decide +kernel
theorem dX9_sign_97 : decode cX9_sign 97 = .ok (.iload_n 1, 1) := by decide +kernel
theorem dX9_sign_98 : decode cX9_sign 98 = .ok (.invokevirtual 151, 3) := by decide +kernel
theorem dX9_sign_101 : decode cX9_sign 101 = .ok (.ireturn, 1) := by decide +kernel
theorem dX9_sign_102 : decode cX9_sign 102 = .ok (.iconst (-1), 1) := by decide +kernel
theorem dX9_sign_103 : decode cX9_sign 103 = .ok (.ireturn, 1) := by decide +kernel
theorem dX9_word_0 : decode cX9_word 0 = .ok (.aload_n 0, 1) := by decide +kernel
theorem dX9_word_1 : decode cX9_word 1 = .ok (.getfield 53, 3) := by decide +kernel
theorem dX9_word_4 : decode cX9_word 4 = .ok (.iload_n 1, 1) := by decide +kernel
theorem dX9_word_5 : decode cX9_word 5 = .ok (.invokevirtual 155, 3) := by decide +kernel
theorem dX9_word_8 : decode cX9_word 8 = .ok (.astore_n 3, 1) := by decide +kernel
theorem dX9_word_9 : decode cX9_word 9 = .ok (.aload_n 3, 1) := by decide +kernel
theorem dX9_word_10 : decode cX9_word 10 = .ok (.ifnonnull 5, 3) := by decide +kernel
theorem dX9_word_13 : decode cX9_word 13 = .ok (.iconst (-1), 1) := by decide +kernel
theorem dX9_word_14 : decode cX9_word 14 = .ok (.ireturn, 1) := by decide +kernel
theorem dX9_word_15 : decode cX9_word 15 = .ok (.iload_n 2, 1) := by decide +kernel
theorem dX9_word_16 : decode cX9_word 16 = .ok (.tableswitch 92 0 4 #[36, 41, 49, 57, 74], 36) := by decide +kernel
theorem dX9_word_52 : decode cX9_word 52 = .ok (.aload_n 3, 1) := by decide +kernel
theorem dX9_word_53 : decode cX9_word 53 = .ok (.getfield 159, 3) := by decide +kernel
theorem dX9_word_56 : decode cX9_word 56 = .ok (.ireturn, 1) := by decide +kernel
theorem dX9_word_57 : decode cX9_word 57 = .ok (.aload_n 3, 1) := by decide +kernel
theorem dX9_word_58 : decode cX9_word 58 = .ok (.getfield 162, 3) := by decide +kernel
theorem dX9_word_61 : decode cX9_word 61 = .ok (.invokevirtual 71, 3) := by decide +kernel
theorem dX9_word_64 : decode cX9_word 64 = .ok (.ireturn, 1) := by decide +kernel
theorem dX9_word_65 : decode cX9_word 65 = .ok (.aload_n 3, 1) := by decide +kernel
theorem dX9_word_66 : decode cX9_word 66 = .ok (.getfield 162, 3) := by decide +kernel
theorem dX9_word_69 : decode cX9_word 69 = .ok (.invokevirtual 165, 3) := by decide +kernel
theorem dX9_word_72 : decode cX9_word 72 = .ok (.ireturn, 1) := by decide +kernel
theorem dX9_word_73 : decode cX9_word 73 = .ok (.aload_n 0, 1) := by decide +kernel
theorem dX9_word_74 : decode cX9_word 74 = .ok (.getfield 38, 3) := by decide +kernel
theorem dX9_word_77 : decode cX9_word 77 = .ok (.aload_n 0, 1) := by decide +kernel
theorem dX9_word_78 : decode cX9_word 78 = .ok (.getfield 53, 3) := by decide +kernel
theorem dX9_word_81 : decode cX9_word 81 = .ok (.invokevirtual 168, 3) := by decide +kernel
theorem dX9_word_84 : decode cX9_word 84 = .ok (.aload_n 0, 1) := by decide +kernel
theorem dX9_word_85 : decode cX9_word 85 = .ok (.iload_n 1, 1) := by decide +kernel
theorem dX9_word_86 : decode cX9_word 86 = .ok (.invokevirtual 172, 3) := by decide +kernel
theorem dX9_word_89 : decode cX9_word 89 = .ok (.ireturn, 1) := by decide +kernel
theorem dX9_word_90 : decode cX9_word 90 = .ok (.aload_n 0, 1) := by decide +kernel
theorem dX9_word_91 : decode cX9_word 91 = .ok (.getfield 38, 3) := by decide +kernel
theorem dX9_word_94 : decode cX9_word 94 = .ok (.aload_n 0, 1) := by decide +kernel
theorem dX9_word_95 : decode cX9_word 95 = .ok (.getfield 53, 3) := by decide +kernel
theorem dX9_word_98 : decode cX9_word 98 = .ok (.invokevirtual 168, 3) := by decide +kernel
theorem dX9_word_101 : decode cX9_word 101 = .ok (.aload_n 0, 1) := by decide +kernel
theorem dX9_word_102 : decode cX9_word 102 = .ok (.iload_n 1, 1) := by decide +kernel
theorem dX9_word_103 : decode cX9_word 103 = .ok (.iconst 0, 1) := by decide +kernel
theorem dX9_word_104 : decode cX9_word 104 = .ok (.invokevirtual 175, 3) := by decide +kernel
theorem dX9_word_107 : decode cX9_word 107 = .ok (.ireturn, 1) := by decide +kernel
theorem dX9_word_108 : decode cX9_word 108 = .ok (.iconst (-1), 1) := by decide +kernel
theorem dX9_word_109 : decode cX9_word 109 = .ok (.ireturn, 1) := by decide +kernel
end
section
theorem dX9_least_0 : decode cX9_least 0 = .ok (.aload_n 0, 1) := by decide +kernel
theorem dX9_least_1 : decode cX9_least 1 = .ok (.getfield 53, 3) := by decide +kernel
theorem dX9_least_4 : decode cX9_least 4 = .ok (.iload_n 1, 1) := by decide +kernel
theorem dX9_least_5 : decode cX9_least 5 = .ok (.invokevirtual 155, 3) := by decide +kernel
theorem dX9_least_8 : decode cX9_least 8 = .ok (.astore_n 3, 1) := by decide +kernel
theorem dX9_least_9 : decode cX9_least 9 = .ok (.aload_n 3, 1) := by decide +kernel
theorem dX9_least_10 : decode cX9_least 10 = .ok (.ifnull 9, 3) := by decide +kernel
theorem dX9_least_13 : decode cX9_least 13 = .ok (.iload_n 2, 1) := by decide +kernel
theorem dX9_least_14 : decode cX9_least 14 = .ok (.bipush (-2), 2) := by decide +kernel
theorem dX9_least_16 : decode cX9_least 16 = .ok (.if_icmp .ge 5, 3) := by decide +kernel
theorem dX9_least_19 : decode cX9_least 19 = .ok (.iconst (-1), 1) := by decide +kernel
theorem dX9_least_20 : decode cX9_least 20 = .ok (.ireturn, 1) := by decide +kernel
theorem dX9_least_21 : decode cX9_least 21 = .ok (.aload_n 0, 1) := by decide +kernel
theorem dX9_least_22 : decode cX9_least 22 = .ok (.getfield 38, 3) := by decide +kernel
theorem dX9_least_25 : decode cX9_least 25 = .ok (.aload_n 0, 1) := by decide +kernel
theorem dX9_least_26 : decode cX9_least 26 = .ok (.getfield 53, 3) := by decide +kernel
theorem dX9_least_29 : decode cX9_least 29 = .ok (.invokevirtual 168, 3) := by decide +kernel
theorem dX9_least_32 : decode cX9_least 32 = .ok (.aload_n 0, 1) := by decide +kernel
theorem dX9_least_33 : decode cX9_least 33 = .ok (.getfield 38, 3) := by decide +kernel
theorem dX9_least_36 : decode cX9_least 36 = .ok (.iload_n 1, 1) := by decide +kernel
theorem dX9_least_37 : decode cX9_least 37 = .ok (.invokevirtual 179, 3) := by decide +kernel
theorem dX9_least_40 : decode cX9_least 40 = .ok (.astore 4, 2) := by decide +kernel
theorem dX9_least_42 : decode cX9_least 42 = .ok (.aload 4, 2) := by decide +kernel
theorem dX9_least_44 : decode cX9_least 44 = .ok (.ifnull 11, 3) := by decide +kernel
theorem dX9_least_47 : decode cX9_least 47 = .ok (.aload 4, 2) := by decide +kernel
theorem dX9_least_49 : decode cX9_least 49 = .ok (.invokevirtual 129, 3) := by decide +kernel
theorem dX9_least_52 : decode cX9_least 52 = .ok (.ifCond .ne 6, 3) := by decide +kernel
theorem dX9_least_55 : decode cX9_least 55 = .ok (.bipush (-4), 2) := by decide +kernel
theorem dX9_least_57 : decode cX9_least 57 = .ok (.ireturn, 1) := by decide +kernel
theorem dX9_least_58 : decode cX9_least 58 = .ok (.iload_n 2, 1) := by decide +kernel
theorem dX9_least_59 : decode cX9_least 59 = .ok (.iconst (-1), 1) := by decide +kernel
theorem dX9_least_60 : decode cX9_least 60 = .ok (.if_icmp .ne 9, 3) := by decide +kernel
theorem dX9_least_63 : decode cX9_least 63 = .ok (.aload 4, 2) := by decide +kernel
theorem dX9_least_65 : decode cX9_least 65 = .ok (.invokevirtual 129, 3) := by decide +kernel
theorem dX9_least_68 : decode cX9_least 68 = .ok (.ireturn, 1) := by decide +kernel
theorem dX9_least_69 : decode cX9_least 69 = .ok (.iload_n 2, 1) := by decide +kernel
theorem dX9_least_70 : decode cX9_least 70 = .ok (.bipush (-2), 2) := by decide +kernel
theorem dX9_least_72 : decode cX9_least 72 = .ok (.if_icmp .ne 21, 3) := by decide +kernel
theorem dX9_least_75 : decode cX9_least 75 = .ok (.aload_n 3, 1) := by decide +kernel
theorem dX9_least_76 : decode cX9_least 76 = .ok (.getfield 162, 3) := by decide +kernel
theorem dX9_least_79 : decode cX9_least 79 = .ok (.invokevirtual 71, 3) := by decide +kernel
theorem dX9_least_82 : decode cX9_least 82 = .ok (.aload_n 0, 1) := by decide +kernel
theorem dX9_least_83 : decode cX9_least 83 = .ok (.getfield 53, 3) := by decide +kernel
theorem dX9_least_86 : decode cX9_least 86 = .ok (.aload 4, 2) := by decide +kernel
theorem dX9_least_88 : decode cX9_least 88 = .ok (.invokevirtual 183, 3) := by decide +kernel
theorem dX9_least_91 : decode cX9_least 91 = .ok (.isub, 1) := by decide +kernel
theorem dX9_least_92 : decode cX9_least 92 = .ok (.ireturn, 1) := by decide +kernel
theorem dX9_least_93 : decode cX9_least 93 = .ok (.aload 4, 2) := by decide +kernel
theorem dX9_least_95 : decode cX9_least 95 = .ok (.iload_n 2, 1) := by decide +kernel
theorem dX9_least_96 : decode cX9_least 96 = .ok (.invokevirtual 187, 3) := by decide +kernel
theorem dX9_least_99 : decode cX9_least 99 = .ok (.ireturn, 1) := by decide +kernel
theorem dX9_mark_0 : decode cX9_mark 0 = .ok (.aload_n 0, 1) := by decide +kernel
theorem dX9_mark_1 : decode cX9_mark 1 = .ok (.getfield 53, 3) := by decide +kernel
theorem dX9_mark_4 : decode cX9_mark 4 = .ok (.iload_n 1, 1) := by decide +kernel
theorem dX9_mark_5 : decode cX9_mark 5 = .ok (.invokevirtual 155, 3) := by decide +kernel
theorem dX9_mark_8 : decode cX9_mark 8 = .ok (.astore_n 2, 1) := by decide +kernel
theorem dX9_mark_9 : decode cX9_mark 9 = .ok (.aload_n 2, 1) := by decide +kernel
theorem dX9_mark_10 : decode cX9_mark 10 = .ok (.ifnonnull 5, 3) := by decide +kernel
theorem dX9_mark_13 : decode cX9_mark 13 = .ok (.iconst (-1), 1) := by decide +kernel
theorem dX9_mark_14 : decode cX9_mark 14 = .ok (.ireturn, 1) := by decide +kernel
theorem dX9_mark_15 : decode cX9_mark 15 = .ok (.aload_n 0, 1) := by decide +kernel
theorem dX9_mark_16 : decode cX9_mark 16 = .ok (.getfield 38, 3) := by decide +kernel
theorem dX9_mark_19 : decode cX9_mark 19 = .ok (.aload_n 0, 1) := by decide +kernel
theorem dX9_mark_20 : decode cX9_mark 20 = .ok (.getfield 53, 3) := by decide +kernel
theorem dX9_mark_23 : decode cX9_mark 23 = .ok (.invokevirtual 168, 3) := by decide +kernel
theorem dX9_mark_26 : decode cX9_mark 26 = .ok (.aload_n 0, 1) := by decide +kernel
theorem dX9_mark_27 : decode cX9_mark 27 = .ok (.iload_n 1, 1) := by decide +kernel
theorem dX9_mark_28 : decode cX9_mark 28 = .ok (.invokevirtual 172, 3) := by decide +kernel
theorem dX9_mark_31 : decode cX9_mark 31 = .ok (.iconst 2, 1) := by decide +kernel
theorem dX9_mark_32 : decode cX9_mark 32 = .ok (.if_icmp .ne 17, 3) := by decide +kernel
theorem dX9_mark_35 : decode cX9_mark 35 = .ok (.aload_n 0, 1) := by decide +kernel
theorem dX9_mark_36 : decode cX9_mark 36 = .ok (.getfield 53, 3) := by decide +kernel
theorem dX9_mark_39 : decode cX9_mark 39 = .ok (.aload_n 2, 1) := by decide +kernel
theorem dX9_mark_40 : decode cX9_mark 40 = .ok (.getfield 159, 3) := by decide +kernel
theorem dX9_mark_43 : decode cX9_mark 43 = .ok (.invokevirtual 190, 3) := by decide +kernel
theorem dX9_mark_46 : decode cX9_mark 46 = .ok (.goto 5, 3) := by decide +kernel
theorem dX9_mark_49 : decode cX9_mark 49 = .ok (.bipush (-4), 2) := by decide +kernel
theorem dX9_mark_51 : decode cX9_mark 51 = .ok (.ireturn, 1) := by decide +kernel
theorem dX9_writings_0 : decode cX9_writings 0 = .ok (.aload_n 0, 1) := by decide +kernel
theorem dX9_writings_1 : decode cX9_writings 1 = .ok (.getfield 53, 3) := by decide +kernel
theorem dX9_writings_4 : decode cX9_writings 4 = .ok (.iload_n 1, 1) := by decide +kernel
theorem dX9_writings_5 : decode cX9_writings 5 = .ok (.invokevirtual 155, 3) := by decide +kernel
theorem dX9_writings_8 : decode cX9_writings 8 = .ok (.astore_n 2, 1) := by decide +kernel
theorem dX9_writings_9 : decode cX9_writings 9 = .ok (.aload_n 2, 1) := by decide +kernel
theorem dX9_writings_10 : decode cX9_writings 10 = .ok (.ifnonnull 7, 3) := by decide +kernel
theorem dX9_writings_13 : decode cX9_writings 13 = .ok (.ldc2_w 193, 3) := by decide +kernel
theorem dX9_writings_16 : decode cX9_writings 16 = .ok (.lreturn, 1) := by decide +kernel
theorem dX9_writings_17 : decode cX9_writings 17 = .ok (.aload_n 0, 1) := by decide +kernel
theorem dX9_writings_18 : decode cX9_writings 18 = .ok (.getfield 38, 3) := by decide +kernel
theorem dX9_writings_21 : decode cX9_writings 21 = .ok (.aload_n 0, 1) := by decide +kernel
theorem dX9_writings_22 : decode cX9_writings 22 = .ok (.getfield 53, 3) := by decide +kernel
theorem dX9_writings_25 : decode cX9_writings 25 = .ok (.aload_n 2, 1) := by decide +kernel
theorem dX9_writings_26 : decode cX9_writings 26 = .ok (.invokevirtual 195, 3) := by decide +kernel
theorem dX9_writings_29 : decode cX9_writings 29 = .ok (.iconst 1, 1) := by decide +kernel
theorem dX9_writings_30 : decode cX9_writings 30 = .ok (.aload_n 0, 1) := by decide +kernel
theorem dX9_writings_31 : decode cX9_writings 31 = .ok (.getfield 53, 3) := by decide +kernel
theorem dX9_writings_34 : decode cX9_writings 34 = .ok (.aload_n 2, 1) := by decide +kernel
theorem dX9_writings_35 : decode cX9_writings 35 = .ok (.getfield 159, 3) := by decide +kernel
theorem dX9_writings_38 : decode cX9_writings 38 = .ok (.invokevirtual 199, 3) := by decide +kernel
theorem dX9_writings_41 : decode cX9_writings 41 = .ok (.iadd, 1) := by decide +kernel
theorem dX9_writings_42 : decode cX9_writings 42 = .ok (.i2l, 1) := by decide +kernel
theorem dX9_writings_43 : decode cX9_writings 43 = .ok (.lmul, 1) := by decide +kernel
theorem dX9_writings_44 : decode cX9_writings 44 = .ok (.lreturn, 1) := by decide +kernel
theorem dX9_carved_0 : decode cX9_carved 0 = .ok (.iload_n 1, 1) := by decide +kernel
theorem dX9_carved_1 : decode cX9_carved 1 = .ok (.ifCond .ge 7, 3) := by decide +kernel
theorem dX9_carved_4 : decode cX9_carved 4 = .ok (.iconst (-1), 1) := by decide +kernel
theorem dX9_carved_5 : decode cX9_carved 5 = .ok (.goto 11, 3) := by decide +kernel
theorem dX9_carved_8 : decode cX9_carved 8 = .ok (.aload_n 0, 1) := by decide +kernel
theorem dX9_carved_9 : decode cX9_carved 9 = .ok (.getfield 21, 3) := by decide +kernel
theorem dX9_carved_12 : decode cX9_carved 12 = .ok (.iload_n 1, 1) := by decide +kernel
theorem dX9_carved_13 : decode cX9_carved 13 = .ok (.invokevirtual 187, 3) := by decide +kernel
theorem dX9_carved_16 : decode cX9_carved 16 = .ok (.ireturn, 1) := by decide +kernel
theorem dX9_read_0 : decode cX9_read 0 = .ok (.iload_n 1, 1) := by decide +kernel
theorem dX9_read_1 : decode cX9_read 1 = .ok (.ifCond .lt 14, 3) := by decide +kernel
theorem dX9_read_4 : decode cX9_read 4 = .ok (.iload_n 2, 1) := by decide +kernel
theorem dX9_read_5 : decode cX9_read 5 = .ok (.iconst 1, 1) := by decide +kernel
theorem dX9_read_6 : decode cX9_read 6 = .ok (.if_icmp .lt 9, 3) := by decide +kernel
theorem dX9_read_9 : decode cX9_read 9 = .ok (.iload_n 2, 1) := by decide +kernel
theorem dX9_read_10 : decode cX9_read 10 = .ok (.bipush 9, 2) := by decide +kernel
theorem dX9_read_12 : decode cX9_read 12 = .ok (.if_icmp .le 5, 3) := by decide +kernel
theorem dX9_read_15 : decode cX9_read 15 = .ok (.iconst (-1), 1) := by decide +kernel
theorem dX9_read_16 : decode cX9_read 16 = .ok (.ireturn, 1) := by decide +kernel
theorem dX9_read_17 : decode cX9_read 17 = .ok (.iload_n 1, 1) := by decide +kernel
theorem dX9_read_18 : decode cX9_read 18 = .ok (.aload_n 0, 1) := by decide +kernel
theorem dX9_read_19 : decode cX9_read 19 = .ok (.getfield 21, 3) := by decide +kernel
theorem dX9_read_22 : decode cX9_read 22 = .ok (.invokevirtual 129, 3) := by decide +kernel
theorem dX9_read_25 : decode cX9_read 25 = .ok (.iload_n 2, 1) := by decide +kernel
theorem dX9_read_26 : decode cX9_read 26 = .ok (.isub, 1) := by decide +kernel
theorem dX9_read_27 : decode cX9_read 27 = .ok (.if_icmp .le 6, 3) := by decide +kernel
theorem dX9_read_30 : decode cX9_read 30 = .ok (.bipush (-2), 2) := by decide +kernel
theorem dX9_read_32 : decode cX9_read 32 = .ok (.ireturn, 1) := by decide +kernel
theorem dX9_read_33 : decode cX9_read 33 = .ok (.aload_n 0, 1) := by decide +kernel
theorem dX9_read_34 : decode cX9_read 34 = .ok (.getfield 45, 3) := by decide +kernel
theorem dX9_read_37 : decode cX9_read 37 = .ok (.aload_n 0, 1) := by decide +kernel
theorem dX9_read_38 : decode cX9_read 38 = .ok (.getfield 53, 3) := by decide +kernel
theorem dX9_read_41 : decode cX9_read 41 = .ok (.aload_n 0, 1) := by decide +kernel
theorem dX9_read_42 : decode cX9_read 42 = .ok (.getfield 21, 3) := by decide +kernel
theorem dX9_read_45 : decode cX9_read 45 = .ok (.iload_n 1, 1) := by decide +kernel
theorem dX9_read_46 : decode cX9_read 46 = .ok (.invokevirtual 202, 3) := by decide +kernel
theorem dX9_read_49 : decode cX9_read 49 = .ok (.aload_n 0, 1) := by decide +kernel
theorem dX9_read_50 : decode cX9_read 50 = .ok (.getfield 45, 3) := by decide +kernel
theorem dX9_read_53 : decode cX9_read 53 = .ok (.iload_n 2, 1) := by decide +kernel
theorem dX9_read_54 : decode cX9_read 54 = .ok (.invokevirtual 206, 3) := by decide +kernel
theorem dX9_read_57 : decode cX9_read 57 = .ok (.ireturn, 1) := by decide +kernel
theorem dX9_readings_0 : decode cX9_readings 0 = .ok (.aload_n 0, 1) := by decide +kernel
theorem dX9_readings_1 : decode cX9_readings 1 = .ok (.getfield 45, 3) := by decide +kernel
theorem dX9_readings_4 : decode cX9_readings 4 = .ok (.aload_n 0, 1) := by decide +kernel
theorem dX9_readings_5 : decode cX9_readings 5 = .ok (.getfield 53, 3) := by decide +kernel
theorem dX9_readings_8 : decode cX9_readings 8 = .ok (.aload_n 0, 1) := by decide +kernel
theorem dX9_readings_9 : decode cX9_readings 9 = .ok (.getfield 21, 3) := by decide +kernel
theorem dX9_readings_12 : decode cX9_readings 12 = .ok (.invokevirtual 209, 3) := by decide +kernel
theorem dX9_readings_15 : decode cX9_readings 15 = .ok (.aload_n 0, 1) := by decide +kernel
theorem dX9_readings_16 : decode cX9_readings 16 = .ok (.getfield 45, 3) := by decide +kernel
theorem dX9_readings_19 : decode cX9_readings 19 = .ok (.invokevirtual 213, 3) := by decide +kernel
theorem dX9_readings_22 : decode cX9_readings 22 = .ok (.lreturn, 1) := by decide +kernel
theorem dX9_reading_0 : decode cX9_reading 0 = .ok (.iload_n 1, 1) := by decide +kernel
theorem dX9_reading_1 : decode cX9_reading 1 = .ok (.iconst (-1), 1) := by decide +kernel
theorem dX9_reading_2 : decode cX9_reading 2 = .ok (.if_icmp .ge 5, 3) := by decide +kernel
theorem dX9_reading_5 : decode cX9_reading 5 = .ok (.iconst (-1), 1) := by decide +kernel
theorem dX9_reading_6 : decode cX9_reading 6 = .ok (.ireturn, 1) := by decide +kernel
theorem dX9_reading_7 : decode cX9_reading 7 = .ok (.aload_n 0, 1) := by decide +kernel
theorem dX9_reading_8 : decode cX9_reading 8 = .ok (.getfield 45, 3) := by decide +kernel
theorem dX9_reading_11 : decode cX9_reading 11 = .ok (.aload_n 0, 1) := by decide +kernel
theorem dX9_reading_12 : decode cX9_reading 12 = .ok (.getfield 53, 3) := by decide +kernel
theorem dX9_reading_15 : decode cX9_reading 15 = .ok (.aload_n 0, 1) := by decide +kernel
theorem dX9_reading_16 : decode cX9_reading 16 = .ok (.getfield 21, 3) := by decide +kernel
theorem dX9_reading_19 : decode cX9_reading 19 = .ok (.invokevirtual 209, 3) := by decide +kernel
theorem dX9_reading_22 : decode cX9_reading 22 = .ok (.aload_n 0, 1) := by decide +kernel
theorem dX9_reading_23 : decode cX9_reading 23 = .ok (.getfield 45, 3) := by decide +kernel
theorem dX9_reading_26 : decode cX9_reading 26 = .ok (.invokevirtual 217, 3) := by decide +kernel
theorem dX9_reading_29 : decode cX9_reading 29 = .ok (.istore_n 2, 1) := by decide +kernel
theorem dX9_reading_30 : decode cX9_reading 30 = .ok (.iload_n 2, 1) := by decide +kernel
theorem dX9_reading_31 : decode cX9_reading 31 = .ok (.sipush 1000, 3) := by decide +kernel
theorem dX9_reading_34 : decode cX9_reading 34 = .ok (.if_icmp .lt 6, 3) := by decide +kernel
theorem dX9_reading_37 : decode cX9_reading 37 = .ok (.bipush (-4), 2) := by decide +kernel
theorem dX9_reading_39 : decode cX9_reading 39 = .ok (.ireturn, 1) := by decide +kernel
theorem dX9_reading_40 : decode cX9_reading 40 = .ok (.iload_n 1, 1) := by decide +kernel
theorem dX9_reading_41 : decode cX9_reading 41 = .ok (.iconst (-1), 1) := by decide +kernel
theorem dX9_reading_42 : decode cX9_reading 42 = .ok (.if_icmp .ne 7, 3) := by decide +kernel
theorem dX9_reading_45 : decode cX9_reading 45 = .ok (.iload_n 2, 1) := by decide +kernel
theorem dX9_reading_46 : decode cX9_reading 46 = .ok (.goto 11, 3) := by decide +kernel
theorem dX9_reading_49 : decode cX9_reading 49 = .ok (.aload_n 0, 1) := by decide +kernel
theorem dX9_reading_50 : decode cX9_reading 50 = .ok (.getfield 45, 3) := by decide +kernel
theorem dX9_reading_53 : decode cX9_reading 53 = .ok (.iload_n 1, 1) := by decide +kernel
theorem dX9_reading_54 : decode cX9_reading 54 = .ok (.invokevirtual 220, 3) := by decide +kernel
theorem dX9_reading_57 : decode cX9_reading 57 = .ok (.ireturn, 1) := by decide +kernel
theorem dX9_cut_0 : decode cX9_cut 0 = .ok (.iload_n 1, 1) := by decide +kernel
theorem dX9_cut_1 : decode cX9_cut 1 = .ok (.ifCond .ge 5, 3) := by decide +kernel
theorem dX9_cut_4 : decode cX9_cut 4 = .ok (.iconst (-1), 1) := by decide +kernel
theorem dX9_cut_5 : decode cX9_cut 5 = .ok (.ireturn, 1) := by decide +kernel
theorem dX9_cut_6 : decode cX9_cut 6 = .ok (.aload_n 0, 1) := by decide +kernel
theorem dX9_cut_7 : decode cX9_cut 7 = .ok (.getfield 45, 3) := by decide +kernel
theorem dX9_cut_10 : decode cX9_cut 10 = .ok (.aload_n 0, 1) := by decide +kernel
theorem dX9_cut_11 : decode cX9_cut 11 = .ok (.getfield 53, 3) := by decide +kernel
theorem dX9_cut_14 : decode cX9_cut 14 = .ok (.aload_n 0, 1) := by decide +kernel
theorem dX9_cut_15 : decode cX9_cut 15 = .ok (.getfield 21, 3) := by decide +kernel
theorem dX9_cut_18 : decode cX9_cut 18 = .ok (.invokevirtual 209, 3) := by decide +kernel
theorem dX9_cut_21 : decode cX9_cut 21 = .ok (.aload_n 0, 1) := by decide +kernel
theorem dX9_cut_22 : decode cX9_cut 22 = .ok (.getfield 45, 3) := by decide +kernel
theorem dX9_cut_25 : decode cX9_cut 25 = .ok (.iload_n 1, 1) := by decide +kernel
theorem dX9_cut_26 : decode cX9_cut 26 = .ok (.invokevirtual 223, 3) := by decide +kernel
theorem dX9_cut_29 : decode cX9_cut 29 = .ok (.ireturn, 1) := by decide +kernel
theorem dX9_count_0 : decode cX9_count 0 = .ok (.iload_n 1, 1) := by decide +kernel
theorem dX9_count_1 : decode cX9_count 1 = .ok (.tableswitch 123 0 9 #[55, 63, 71, 76, 84, 92, 97, 102, 107, 115], 55) := by decide +kernel
theorem dX9_count_56 : decode cX9_count 56 = .ok (.aload_n 0, 1) := by decide +kernel
theorem dX9_count_57 : decode cX9_count 57 = .ok (.getfield 53, 3) := by decide +kernel
theorem dX9_count_60 : decode cX9_count 60 = .ok (.getfield 84, 3) := by decide +kernel
theorem dX9_count_63 : decode cX9_count 63 = .ok (.ireturn, 1) := by decide +kernel
theorem dX9_count_64 : decode cX9_count 64 = .ok (.aload_n 0, 1) := by decide +kernel
theorem dX9_count_65 : decode cX9_count 65 = .ok (.getfield 53, 3) := by decide +kernel
theorem dX9_count_68 : decode cX9_count 68 = .ok (.getfield 88, 3) := by decide +kernel
theorem dX9_count_71 : decode cX9_count 71 = .ok (.ireturn, 1) := by decide +kernel
theorem dX9_count_72 : decode cX9_count 72 = .ok (.aload_n 0, 1) := by decide +kernel
theorem dX9_count_73 : decode cX9_count 73 = .ok (.invokevirtual 120, 3) := by decide +kernel
theorem dX9_count_76 : decode cX9_count 76 = .ok (.ireturn, 1) := by decide +kernel
theorem dX9_count_77 : decode cX9_count 77 = .ok (.aload_n 0, 1) := by decide +kernel
theorem dX9_count_78 : decode cX9_count 78 = .ok (.getfield 53, 3) := by decide +kernel
theorem dX9_count_81 : decode cX9_count 81 = .ok (.invokevirtual 114, 3) := by decide +kernel
theorem dX9_count_84 : decode cX9_count 84 = .ok (.ireturn, 1) := by decide +kernel
theorem dX9_count_85 : decode cX9_count 85 = .ok (.aload_n 0, 1) := by decide +kernel
theorem dX9_count_86 : decode cX9_count 86 = .ok (.getfield 21, 3) := by decide +kernel
theorem dX9_count_89 : decode cX9_count 89 = .ok (.invokevirtual 129, 3) := by decide +kernel
theorem dX9_count_92 : decode cX9_count 92 = .ok (.ireturn, 1) := by decide +kernel
theorem dX9_count_93 : decode cX9_count 93 = .ok (.aload_n 0, 1) := by decide +kernel
theorem dX9_count_94 : decode cX9_count 94 = .ok (.invokevirtual 226, 3) := by decide +kernel
theorem dX9_count_97 : decode cX9_count 97 = .ok (.ireturn, 1) := by decide +kernel
theorem dX9_count_98 : decode cX9_count 98 = .ok (.aload_n 0, 1) := by decide +kernel
theorem dX9_count_99 : decode cX9_count 99 = .ok (.invokevirtual 229, 3) := by decide +kernel
theorem dX9_count_102 : decode cX9_count 102 = .ok (.ireturn, 1) := by decide +kernel
theorem dX9_count_103 : decode cX9_count 103 = .ok (.aload_n 0, 1) := by decide +kernel
theorem dX9_count_104 : decode cX9_count 104 = .ok (.invokevirtual 232, 3) := by decide +kernel
theorem dX9_count_107 : decode cX9_count 107 = .ok (.ireturn, 1) := by decide +kernel
theorem dX9_count_108 : decode cX9_count 108 = .ok (.aload_n 0, 1) := by decide +kernel
theorem dX9_count_109 : decode cX9_count 109 = .ok (.getfield 31, 3) := by decide +kernel
theorem dX9_count_112 : decode cX9_count 112 = .ok (.invokevirtual 133, 3) := by decide +kernel
theorem dX9_count_115 : decode cX9_count 115 = .ok (.ireturn, 1) := by decide +kernel
theorem dX9_count_116 : decode cX9_count 116 = .ok (.aload_n 0, 1) := by decide +kernel
theorem dX9_count_117 : decode cX9_count 117 = .ok (.getfield 14, 3) := by decide +kernel
theorem dX9_count_120 : decode cX9_count 120 = .ok (.invokevirtual 71, 3) := by decide +kernel
theorem dX9_count_123 : decode cX9_count 123 = .ok (.ireturn, 1) := by decide +kernel
theorem dX9_count_124 : decode cX9_count 124 = .ok (.iconst (-1), 1) := by decide +kernel
theorem dX9_count_125 : decode cX9_count 125 = .ok (.ireturn, 1) := by decide +kernel
theorem dX9_firstLexicon_0 : decode cX9_firstLexicon 0 = .ok (.new 7, 3) := by decide +kernel
theorem dX9_firstLexicon_3 : decode cX9_firstLexicon 3 = .ok (.dup, 1) := by decide +kernel
theorem dX9_firstLexicon_4 : decode cX9_firstLexicon 4 = .ok (.ldc 235, 2) := by decide +kernel
theorem dX9_firstLexicon_6 : decode cX9_firstLexicon 6 = .ok (.invokevirtual 237, 3) := by decide +kernel
theorem dX9_firstLexicon_9 : decode cX9_firstLexicon 9 = .ok (.invokespecial 11, 3) := by decide +kernel
theorem dX9_firstLexicon_12 : decode cX9_firstLexicon 12 = .ok (.astore_n 0, 1) := by decide +kernel
theorem dX9_firstLexicon_13 : decode cX9_firstLexicon 13 = .ok (.iconst 0, 1) := by decide +kernel
theorem dX9_firstLexicon_14 : decode cX9_firstLexicon 14 = .ok (.istore_n 1, 1) := by decide +kernel
theorem dX9_firstLexicon_15 : decode cX9_firstLexicon 15 = .ok (.iload_n 1, 1) := by decide +kernel
theorem dX9_firstLexicon_16 : decode cX9_firstLexicon 16 = .ok (.ldc 235, 2) := by decide +kernel
theorem dX9_firstLexicon_18 : decode cX9_firstLexicon 18 = .ok (.invokevirtual 237, 3) := by decide +kernel
theorem dX9_firstLexicon_21 : decode cX9_firstLexicon 21 = .ok (.if_icmp .ge 19, 3) := by decide +kernel
theorem dX9_firstLexicon_24 : decode cX9_firstLexicon 24 = .ok (.aload_n 0, 1) := by decide +kernel
theorem dX9_firstLexicon_25 : decode cX9_firstLexicon 25 = .ok (.ldc 235, 2) := by decide +kernel
theorem dX9_firstLexicon_27 : decode cX9_firstLexicon 27 = .ok (.iload_n 1, 1) := by decide +kernel
theorem dX9_firstLexicon_28 : decode cX9_firstLexicon 28 = .ok (.invokevirtual 242, 3) := by decide +kernel
theorem dX9_firstLexicon_31 : decode cX9_firstLexicon 31 = .ok (.invokevirtual 67, 3) := by decide +kernel
theorem dX9_firstLexicon_34 : decode cX9_firstLexicon 34 = .ok (.iinc 1 1, 3) := by decide +kernel
theorem dX9_firstLexicon_37 : decode cX9_firstLexicon 37 = .ok (.goto (-22), 3) := by decide +kernel
theorem dX9_firstLexicon_40 : decode cX9_firstLexicon 40 = .ok (.new 57, 3) := by decide +kernel
theorem dX9_firstLexicon_43 : decode cX9_firstLexicon 43 = .ok (.dup, 1) := by decide +kernel
theorem dX9_firstLexicon_44 : decode cX9_firstLexicon 44 = .ok (.invokespecial 59, 3) := by decide +kernel
theorem dX9_firstLexicon_47 : decode cX9_firstLexicon 47 = .ok (.astore_n 1, 1) := by decide +kernel
theorem dX9_firstLexicon_48 : decode cX9_firstLexicon 48 = .ok (.aload_n 0, 1) := by decide +kernel
theorem dX9_firstLexicon_49 : decode cX9_firstLexicon 49 = .ok (.aload_n 1, 1) := by decide +kernel
theorem dX9_firstLexicon_50 : decode cX9_firstLexicon 50 = .ok (.invokestatic 78, 3) := by decide +kernel
theorem dX9_firstLexicon_53 : decode cX9_firstLexicon 53 = .ok (.pop, 1) := by decide +kernel
theorem dX9_firstLexicon_54 : decode cX9_firstLexicon 54 = .ok (.aload_n 1, 1) := by decide +kernel
theorem dX9_firstLexicon_55 : decode cX9_firstLexicon 55 = .ok (.areturn, 1) := by decide +kernel
theorem dX9_turn_0 : decode cX9_turn 0 = .ok (.aload_n 1, 1) := by decide +kernel
theorem dX9_turn_1 : decode cX9_turn 1 = .ok (.ifnull 26, 3) := by decide +kernel
theorem dX9_turn_4 : decode cX9_turn 4 = .ok (.aload_n 1, 1) := by decide +kernel
theorem dX9_turn_5 : decode cX9_turn 5 = .ok (.aload_n 1, 1) := by decide +kernel
theorem dX9_turn_6 : decode cX9_turn 6 = .ok (.getfield 100, 3) := by decide +kernel
theorem dX9_turn_9 : decode cX9_turn 9 = .ok (.ifCond .ne 7, 3) := by decide +kernel
theorem dX9_turn_12 : decode cX9_turn 12 = .ok (.iconst 1, 1) := by decide +kernel
theorem dX9_turn_13 : decode cX9_turn 13 = .ok (.goto 4, 3) := by decide +kernel
theorem dX9_turn_16 : decode cX9_turn 16 = .ok (.iconst 0, 1) := by decide +kernel
theorem dX9_turn_17 : decode cX9_turn 17 = .ok (.putfield 100, 3) := by decide +kernel
theorem dX9_turn_20 : decode cX9_turn 20 = .ok (.aload_n 0, 1) := by decide +kernel
theorem dX9_turn_21 : decode cX9_turn 21 = .ok (.getfield 38, 3) := by decide +kernel
theorem dX9_turn_24 : decode cX9_turn 24 = .ok (.invokevirtual 93, 3) := by decide +kernel
theorem dX9_turn_27 : decode cX9_turn 27 = .ok (.return_, 1) := by decide +kernel
theorem dX9_turnLaw_0 : decode cX9_turnLaw 0 = .ok (.aload_n 0, 1) := by decide +kernel
theorem dX9_turnLaw_1 : decode cX9_turnLaw 1 = .ok (.getfield 53, 3) := by decide +kernel
theorem dX9_turnLaw_4 : decode cX9_turnLaw 4 = .ok (.aload_n 0, 1) := by decide +kernel
theorem dX9_turnLaw_5 : decode cX9_turnLaw 5 = .ok (.getfield 53, 3) := by decide +kernel
theorem dX9_turnLaw_8 : decode cX9_turnLaw 8 = .ok (.getfield 117, 3) := by decide +kernel
theorem dX9_turnLaw_11 : decode cX9_turnLaw 11 = .ok (.ifCond .ne 7, 3) := by decide +kernel
theorem dX9_turnLaw_14 : decode cX9_turnLaw 14 = .ok (.iconst 1, 1) := by decide +kernel
theorem dX9_turnLaw_15 : decode cX9_turnLaw 15 = .ok (.goto 4, 3) := by decide +kernel
theorem dX9_turnLaw_18 : decode cX9_turnLaw 18 = .ok (.iconst 0, 1) := by decide +kernel
theorem dX9_turnLaw_19 : decode cX9_turnLaw 19 = .ok (.putfield 117, 3) := by decide +kernel
theorem dX9_turnLaw_22 : decode cX9_turnLaw 22 = .ok (.aload_n 0, 1) := by decide +kernel
theorem dX9_turnLaw_23 : decode cX9_turnLaw 23 = .ok (.getfield 38, 3) := by decide +kernel
theorem dX9_turnLaw_26 : decode cX9_turnLaw 26 = .ok (.invokevirtual 93, 3) := by decide +kernel
theorem dX9_turnLaw_29 : decode cX9_turnLaw 29 = .ok (.return_, 1) := by decide +kernel
theorem dX9_lawNumber_0 : decode cX9_lawNumber 0 = .ok (.aload_n 0, 1) := by decide +kernel
theorem dX9_lawNumber_1 : decode cX9_lawNumber 1 = .ok (.getfield 53, 3) := by decide +kernel
theorem dX9_lawNumber_4 : decode cX9_lawNumber 4 = .ok (.getfield 117, 3) := by decide +kernel
theorem dX9_lawNumber_7 : decode cX9_lawNumber 7 = .ok (.ifCond .eq 7, 3) := by decide +kernel
theorem dX9_lawNumber_10 : decode cX9_lawNumber 10 = .ok (.iconst 1, 1) := by decide +kernel
theorem dX9_lawNumber_11 : decode cX9_lawNumber 11 = .ok (.goto 4, 3) := by decide +kernel
theorem dX9_lawNumber_14 : decode cX9_lawNumber 14 = .ok (.iconst 0, 1) := by decide +kernel
theorem dX9_lawNumber_15 : decode cX9_lawNumber 15 = .ok (.ireturn, 1) := by decide +kernel
theorem dX9_leastWritingsWith_0 : decode cX9_leastWritingsWith 0 = .ok (.aload_n 0, 1) := by decide +kernel
theorem dX9_leastWritingsWith_1 : decode cX9_leastWritingsWith 1 = .ok (.getfield 38, 3) := by decide +kernel
theorem dX9_leastWritingsWith_4 : decode cX9_leastWritingsWith 4 = .ok (.aload_n 0, 1) := by decide +kernel
theorem dX9_leastWritingsWith_5 : decode cX9_leastWritingsWith 5 = .ok (.getfield 53, 3) := by decide +kernel
theorem dX9_leastWritingsWith_8 : decode cX9_leastWritingsWith 8 = .ok (.invokevirtual 168, 3) := by decide +kernel
theorem dX9_leastWritingsWith_11 : decode cX9_leastWritingsWith 11 = .ok (.iconst 0, 1) := by decide +kernel
theorem dX9_leastWritingsWith_12 : decode cX9_leastWritingsWith 12 = .ok (.istore_n 2, 1) := by decide +kernel
theorem dX9_leastWritingsWith_13 : decode cX9_leastWritingsWith 13 = .ok (.iconst 0, 1) := by decide +kernel
theorem dX9_leastWritingsWith_14 : decode cX9_leastWritingsWith 14 = .ok (.istore_n 3, 1) := by decide +kernel
theorem dX9_leastWritingsWith_15 : decode cX9_leastWritingsWith 15 = .ok (.iload_n 3, 1) := by decide +kernel
theorem dX9_leastWritingsWith_16 : decode cX9_leastWritingsWith 16 = .ok (.aload_n 0, 1) := by decide +kernel
theorem dX9_leastWritingsWith_17 : decode cX9_leastWritingsWith 17 = .ok (.getfield 53, 3) := by decide +kernel
theorem dX9_leastWritingsWith_20 : decode cX9_leastWritingsWith 20 = .ok (.getfield 88, 3) := by decide +kernel
theorem dX9_leastWritingsWith_23 : decode cX9_leastWritingsWith 23 = .ok (.if_icmp .ge 36, 3) := by decide +kernel
theorem dX9_leastWritingsWith_26 : decode cX9_leastWritingsWith 26 = .ok (.aload_n 0, 1) := by decide +kernel
theorem dX9_leastWritingsWith_27 : decode cX9_leastWritingsWith 27 = .ok (.getfield 38, 3) := by decide +kernel
theorem dX9_leastWritingsWith_30 : decode cX9_leastWritingsWith 30 = .ok (.iload_n 3, 1) := by decide +kernel
theorem dX9_leastWritingsWith_31 : decode cX9_leastWritingsWith 31 = .ok (.invokevirtual 179, 3) := by decide +kernel
theorem dX9_leastWritingsWith_34 : decode cX9_leastWritingsWith 34 = .ok (.astore 4, 2) := by decide +kernel
theorem dX9_leastWritingsWith_36 : decode cX9_leastWritingsWith 36 = .ok (.aload 4, 2) := by decide +kernel
theorem dX9_leastWritingsWith_38 : decode cX9_leastWritingsWith 38 = .ok (.ifnull 15, 3) := by decide +kernel
theorem dX9_leastWritingsWith_41 : decode cX9_leastWritingsWith 41 = .ok (.aload 4, 2) := by decide +kernel
theorem dX9_leastWritingsWith_43 : decode cX9_leastWritingsWith 43 = .ok (.iload_n 1, 1) := by decide +kernel
theorem dX9_leastWritingsWith_44 : decode cX9_leastWritingsWith 44 = .ok (.invokevirtual 246, 3) := by decide +kernel
theorem dX9_leastWritingsWith_47 : decode cX9_leastWritingsWith 47 = .ok (.ifCond .eq 6, 3) := by decide +kernel
theorem dX9_leastWritingsWith_50 : decode cX9_leastWritingsWith 50 = .ok (.iinc 2 1, 3) := by decide +kernel
theorem dX9_leastWritingsWith_53 : decode cX9_leastWritingsWith 53 = .ok (.iinc 3 1, 3) := by decide +kernel
theorem dX9_leastWritingsWith_56 : decode cX9_leastWritingsWith 56 = .ok (.goto (-41), 3) := by decide +kernel
theorem dX9_leastWritingsWith_59 : decode cX9_leastWritingsWith 59 = .ok (.iload_n 2, 1) := by decide +kernel
theorem dX9_leastWritingsWith_60 : decode cX9_leastWritingsWith 60 = .ok (.ireturn, 1) := by decide +kernel
theorem dX9_clearness_0 : decode cX9_clearness 0 = .ok (.aload_n 0, 1) := by decide +kernel
theorem dX9_clearness_1 : decode cX9_clearness 1 = .ok (.getfield 38, 3) := by decide +kernel
theorem dX9_clearness_4 : decode cX9_clearness 4 = .ok (.iload_n 1, 1) := by decide +kernel
theorem dX9_clearness_5 : decode cX9_clearness 5 = .ok (.invokevirtual 179, 3) := by decide +kernel
theorem dX9_clearness_8 : decode cX9_clearness 8 = .ok (.astore_n 2, 1) := by decide +kernel
theorem dX9_clearness_9 : decode cX9_clearness 9 = .ok (.aload_n 0, 1) := by decide +kernel
theorem dX9_clearness_10 : decode cX9_clearness 10 = .ok (.getfield 53, 3) := by decide +kernel
theorem dX9_clearness_13 : decode cX9_clearness 13 = .ok (.iload_n 1, 1) := by decide +kernel
theorem dX9_clearness_14 : decode cX9_clearness 14 = .ok (.invokevirtual 155, 3) := by decide +kernel
theorem dX9_clearness_17 : decode cX9_clearness 17 = .ok (.astore_n 3, 1) := by decide +kernel
theorem dX9_clearness_18 : decode cX9_clearness 18 = .ok (.aload_n 2, 1) := by decide +kernel
theorem dX9_clearness_19 : decode cX9_clearness 19 = .ok (.ifnull 14, 3) := by decide +kernel
theorem dX9_clearness_22 : decode cX9_clearness 22 = .ok (.aload_n 3, 1) := by decide +kernel
theorem dX9_clearness_23 : decode cX9_clearness 23 = .ok (.ifnull 10, 3) := by decide +kernel
theorem dX9_clearness_26 : decode cX9_clearness 26 = .ok (.aload_n 2, 1) := by decide +kernel
theorem dX9_clearness_27 : decode cX9_clearness 27 = .ok (.invokevirtual 129, 3) := by decide +kernel
theorem dX9_clearness_30 : decode cX9_clearness 30 = .ok (.ifCond .ne 5, 3) := by decide +kernel
theorem dX9_clearness_33 : decode cX9_clearness 33 = .ok (.iconst 0, 1) := by decide +kernel
theorem dX9_clearness_34 : decode cX9_clearness 34 = .ok (.ireturn, 1) := by decide +kernel
theorem dX9_clearness_35 : decode cX9_clearness 35 = .ok (.iconst 1, 1) := by decide +kernel
theorem dX9_clearness_36 : decode cX9_clearness 36 = .ok (.iload_n 1, 1) := by decide +kernel
theorem dX9_clearness_37 : decode cX9_clearness 37 = .ok (.ishl, 1) := by decide +kernel
theorem dX9_clearness_38 : decode cX9_clearness 38 = .ok (.istore 4, 2) := by decide +kernel
theorem dX9_clearness_40 : decode cX9_clearness 40 = .ok (.aload_n 0, 1) := by decide +kernel
theorem dX9_clearness_41 : decode cX9_clearness 41 = .ok (.getfield 45, 3) := by decide +kernel
theorem dX9_clearness_44 : decode cX9_clearness 44 = .ok (.aload_n 0, 1) := by decide +kernel
theorem dX9_clearness_45 : decode cX9_clearness 45 = .ok (.getfield 53, 3) := by decide +kernel
theorem dX9_clearness_48 : decode cX9_clearness 48 = .ok (.aload_n 2, 1) := by decide +kernel
theorem dX9_clearness_49 : decode cX9_clearness 49 = .ok (.iconst 0, 1) := by decide +kernel
theorem dX9_clearness_50 : decode cX9_clearness 50 = .ok (.invokevirtual 202, 3) := by decide +kernel
theorem dX9_clearness_53 : decode cX9_clearness 53 = .ok (.aload_n 0, 1) := by decide +kernel
theorem dX9_clearness_54 : decode cX9_clearness 54 = .ok (.getfield 45, 3) := by decide +kernel
theorem dX9_clearness_57 : decode cX9_clearness 57 = .ok (.aload_n 2, 1) := by decide +kernel
theorem dX9_clearness_58 : decode cX9_clearness 58 = .ok (.invokevirtual 129, 3) := by decide +kernel
theorem dX9_clearness_61 : decode cX9_clearness 61 = .ok (.invokevirtual 206, 3) := by decide +kernel
theorem dX9_clearness_64 : decode cX9_clearness 64 = .ok (.iload 4, 2) := by decide +kernel
theorem dX9_clearness_66 : decode cX9_clearness 66 = .ok (.if_icmp .ne 5, 3) := by decide +kernel
theorem dX9_clearness_69 : decode cX9_clearness 69 = .ok (.iconst 1, 1) := by decide +kernel
theorem dX9_clearness_70 : decode cX9_clearness 70 = .ok (.ireturn, 1) := by decide +kernel
theorem dX9_clearness_71 : decode cX9_clearness 71 = .ok (.aload_n 0, 1) := by decide +kernel
theorem dX9_clearness_72 : decode cX9_clearness 72 = .ok (.getfield 53, 3) := by decide +kernel
theorem dX9_clearness_75 : decode cX9_clearness 75 = .ok (.aload_n 3, 1) := by decide +kernel
theorem dX9_clearness_76 : decode cX9_clearness 76 = .ok (.getfield 159, 3) := by decide +kernel
theorem dX9_clearness_79 : decode cX9_clearness 79 = .ok (.invokevirtual 190, 3) := by decide +kernel
theorem dX9_clearness_82 : decode cX9_clearness 82 = .ok (.istore 5, 2) := by decide +kernel
theorem dX9_clearness_84 : decode cX9_clearness 84 = .ok (.iload 5, 2) := by decide +kernel
theorem dX9_clearness_86 : decode cX9_clearness 86 = .ok (.bipush (-4), 2) := by decide +kernel
theorem dX9_clearness_88 : decode cX9_clearness 88 = .ok (.if_icmp .ne 5, 3) := by decide +kernel
theorem dX9_clearness_91 : decode cX9_clearness 91 = .ok (.iconst 0, 1) := by decide +kernel
theorem dX9_clearness_92 : decode cX9_clearness 92 = .ok (.ireturn, 1) := by decide +kernel
theorem dX9_clearness_93 : decode cX9_clearness 93 = .ok (.aload_n 0, 1) := by decide +kernel
theorem dX9_clearness_94 : decode cX9_clearness 94 = .ok (.getfield 25, 3) := by decide +kernel
theorem dX9_clearness_97 : decode cX9_clearness 97 = .ok (.aload_n 2, 1) := by decide +kernel
theorem dX9_clearness_98 : decode cX9_clearness 98 = .ok (.invokevirtual 250, 3) := by decide +kernel
theorem dX9_clearness_101 : decode cX9_clearness 101 = .ok (.aload_n 0, 1) := by decide +kernel
theorem dX9_clearness_102 : decode cX9_clearness 102 = .ok (.getfield 25, 3) := by decide +kernel
theorem dX9_clearness_105 : decode cX9_clearness 105 = .ok (.iload 5, 2) := by decide +kernel
theorem dX9_clearness_107 : decode cX9_clearness 107 = .ok (.invokevirtual 127, 3) := by decide +kernel
theorem dX9_clearness_110 : decode cX9_clearness 110 = .ok (.aload_n 0, 1) := by decide +kernel
theorem dX9_clearness_111 : decode cX9_clearness 111 = .ok (.getfield 45, 3) := by decide +kernel
theorem dX9_clearness_114 : decode cX9_clearness 114 = .ok (.aload_n 0, 1) := by decide +kernel
theorem dX9_clearness_115 : decode cX9_clearness 115 = .ok (.getfield 53, 3) := by decide +kernel
theorem dX9_clearness_118 : decode cX9_clearness 118 = .ok (.aload_n 0, 1) := by decide +kernel
theorem dX9_clearness_119 : decode cX9_clearness 119 = .ok (.getfield 25, 3) := by decide +kernel
theorem dX9_clearness_122 : decode cX9_clearness 122 = .ok (.iconst 0, 1) := by decide +kernel
theorem dX9_clearness_123 : decode cX9_clearness 123 = .ok (.invokevirtual 202, 3) := by decide +kernel
theorem dX9_clearness_126 : decode cX9_clearness 126 = .ok (.aload_n 0, 1) := by decide +kernel
theorem dX9_clearness_127 : decode cX9_clearness 127 = .ok (.getfield 45, 3) := by decide +kernel
theorem dX9_clearness_130 : decode cX9_clearness 130 = .ok (.aload_n 0, 1) := by decide +kernel
theorem dX9_clearness_131 : decode cX9_clearness 131 = .ok (.getfield 25, 3) := by decide +kernel
theorem dX9_clearness_134 : decode cX9_clearness 134 = .ok (.invokevirtual 129, 3) := by decide +kernel
theorem dX9_clearness_137 : decode cX9_clearness 137 = .ok (.invokevirtual 206, 3) := by decide +kernel
theorem dX9_clearness_140 : decode cX9_clearness 140 = .ok (.iload 4, 2) := by decide +kernel
theorem dX9_clearness_142 : decode cX9_clearness 142 = .ok (.if_icmp .ne 7, 3) := by decide +kernel
theorem dX9_clearness_145 : decode cX9_clearness 145 = .ok (.iconst 2, 1) := by decide +kernel
theorem dX9_clearness_146 : decode cX9_clearness 146 = .ok (.goto 4, 3) := by decide +kernel
theorem dX9_clearness_149 : decode cX9_clearness 149 = .ok (.iconst 0, 1) := by decide +kernel
theorem dX9_clearness_150 : decode cX9_clearness 150 = .ok (.ireturn, 1) := by decide +kernel
theorem dX9_mixedWith_0 : decode cX9_mixedWith 0 = .ok (.aload_n 0, 1) := by decide +kernel
theorem dX9_mixedWith_1 : decode cX9_mixedWith 1 = .ok (.getfield 38, 3) := by decide +kernel
theorem dX9_mixedWith_4 : decode cX9_mixedWith 4 = .ok (.iload_n 1, 1) := by decide +kernel
theorem dX9_mixedWith_5 : decode cX9_mixedWith 5 = .ok (.invokevirtual 179, 3) := by decide +kernel
theorem dX9_mixedWith_8 : decode cX9_mixedWith 8 = .ok (.astore_n 3, 1) := by decide +kernel
theorem dX9_mixedWith_9 : decode cX9_mixedWith 9 = .ok (.aload_n 3, 1) := by decide +kernel
theorem dX9_mixedWith_10 : decode cX9_mixedWith 10 = .ok (.ifnull 10, 3) := by decide +kernel
theorem dX9_mixedWith_13 : decode cX9_mixedWith 13 = .ok (.aload_n 3, 1) := by decide +kernel
theorem dX9_mixedWith_14 : decode cX9_mixedWith 14 = .ok (.invokevirtual 129, 3) := by decide +kernel
theorem dX9_mixedWith_17 : decode cX9_mixedWith 17 = .ok (.ifCond .ne 5, 3) := by decide +kernel
theorem dX9_mixedWith_20 : decode cX9_mixedWith 20 = .ok (.iconst 0, 1) := by decide +kernel
theorem dX9_mixedWith_21 : decode cX9_mixedWith 21 = .ok (.ireturn, 1) := by decide +kernel
theorem dX9_mixedWith_22 : decode cX9_mixedWith 22 = .ok (.iconst 0, 1) := by decide +kernel
theorem dX9_mixedWith_23 : decode cX9_mixedWith 23 = .ok (.istore 4, 2) := by decide +kernel
theorem dX9_mixedWith_25 : decode cX9_mixedWith 25 = .ok (.iload_n 2, 1) := by decide +kernel
theorem dX9_mixedWith_26 : decode cX9_mixedWith 26 = .ok (.istore 5, 2) := by decide +kernel
theorem dX9_mixedWith_28 : decode cX9_mixedWith 28 = .ok (.iload 5, 2) := by decide +kernel
theorem dX9_mixedWith_30 : decode cX9_mixedWith 30 = .ok (.aload_n 0, 1) := by decide +kernel
theorem dX9_mixedWith_31 : decode cX9_mixedWith 31 = .ok (.getfield 53, 3) := by decide +kernel
theorem dX9_mixedWith_34 : decode cX9_mixedWith 34 = .ok (.getfield 88, 3) := by decide +kernel
theorem dX9_mixedWith_37 : decode cX9_mixedWith 37 = .ok (.if_icmp .ge 43, 3) := by decide +kernel
theorem dX9_mixedWith_40 : decode cX9_mixedWith 40 = .ok (.aload_n 0, 1) := by decide +kernel
theorem dX9_mixedWith_41 : decode cX9_mixedWith 41 = .ok (.getfield 38, 3) := by decide +kernel
theorem dX9_mixedWith_44 : decode cX9_mixedWith 44 = .ok (.iload 5, 2) := by decide +kernel
theorem dX9_mixedWith_46 : decode cX9_mixedWith 46 = .ok (.invokevirtual 179, 3) := by decide +kernel
theorem dX9_mixedWith_49 : decode cX9_mixedWith 49 = .ok (.astore 6, 2) := by decide +kernel
theorem dX9_mixedWith_51 : decode cX9_mixedWith 51 = .ok (.iload 5, 2) := by decide +kernel
theorem dX9_mixedWith_53 : decode cX9_mixedWith 53 = .ok (.iload_n 1, 1) := by decide +kernel
theorem dX9_mixedWith_54 : decode cX9_mixedWith 54 = .ok (.if_icmp .eq 20, 3) := by decide +kernel
theorem dX9_mixedWith_57 : decode cX9_mixedWith 57 = .ok (.aload 6, 2) := by decide +kernel
theorem dX9_mixedWith_59 : decode cX9_mixedWith 59 = .ok (.ifnull 15, 3) := by decide +kernel
theorem dX9_mixedWith_62 : decode cX9_mixedWith 62 = .ok (.aload_n 3, 1) := by decide +kernel
theorem dX9_mixedWith_63 : decode cX9_mixedWith 63 = .ok (.aload 6, 2) := by decide +kernel
theorem dX9_mixedWith_65 : decode cX9_mixedWith 65 = .ok (.invokevirtual 254, 3) := by decide +kernel
theorem dX9_mixedWith_68 : decode cX9_mixedWith 68 = .ok (.ifCond .eq 6, 3) := by decide +kernel
theorem dX9_mixedWith_71 : decode cX9_mixedWith 71 = .ok (.iinc 4 1, 3) := by decide +kernel
theorem dX9_mixedWith_74 : decode cX9_mixedWith 74 = .ok (.iinc 5 1, 3) := by decide +kernel
theorem dX9_mixedWith_77 : decode cX9_mixedWith 77 = .ok (.goto (-49), 3) := by decide +kernel
theorem dX9_mixedWith_80 : decode cX9_mixedWith 80 = .ok (.iload 4, 2) := by decide +kernel
theorem dX9_mixedWith_82 : decode cX9_mixedWith 82 = .ok (.ireturn, 1) := by decide +kernel
theorem dX9_writtenWords_0 : decode cX9_writtenWords 0 = .ok (.aload_n 0, 1) := by decide +kernel
theorem dX9_writtenWords_1 : decode cX9_writtenWords 1 = .ok (.getfield 38, 3) := by decide +kernel
theorem dX9_writtenWords_4 : decode cX9_writtenWords 4 = .ok (.aload_n 0, 1) := by decide +kernel
theorem dX9_writtenWords_5 : decode cX9_writtenWords 5 = .ok (.getfield 53, 3) := by decide +kernel
theorem dX9_writtenWords_8 : decode cX9_writtenWords 8 = .ok (.invokevirtual 168, 3) := by decide +kernel
theorem dX9_writtenWords_11 : decode cX9_writtenWords 11 = .ok (.iconst 0, 1) := by decide +kernel
theorem dX9_writtenWords_12 : decode cX9_writtenWords 12 = .ok (.istore_n 1, 1) := by decide +kernel
theorem dX9_writtenWords_13 : decode cX9_writtenWords 13 = .ok (.iconst 0, 1) := by decide +kernel
theorem dX9_writtenWords_14 : decode cX9_writtenWords 14 = .ok (.istore_n 2, 1) := by decide +kernel
theorem dX9_writtenWords_15 : decode cX9_writtenWords 15 = .ok (.iload_n 2, 1) := by decide +kernel
theorem dX9_writtenWords_16 : decode cX9_writtenWords 16 = .ok (.aload_n 0, 1) := by decide +kernel
theorem dX9_writtenWords_17 : decode cX9_writtenWords 17 = .ok (.getfield 53, 3) := by decide +kernel
theorem dX9_writtenWords_20 : decode cX9_writtenWords 20 = .ok (.getfield 88, 3) := by decide +kernel
theorem dX9_writtenWords_23 : decode cX9_writtenWords 23 = .ok (.if_icmp .ge 32, 3) := by decide +kernel
theorem dX9_writtenWords_26 : decode cX9_writtenWords 26 = .ok (.aload_n 0, 1) := by decide +kernel
theorem dX9_writtenWords_27 : decode cX9_writtenWords 27 = .ok (.getfield 38, 3) := by decide +kernel
theorem dX9_writtenWords_30 : decode cX9_writtenWords 30 = .ok (.iload_n 2, 1) := by decide +kernel
theorem dX9_writtenWords_31 : decode cX9_writtenWords 31 = .ok (.invokevirtual 179, 3) := by decide +kernel
theorem dX9_writtenWords_34 : decode cX9_writtenWords 34 = .ok (.astore_n 3, 1) := by decide +kernel
theorem dX9_writtenWords_35 : decode cX9_writtenWords 35 = .ok (.aload_n 3, 1) := by decide +kernel
theorem dX9_writtenWords_36 : decode cX9_writtenWords 36 = .ok (.ifnull 13, 3) := by decide +kernel
theorem dX9_writtenWords_39 : decode cX9_writtenWords 39 = .ok (.aload_n 3, 1) := by decide +kernel
theorem dX9_writtenWords_40 : decode cX9_writtenWords 40 = .ok (.invokevirtual 129, 3) := by decide +kernel
theorem dX9_writtenWords_43 : decode cX9_writtenWords 43 = .ok (.ifCond .le 6, 3) := by decide +kernel
theorem dX9_writtenWords_46 : decode cX9_writtenWords 46 = .ok (.iinc 1 1, 3) := by decide +kernel
theorem dX9_writtenWords_49 : decode cX9_writtenWords 49 = .ok (.iinc 2 1, 3) := by decide +kernel
theorem dX9_writtenWords_52 : decode cX9_writtenWords 52 = .ok (.goto (-37), 3) := by decide +kernel
theorem dX9_writtenWords_55 : decode cX9_writtenWords 55 = .ok (.iload_n 1, 1) := by decide +kernel
theorem dX9_writtenWords_56 : decode cX9_writtenWords 56 = .ok (.ireturn, 1) := by decide +kernel
theorem dX9_clearWords_0 : decode cX9_clearWords 0 = .ok (.aload_n 0, 1) := by decide +kernel
theorem dX9_clearWords_1 : decode cX9_clearWords 1 = .ok (.getfield 38, 3) := by decide +kernel
theorem dX9_clearWords_4 : decode cX9_clearWords 4 = .ok (.aload_n 0, 1) := by decide +kernel
theorem dX9_clearWords_5 : decode cX9_clearWords 5 = .ok (.getfield 53, 3) := by decide +kernel
theorem dX9_clearWords_8 : decode cX9_clearWords 8 = .ok (.invokevirtual 168, 3) := by decide +kernel
theorem dX9_clearWords_11 : decode cX9_clearWords 11 = .ok (.iconst 0, 1) := by decide +kernel
theorem dX9_clearWords_12 : decode cX9_clearWords 12 = .ok (.istore_n 1, 1) := by decide +kernel
theorem dX9_clearWords_13 : decode cX9_clearWords 13 = .ok (.iconst 0, 1) := by decide +kernel
theorem dX9_clearWords_14 : decode cX9_clearWords 14 = .ok (.istore_n 2, 1) := by decide +kernel
theorem dX9_clearWords_15 : decode cX9_clearWords 15 = .ok (.iload_n 2, 1) := by decide +kernel
theorem dX9_clearWords_16 : decode cX9_clearWords 16 = .ok (.aload_n 0, 1) := by decide +kernel
theorem dX9_clearWords_17 : decode cX9_clearWords 17 = .ok (.getfield 53, 3) := by decide +kernel
theorem dX9_clearWords_20 : decode cX9_clearWords 20 = .ok (.getfield 88, 3) := by decide +kernel
theorem dX9_clearWords_23 : decode cX9_clearWords 23 = .ok (.if_icmp .ge 20, 3) := by decide +kernel
theorem dX9_clearWords_26 : decode cX9_clearWords 26 = .ok (.aload_n 0, 1) := by decide +kernel
theorem dX9_clearWords_27 : decode cX9_clearWords 27 = .ok (.iload_n 2, 1) := by decide +kernel
theorem dX9_clearWords_28 : decode cX9_clearWords 28 = .ok (.invokevirtual 172, 3) := by decide +kernel
theorem dX9_clearWords_31 : decode cX9_clearWords 31 = .ok (.ifCond .eq 6, 3) := by decide +kernel
theorem dX9_clearWords_34 : decode cX9_clearWords 34 = .ok (.iinc 1 1, 3) := by decide +kernel
theorem dX9_clearWords_37 : decode cX9_clearWords 37 = .ok (.iinc 2 1, 3) := by decide +kernel
theorem dX9_clearWords_40 : decode cX9_clearWords 40 = .ok (.goto (-25), 3) := by decide +kernel
theorem dX9_clearWords_43 : decode cX9_clearWords 43 = .ok (.iload_n 1, 1) := by decide +kernel
theorem dX9_clearWords_44 : decode cX9_clearWords 44 = .ok (.ireturn, 1) := by decide +kernel
theorem dX9_mixedPairs_0 : decode cX9_mixedPairs 0 = .ok (.aload_n 0, 1) := by decide +kernel
theorem dX9_mixedPairs_1 : decode cX9_mixedPairs 1 = .ok (.getfield 38, 3) := by decide +kernel
theorem dX9_mixedPairs_4 : decode cX9_mixedPairs 4 = .ok (.aload_n 0, 1) := by decide +kernel
theorem dX9_mixedPairs_5 : decode cX9_mixedPairs 5 = .ok (.getfield 53, 3) := by decide +kernel
theorem dX9_mixedPairs_8 : decode cX9_mixedPairs 8 = .ok (.invokevirtual 168, 3) := by decide +kernel
theorem dX9_mixedPairs_11 : decode cX9_mixedPairs 11 = .ok (.iconst 0, 1) := by decide +kernel
theorem dX9_mixedPairs_12 : decode cX9_mixedPairs 12 = .ok (.istore_n 1, 1) := by decide +kernel
theorem dX9_mixedPairs_13 : decode cX9_mixedPairs 13 = .ok (.iconst 0, 1) := by decide +kernel
theorem dX9_mixedPairs_14 : decode cX9_mixedPairs 14 = .ok (.istore_n 2, 1) := by decide +kernel
theorem dX9_mixedPairs_15 : decode cX9_mixedPairs 15 = .ok (.iload_n 2, 1) := by decide +kernel
theorem dX9_mixedPairs_16 : decode cX9_mixedPairs 16 = .ok (.aload_n 0, 1) := by decide +kernel
theorem dX9_mixedPairs_17 : decode cX9_mixedPairs 17 = .ok (.getfield 53, 3) := by decide +kernel
theorem dX9_mixedPairs_20 : decode cX9_mixedPairs 20 = .ok (.getfield 88, 3) := by decide +kernel
theorem dX9_mixedPairs_23 : decode cX9_mixedPairs 23 = .ok (.if_icmp .ge 20, 3) := by decide +kernel
theorem dX9_mixedPairs_26 : decode cX9_mixedPairs 26 = .ok (.iload_n 1, 1) := by decide +kernel
theorem dX9_mixedPairs_27 : decode cX9_mixedPairs 27 = .ok (.aload_n 0, 1) := by decide +kernel
theorem dX9_mixedPairs_28 : decode cX9_mixedPairs 28 = .ok (.iload_n 2, 1) := by decide +kernel
theorem dX9_mixedPairs_29 : decode cX9_mixedPairs 29 = .ok (.iload_n 2, 1) := by decide +kernel
theorem dX9_mixedPairs_30 : decode cX9_mixedPairs 30 = .ok (.iconst 1, 1) := by decide +kernel
theorem dX9_mixedPairs_31 : decode cX9_mixedPairs 31 = .ok (.iadd, 1) := by decide +kernel
theorem dX9_mixedPairs_32 : decode cX9_mixedPairs 32 = .ok (.invokevirtual 175, 3) := by decide +kernel
theorem dX9_mixedPairs_35 : decode cX9_mixedPairs 35 = .ok (.iadd, 1) := by decide +kernel
theorem dX9_mixedPairs_36 : decode cX9_mixedPairs 36 = .ok (.istore_n 1, 1) := by decide +kernel
theorem dX9_mixedPairs_37 : decode cX9_mixedPairs 37 = .ok (.iinc 2 1, 3) := by decide +kernel
theorem dX9_mixedPairs_40 : decode cX9_mixedPairs 40 = .ok (.goto (-25), 3) := by decide +kernel
theorem dX9_mixedPairs_43 : decode cX9_mixedPairs 43 = .ok (.iload_n 1, 1) := by decide +kernel
theorem dX9_mixedPairs_44 : decode cX9_mixedPairs 44 = .ok (.ireturn, 1) := by decide +kernel
theorem dX10_init_0 : decode cX10_init 0 = .ok (.aload_n 0, 1) := by decide +kernel
theorem dX10_init_1 : decode cX10_init 1 = .ok (.invokespecial 1, 3) := by decide +kernel
theorem dX10_init_4 : decode cX10_init 4 = .ok (.aload_n 0, 1) := by decide +kernel
theorem dX10_init_5 : decode cX10_init 5 = .ok (.sipush 200, 3) := by decide +kernel
theorem dX10_init_8 : decode cX10_init 8 = .ok (.newarray .int, 2) := by decide +kernel
theorem dX10_init_10 : decode cX10_init 10 = .ok (.putfield 7, 3) := by decide +kernel
theorem dX10_init_13 : decode cX10_init 13 = .ok (.aload_n 0, 1) := by decide +kernel
theorem dX10_init_14 : decode cX10_init 14 = .ok (.sipush 167, 3) := by decide +kernel
theorem dX10_init_17 : decode cX10_init 17 = .ok (.newarray .int, 2) := by decide +kernel
theorem dX10_init_19 : decode cX10_init 19 = .ok (.putfield 13, 3) := by decide +kernel
theorem dX10_init_22 : decode cX10_init 22 = .ok (.aload_n 0, 1) := by decide +kernel
theorem dX10_init_23 : decode cX10_init 23 = .ok (.sipush 167, 3) := by decide +kernel
theorem dX10_init_26 : decode cX10_init 26 = .ok (.newarray .int, 2) := by decide +kernel
theorem dX10_init_28 : decode cX10_init 28 = .ok (.putfield 16, 3) := by decide +kernel
theorem dX10_init_31 : decode cX10_init 31 = .ok (.aload_n 0, 1) := by decide +kernel
theorem dX10_init_32 : decode cX10_init 32 = .ok (.bipush 19, 2) := by decide +kernel
theorem dX10_init_34 : decode cX10_init 34 = .ok (.newarray .int, 2) := by decide +kernel
theorem dX10_init_36 : decode cX10_init 36 = .ok (.putfield 19, 3) := by decide +kernel
theorem dX10_init_39 : decode cX10_init 39 = .ok (.aload_n 0, 1) := by decide +kernel
theorem dX10_init_40 : decode cX10_init 40 = .ok (.bipush 114, 2) := by decide +kernel
theorem dX10_init_42 : decode cX10_init 42 = .ok (.newarray .int, 2) := by decide +kernel
theorem dX10_init_44 : decode cX10_init 44 = .ok (.putfield 22, 3) := by decide +kernel
theorem dX10_init_47 : decode cX10_init 47 = .ok (.aload_n 0, 1) := by decide +kernel
theorem dX10_init_48 : decode cX10_init 48 = .ok (.sipush 512, 3) := by decide +kernel
theorem dX10_init_51 : decode cX10_init 51 = .ok (.newarray .int, 2) := by decide +kernel
theorem dX10_init_53 : decode cX10_init 53 = .ok (.putfield 25, 3) := by decide +kernel
theorem dX10_init_56 : decode cX10_init 56 = .ok (.aload_n 0, 1) := by decide +kernel
theorem dX10_init_57 : decode cX10_init 57 = .ok (.sipush 512, 3) := by decide +kernel
theorem dX10_init_60 : decode cX10_init 60 = .ok (.newarray .int, 2) := by decide +kernel
theorem dX10_init_62 : decode cX10_init 62 = .ok (.putfield 28, 3) := by decide +kernel
theorem dX10_init_65 : decode cX10_init 65 = .ok (.aload_n 0, 1) := by decide +kernel
theorem dX10_init_66 : decode cX10_init 66 = .ok (.sipush 6144, 3) := by decide +kernel
theorem dX10_init_69 : decode cX10_init 69 = .ok (.newarray .int, 2) := by decide +kernel
theorem dX10_init_71 : decode cX10_init 71 = .ok (.putfield 31, 3) := by decide +kernel
theorem dX10_init_74 : decode cX10_init 74 = .ok (.aload_n 0, 1) := by decide +kernel
theorem dX10_init_75 : decode cX10_init 75 = .ok (.sipush 5120, 3) := by decide +kernel
theorem dX10_init_78 : decode cX10_init 78 = .ok (.newarray .int, 2) := by decide +kernel
theorem dX10_init_80 : decode cX10_init 80 = .ok (.putfield 34, 3) := by decide +kernel
theorem dX10_init_83 : decode cX10_init 83 = .ok (.aload_n 0, 1) := by decide +kernel
theorem dX10_init_84 : decode cX10_init 84 = .ok (.bipush 10, 2) := by decide +kernel
theorem dX10_init_86 : decode cX10_init 86 = .ok (.newarray .int, 2) := by decide +kernel
theorem dX10_init_88 : decode cX10_init 88 = .ok (.putfield 37, 3) := by decide +kernel
theorem dX10_init_91 : decode cX10_init 91 = .ok (.aload_n 0, 1) := by decide +kernel
theorem dX10_init_92 : decode cX10_init 92 = .ok (.bipush 10, 2) := by decide +kernel
theorem dX10_init_94 : decode cX10_init 94 = .ok (.newarray .int, 2) := by decide +kernel
theorem dX10_init_96 : decode cX10_init 96 = .ok (.putfield 40, 3) := by decide +kernel
theorem dX10_init_99 : decode cX10_init 99 = .ok (.aload_n 0, 1) := by decide +kernel
theorem dX10_init_100 : decode cX10_init 100 = .ok (.sipush 1024, 3) := by decide +kernel
theorem dX10_init_103 : decode cX10_init 103 = .ok (.newarray .long, 2) := by decide +kernel
theorem dX10_init_105 : decode cX10_init 105 = .ok (.putfield 43, 3) := by decide +kernel
theorem dX10_init_108 : decode cX10_init 108 = .ok (.aload_n 0, 1) := by decide +kernel
theorem dX10_init_109 : decode cX10_init 109 = .ok (.bipush 17, 2) := by decide +kernel
theorem dX10_init_111 : decode cX10_init 111 = .ok (.newarray .int, 2) := by decide +kernel
theorem dX10_init_113 : decode cX10_init 113 = .ok (.putfield 47, 3) := by decide +kernel
theorem dX10_init_116 : decode cX10_init 116 = .ok (.aload_n 0, 1) := by decide +kernel
theorem dX10_init_117 : decode cX10_init 117 = .ok (.bipush 17, 2) := by decide +kernel
theorem dX10_init_119 : decode cX10_init 119 = .ok (.newarray .long, 2) := by decide +kernel
theorem dX10_init_121 : decode cX10_init 121 = .ok (.putfield 50, 3) := by decide +kernel
theorem dX10_init_124 : decode cX10_init 124 = .ok (.aload_n 0, 1) := by decide +kernel
theorem dX10_init_125 : decode cX10_init 125 = .ok (.sipush 160, 3) := by decide +kernel
theorem dX10_init_128 : decode cX10_init 128 = .ok (.newarray .int, 2) := by decide +kernel
theorem dX10_init_130 : decode cX10_init 130 = .ok (.putfield 53, 3) := by decide +kernel
theorem dX10_init_133 : decode cX10_init 133 = .ok (.aload_n 0, 1) := by decide +kernel
theorem dX10_init_134 : decode cX10_init 134 = .ok (.iconst 0, 1) := by decide +kernel
theorem dX10_init_135 : decode cX10_init 135 = .ok (.iconst 0, 1) := by decide +kernel
theorem dX10_init_136 : decode cX10_init 136 = .ok (.bipush 98, 2) := by decide +kernel
theorem dX10_init_138 : decode cX10_init 138 = .ok (.bipush 101, 2) := by decide +kernel
theorem dX10_init_140 : decode cX10_init 140 = .ok (.bipush 101, 2) := by decide +kernel
theorem dX10_init_142 : decode cX10_init 142 = .ok (.iconst 0, 1) := by decide +kernel
theorem dX10_init_143 : decode cX10_init 143 = .ok (.invokevirtual 56, 3) := by decide +kernel
theorem dX10_init_146 : decode cX10_init 146 = .ok (.aload_n 0, 1) := by decide +kernel
theorem dX10_init_147 : decode cX10_init 147 = .ok (.iconst 0, 1) := by decide +kernel
theorem dX10_init_148 : decode cX10_init 148 = .ok (.iconst 1, 1) := by decide +kernel
theorem dX10_init_149 : decode cX10_init 149 = .ok (.bipush 108, 2) := by decide +kernel
theorem dX10_init_151 : decode cX10_init 151 = .ok (.bipush 101, 2) := by decide +kernel
theorem dX10_init_153 : decode cX10_init 153 = .ok (.bipush 97, 2) := by decide +kernel
theorem dX10_init_155 : decode cX10_init 155 = .ok (.bipush 102, 2) := by decide +kernel
theorem dX10_init_157 : decode cX10_init 157 = .ok (.invokevirtual 56, 3) := by decide +kernel
theorem dX10_init_160 : decode cX10_init 160 = .ok (.aload_n 0, 1) := by decide +kernel
theorem dX10_init_161 : decode cX10_init 161 = .ok (.iconst 0, 1) := by decide +kernel
theorem dX10_init_162 : decode cX10_init 162 = .ok (.iconst 2, 1) := by decide +kernel
theorem dX10_init_163 : decode cX10_init 163 = .ok (.bipush 101, 2) := by decide +kernel
theorem dX10_init_165 : decode cX10_init 165 = .ok (.bipush 121, 2) := by decide +kernel
theorem dX10_init_167 : decode cX10_init 167 = .ok (.bipush 101, 2) := by decide +kernel
theorem dX10_init_169 : decode cX10_init 169 = .ok (.iconst 0, 1) := by decide +kernel
theorem dX10_init_170 : decode cX10_init 170 = .ok (.invokevirtual 56, 3) := by decide +kernel
theorem dX10_init_173 : decode cX10_init 173 = .ok (.aload_n 0, 1) := by decide +kernel
theorem dX10_init_174 : decode cX10_init 174 = .ok (.iconst 0, 1) := by decide +kernel
theorem dX10_init_175 : decode cX10_init 175 = .ok (.iconst 3, 1) := by decide +kernel
theorem dX10_init_176 : decode cX10_init 176 = .ok (.bipush 99, 2) := by decide +kernel
theorem dX10_init_178 : decode cX10_init 178 = .ok (.bipush 97, 2) := by decide +kernel
theorem dX10_init_180 : decode cX10_init 180 = .ok (.bipush 110, 2) := by decide +kernel
theorem dX10_init_182 : decode cX10_init 182 = .ok (.iconst 0, 1) := by decide +kernel
theorem dX10_init_183 : decode cX10_init 183 = .ok (.invokevirtual 56, 3) := by decide +kernel
theorem dX10_init_186 : decode cX10_init 186 = .ok (.aload_n 0, 1) := by decide +kernel
theorem dX10_init_187 : decode cX10_init 187 = .ok (.iconst 1, 1) := by decide +kernel
theorem dX10_init_188 : decode cX10_init 188 = .ok (.bipush (-4), 2) := by decide +kernel
theorem dX10_init_190 : decode cX10_init 190 = .ok (.bipush 110, 2) := by decide +kernel
theorem dX10_init_192 : decode cX10_init 192 = .ok (.iconst 0, 1) := by decide +kernel
theorem dX10_init_193 : decode cX10_init 193 = .ok (.iconst 0, 1) := by decide +kernel
theorem dX10_init_194 : decode cX10_init 194 = .ok (.iconst 0, 1) := by decide +kernel
theorem dX10_init_195 : decode cX10_init 195 = .ok (.invokevirtual 56, 3) := by decide +kernel
theorem dX10_init_198 : decode cX10_init 198 = .ok (.aload_n 0, 1) := by decide +kernel
theorem dX10_init_199 : decode cX10_init 199 = .ok (.iconst 1, 1) := by decide +kernel
theorem dX10_init_200 : decode cX10_init 200 = .ok (.bipush (-4), 2) := by decide +kernel
theorem dX10_init_202 : decode cX10_init 202 = .ok (.bipush 116, 2) := by decide +kernel
theorem dX10_init_204 : decode cX10_init 204 = .ok (.iconst 0, 1) := by decide +kernel
theorem dX10_init_205 : decode cX10_init 205 = .ok (.iconst 0, 1) := by decide +kernel
theorem dX10_init_206 : decode cX10_init 206 = .ok (.iconst 0, 1) := by decide +kernel
theorem dX10_init_207 : decode cX10_init 207 = .ok (.invokevirtual 56, 3) := by decide +kernel
theorem dX10_init_210 : decode cX10_init 210 = .ok (.aload_n 0, 1) := by decide +kernel
theorem dX10_init_211 : decode cX10_init 211 = .ok (.iconst 1, 1) := by decide +kernel
theorem dX10_init_212 : decode cX10_init 212 = .ok (.bipush (-4), 2) := by decide +kernel
theorem dX10_init_214 : decode cX10_init 214 = .ok (.bipush 98, 2) := by decide +kernel
theorem dX10_init_216 : decode cX10_init 216 = .ok (.iconst 0, 1) := by decide +kernel
theorem dX10_init_217 : decode cX10_init 217 = .ok (.iconst 0, 1) := by decide +kernel
theorem dX10_init_218 : decode cX10_init 218 = .ok (.iconst 0, 1) := by decide +kernel
theorem dX10_init_219 : decode cX10_init 219 = .ok (.invokevirtual 56, 3) := by decide +kernel
theorem dX10_init_222 : decode cX10_init 222 = .ok (.aload_n 0, 1) := by decide +kernel
theorem dX10_init_223 : decode cX10_init 223 = .ok (.iconst 1, 1) := by decide +kernel
theorem dX10_init_224 : decode cX10_init 224 = .ok (.bipush (-4), 2) := by decide +kernel
theorem dX10_init_226 : decode cX10_init 226 = .ok (.bipush 108, 2) := by decide +kernel
theorem dX10_init_228 : decode cX10_init 228 = .ok (.iconst 0, 1) := by decide +kernel
theorem dX10_init_229 : decode cX10_init 229 = .ok (.iconst 0, 1) := by decide +kernel
theorem dX10_init_230 : decode cX10_init 230 = .ok (.iconst 0, 1) := by decide +kernel
theorem dX10_init_231 : decode cX10_init 231 = .ok (.invokevirtual 56, 3) := by decide +kernel
theorem dX10_init_234 : decode cX10_init 234 = .ok (.aload_n 0, 1) := by decide +kernel
theorem dX10_init_235 : decode cX10_init 235 = .ok (.iconst 2, 1) := by decide +kernel
theorem dX10_init_236 : decode cX10_init 236 = .ok (.iconst 4, 1) := by decide +kernel
theorem dX10_init_237 : decode cX10_init 237 = .ok (.iconst 0, 1) := by decide +kernel
theorem dX10_init_238 : decode cX10_init 238 = .ok (.iconst 0, 1) := by decide +kernel
theorem dX10_init_239 : decode cX10_init 239 = .ok (.iconst 0, 1) := by decide +kernel
theorem dX10_init_240 : decode cX10_init 240 = .ok (.iconst 0, 1) := by decide +kernel
theorem dX10_init_241 : decode cX10_init 241 = .ok (.invokevirtual 56, 3) := by decide +kernel
theorem dX10_init_244 : decode cX10_init 244 = .ok (.aload_n 0, 1) := by decide +kernel
theorem dX10_init_245 : decode cX10_init 245 = .ok (.iconst 2, 1) := by decide +kernel
theorem dX10_init_246 : decode cX10_init 246 = .ok (.iconst 1, 1) := by decide +kernel
theorem dX10_init_247 : decode cX10_init 247 = .ok (.iconst 0, 1) := by decide +kernel
theorem dX10_init_248 : decode cX10_init 248 = .ok (.iconst 0, 1) := by decide +kernel
theorem dX10_init_249 : decode cX10_init 249 = .ok (.iconst 0, 1) := by decide +kernel
theorem dX10_init_250 : decode cX10_init 250 = .ok (.iconst 0, 1) := by decide +kernel
theorem dX10_init_251 : decode cX10_init 251 = .ok (.invokevirtual 56, 3) := by decide +kernel
theorem dX10_init_254 : decode cX10_init 254 = .ok (.aload_n 0, 1) := by decide +kernel
theorem dX10_init_255 : decode cX10_init 255 = .ok (.iconst 4, 1) := by decide +kernel
theorem dX10_init_256 : decode cX10_init 256 = .ok (.bipush 98, 2) := by decide +kernel
theorem dX10_init_258 : decode cX10_init 258 = .ok (.bipush 101, 2) := by decide +kernel
theorem dX10_init_260 : decode cX10_init 260 = .ok (.bipush 108, 2) := by decide +kernel
theorem dX10_init_262 : decode cX10_init 262 = .ok (.bipush 101, 2) := by decide +kernel
theorem dX10_init_264 : decode cX10_init 264 = .ok (.bipush 97, 2) := by decide +kernel
theorem dX10_init_266 : decode cX10_init 266 = .ok (.bipush 102, 2) := by decide +kernel
theorem dX10_init_268 : decode cX10_init 268 = .ok (.invokevirtual 60, 3) := by decide +kernel
theorem dX10_init_271 : decode cX10_init 271 = .ok (.aload_n 0, 1) := by decide +kernel
theorem dX10_init_272 : decode cX10_init 272 = .ok (.iconst 1, 1) := by decide +kernel
theorem dX10_init_273 : decode cX10_init 273 = .ok (.bipush 108, 2) := by decide +kernel
theorem dX10_init_275 : decode cX10_init 275 = .ok (.bipush 101, 2) := by decide +kernel
theorem dX10_init_277 : decode cX10_init 277 = .ok (.bipush 97, 2) := by decide +kernel
theorem dX10_init_279 : decode cX10_init 279 = .ok (.bipush 102, 2) := by decide +kernel
theorem dX10_init_281 : decode cX10_init 281 = .ok (.iconst 0, 1) := by decide +kernel
theorem dX10_init_282 : decode cX10_init 282 = .ok (.iconst 0, 1) := by decide +kernel
theorem dX10_init_283 : decode cX10_init 283 = .ok (.invokevirtual 60, 3) := by decide +kernel
theorem dX10_init_286 : decode cX10_init 286 = .ok (.aload_n 0, 1) := by decide +kernel
theorem dX10_init_287 : decode cX10_init 287 = .ok (.iconst 4, 1) := by decide +kernel
theorem dX10_init_288 : decode cX10_init 288 = .ok (.bipush 99, 2) := by decide +kernel
theorem dX10_init_290 : decode cX10_init 290 = .ok (.bipush 97, 2) := by decide +kernel
theorem dX10_init_292 : decode cX10_init 292 = .ok (.bipush 110, 2) := by decide +kernel
theorem dX10_init_294 : decode cX10_init 294 = .ok (.bipush 111, 2) := by decide +kernel
theorem dX10_init_296 : decode cX10_init 296 = .ok (.bipush 101, 2) := by decide +kernel
theorem dX10_init_298 : decode cX10_init 298 = .ok (.iconst 0, 1) := by decide +kernel
theorem dX10_init_299 : decode cX10_init 299 = .ok (.invokevirtual 60, 3) := by decide +kernel
theorem dX10_init_302 : decode cX10_init 302 = .ok (.aload_n 0, 1) := by decide +kernel
theorem dX10_init_303 : decode cX10_init 303 = .ok (.iconst 3, 1) := by decide +kernel
theorem dX10_init_304 : decode cX10_init 304 = .ok (.bipush 99, 2) := by decide +kernel
theorem dX10_init_306 : decode cX10_init 306 = .ok (.bipush 97, 2) := by decide +kernel
theorem dX10_init_308 : decode cX10_init 308 = .ok (.bipush 110, 2) := by decide +kernel
theorem dX10_init_310 : decode cX10_init 310 = .ok (.iconst 0, 1) := by decide +kernel
theorem dX10_init_311 : decode cX10_init 311 = .ok (.iconst 0, 1) := by decide +kernel
theorem dX10_init_312 : decode cX10_init 312 = .ok (.iconst 0, 1) := by decide +kernel
theorem dX10_init_313 : decode cX10_init 313 = .ok (.invokevirtual 60, 3) := by decide +kernel
theorem dX10_init_316 : decode cX10_init 316 = .ok (.aload_n 0, 1) := by decide +kernel
theorem dX10_init_317 : decode cX10_init 317 = .ok (.iconst 5, 1) := by decide +kernel
theorem dX10_init_318 : decode cX10_init 318 = .ok (.bipush 99, 2) := by decide +kernel
theorem dX10_init_320 : decode cX10_init 320 = .ok (.bipush 97, 2) := by decide +kernel
theorem dX10_init_322 : decode cX10_init 322 = .ok (.bipush 110, 2) := by decide +kernel
theorem dX10_init_324 : decode cX10_init 324 = .ok (.bipush 116, 2) := by decide +kernel
theorem dX10_init_326 : decode cX10_init 326 = .ok (.iconst 0, 1) := by decide +kernel
theorem dX10_init_327 : decode cX10_init 327 = .ok (.iconst 0, 1) := by decide +kernel
theorem dX10_init_328 : decode cX10_init 328 = .ok (.invokevirtual 60, 3) := by decide +kernel
theorem dX10_init_331 : decode cX10_init 331 = .ok (.aload_n 0, 1) := by decide +kernel
theorem dX10_init_332 : decode cX10_init 332 = .ok (.iconst 2, 1) := by decide +kernel
theorem dX10_init_333 : decode cX10_init 333 = .ok (.bipush 98, 2) := by decide +kernel
theorem dX10_init_335 : decode cX10_init 335 = .ok (.bipush 101, 2) := by decide +kernel
theorem dX10_init_337 : decode cX10_init 337 = .ok (.bipush 101, 2) := by decide +kernel
theorem dX10_init_339 : decode cX10_init 339 = .ok (.iconst 0, 1) := by decide +kernel
theorem dX10_init_340 : decode cX10_init 340 = .ok (.iconst 0, 1) := by decide +kernel
theorem dX10_init_341 : decode cX10_init 341 = .ok (.iconst 0, 1) := by decide +kernel
theorem dX10_init_342 : decode cX10_init 342 = .ok (.invokevirtual 60, 3) := by decide +kernel
theorem dX10_init_345 : decode cX10_init 345 = .ok (.aload_n 0, 1) := by decide +kernel
theorem dX10_init_346 : decode cX10_init 346 = .ok (.iconst 0, 1) := by decide +kernel
theorem dX10_init_347 : decode cX10_init 347 = .ok (.bipush 98, 2) := by decide +kernel
theorem dX10_init_349 : decode cX10_init 349 = .ok (.bipush 101, 2) := by decide +kernel
theorem dX10_init_351 : decode cX10_init 351 = .ok (.bipush 101, 2) := by decide +kernel
theorem dX10_init_353 : decode cX10_init 353 = .ok (.iconst 0, 1) := by decide +kernel
theorem dX10_init_354 : decode cX10_init 354 = .ok (.iconst 0, 1) := by decide +kernel
theorem dX10_init_355 : decode cX10_init 355 = .ok (.iconst 0, 1) := by decide +kernel
theorem dX10_init_356 : decode cX10_init 356 = .ok (.invokevirtual 60, 3) := by decide +kernel
theorem dX10_init_359 : decode cX10_init 359 = .ok (.aload_n 0, 1) := by decide +kernel
theorem dX10_init_360 : decode cX10_init 360 = .ok (.getfield 13, 3) := by decide +kernel
theorem dX10_init_363 : decode cX10_init 363 = .ok (.sipush 166, 3) := by decide +kernel
theorem dX10_init_366 : decode cX10_init 366 = .ok (.iconst 1, 1) := by decide +kernel
theorem dX10_init_367 : decode cX10_init 367 = .ok (.iastore, 1) := by decide +kernel
theorem dX10_init_368 : decode cX10_init 368 = .ok (.aload_n 0, 1) := by decide +kernel
theorem dX10_init_369 : decode cX10_init 369 = .ok (.invokevirtual 64, 3) := by decide +kernel
theorem dX10_init_372 : decode cX10_init 372 = .ok (.return_, 1) := by decide +kernel
end
section
theorem dX10_sign4_0 : decode cX10_sign4 0 = .ok (.bipush 7, 2) := by decide +kernel
theorem dX10_sign4_2 : decode cX10_sign4 2 = .ok (.aload_n 0, 1) := by decide +kernel
theorem dX10_sign4_3 : decode cX10_sign4 3 = .ok (.getfield 13, 3) := by decide +kernel
theorem dX10_sign4_6 : decode cX10_sign4 6 = .ok (.sipush 164, 3) := by decide +kernel
theorem dX10_sign4_9 : decode cX10_sign4 9 = .ok (.iaload, 1) := by decide +kernel
theorem dX10_sign4_10 : decode cX10_sign4 10 = .ok (.imul, 1) := by decide +kernel
theorem dX10_sign4_11 : decode cX10_sign4 11 = .ok (.istore 7, 2) := by decide +kernel
theorem dX10_sign4_13 : decode cX10_sign4 13 = .ok (.aload_n 0, 1) := by decide +kernel
theorem dX10_sign4_14 : decode cX10_sign4 14 = .ok (.getfield 13, 3) := by decide +kernel
theorem dX10_sign4_17 : decode cX10_sign4 17 = .ok (.iload 7, 2) := by decide +kernel
theorem dX10_sign4_19 : decode cX10_sign4 19 = .ok (.iload_n 1, 1) := by decide +kernel
theorem dX10_sign4_20 : decode cX10_sign4 20 = .ok (.iastore, 1) := by decide +kernel
theorem dX10_sign4_21 : decode cX10_sign4 21 = .ok (.aload_n 0, 1) := by decide +kernel
theorem dX10_sign4_22 : decode cX10_sign4 22 = .ok (.getfield 13, 3) := by decide +kernel
theorem dX10_sign4_25 : decode cX10_sign4 25 = .ok (.iload 7, 2) := by decide +kernel
theorem dX10_sign4_27 : decode cX10_sign4 27 = .ok (.iconst 1, 1) := by decide +kernel
theorem dX10_sign4_28 : decode cX10_sign4 28 = .ok (.iadd, 1) := by decide +kernel
theorem dX10_sign4_29 : decode cX10_sign4 29 = .ok (.iload_n 2, 1) := by decide +kernel
theorem dX10_sign4_30 : decode cX10_sign4 30 = .ok (.iastore, 1) := by decide +kernel
theorem dX10_sign4_31 : decode cX10_sign4 31 = .ok (.aload_n 0, 1) := by decide +kernel
theorem dX10_sign4_32 : decode cX10_sign4 32 = .ok (.getfield 13, 3) := by decide +kernel
theorem dX10_sign4_35 : decode cX10_sign4 35 = .ok (.iload 7, 2) := by decide +kernel
theorem dX10_sign4_37 : decode cX10_sign4 37 = .ok (.iconst 2, 1) := by decide +kernel
theorem dX10_sign4_38 : decode cX10_sign4 38 = .ok (.iadd, 1) := by decide +kernel
theorem dX10_sign4_39 : decode cX10_sign4 39 = .ok (.iload 6, 2) := by decide +kernel
theorem dX10_sign4_41 : decode cX10_sign4 41 = .ok (.ifCond .le 7, 3) := by decide +kernel
theorem dX10_sign4_44 : decode cX10_sign4 44 = .ok (.iconst 4, 1) := by decide +kernel
theorem dX10_sign4_45 : decode cX10_sign4 45 = .ok (.goto 30, 3) := by decide +kernel
theorem dX10_sign4_48 : decode cX10_sign4 48 = .ok (.iload 5, 2) := by decide +kernel
theorem dX10_sign4_50 : decode cX10_sign4 50 = .ok (.ifCond .le 7, 3) := by decide +kernel
theorem dX10_sign4_53 : decode cX10_sign4 53 = .ok (.iconst 3, 1) := by decide +kernel
theorem dX10_sign4_54 : decode cX10_sign4 54 = .ok (.goto 21, 3) := by decide +kernel
theorem dX10_sign4_57 : decode cX10_sign4 57 = .ok (.iload 4, 2) := by decide +kernel
theorem dX10_sign4_59 : decode cX10_sign4 59 = .ok (.ifCond .le 7, 3) := by decide +kernel
theorem dX10_sign4_62 : decode cX10_sign4 62 = .ok (.iconst 2, 1) := by decide +kernel
theorem dX10_sign4_63 : decode cX10_sign4 63 = .ok (.goto 12, 3) := by decide +kernel
theorem dX10_sign4_66 : decode cX10_sign4 66 = .ok (.iload_n 3, 1) := by decide +kernel
theorem dX10_sign4_67 : decode cX10_sign4 67 = .ok (.ifCond .le 7, 3) := by decide +kernel
theorem dX10_sign4_70 : decode cX10_sign4 70 = .ok (.iconst 1, 1) := by decide +kernel
theorem dX10_sign4_71 : decode cX10_sign4 71 = .ok (.goto 4, 3) := by decide +kernel
theorem dX10_sign4_74 : decode cX10_sign4 74 = .ok (.iconst 0, 1) := by decide +kernel
theorem dX10_sign4_75 : decode cX10_sign4 75 = .ok (.iastore, 1) := by decide +kernel
theorem dX10_sign4_76 : decode cX10_sign4 76 = .ok (.aload_n 0, 1) := by decide +kernel
theorem dX10_sign4_77 : decode cX10_sign4 77 = .ok (.getfield 13, 3) := by decide +kernel
theorem dX10_sign4_80 : decode cX10_sign4 80 = .ok (.iload 7, 2) := by decide +kernel
theorem dX10_sign4_82 : decode cX10_sign4 82 = .ok (.iconst 3, 1) := by decide +kernel
theorem dX10_sign4_83 : decode cX10_sign4 83 = .ok (.iadd, 1) := by decide +kernel
theorem dX10_sign4_84 : decode cX10_sign4 84 = .ok (.iload_n 3, 1) := by decide +kernel
theorem dX10_sign4_85 : decode cX10_sign4 85 = .ok (.iastore, 1) := by decide +kernel
theorem dX10_sign4_86 : decode cX10_sign4 86 = .ok (.aload_n 0, 1) := by decide +kernel
theorem dX10_sign4_87 : decode cX10_sign4 87 = .ok (.getfield 13, 3) := by decide +kernel
theorem dX10_sign4_90 : decode cX10_sign4 90 = .ok (.iload 7, 2) := by decide +kernel
theorem dX10_sign4_92 : decode cX10_sign4 92 = .ok (.iconst 4, 1) := by decide +kernel
theorem dX10_sign4_93 : decode cX10_sign4 93 = .ok (.iadd, 1) := by decide +kernel
theorem dX10_sign4_94 : decode cX10_sign4 94 = .ok (.iload 4, 2) := by decide +kernel
theorem dX10_sign4_96 : decode cX10_sign4 96 = .ok (.iastore, 1) := by decide +kernel
theorem dX10_sign4_97 : decode cX10_sign4 97 = .ok (.aload_n 0, 1) := by decide +kernel
theorem dX10_sign4_98 : decode cX10_sign4 98 = .ok (.getfield 13, 3) := by decide +kernel
theorem dX10_sign4_101 : decode cX10_sign4 101 = .ok (.iload 7, 2) := by decide +kernel
theorem dX10_sign4_103 : decode cX10_sign4 103 = .ok (.iconst 5, 1) := by decide +kernel
theorem dX10_sign4_104 : decode cX10_sign4 104 = .ok (.iadd, 1) := by decide +kernel
theorem dX10_sign4_105 : decode cX10_sign4 105 = .ok (.iload 5, 2) := by decide +kernel
theorem dX10_sign4_107 : decode cX10_sign4 107 = .ok (.iastore, 1) := by decide +kernel
theorem dX10_sign4_108 : decode cX10_sign4 108 = .ok (.aload_n 0, 1) := by decide +kernel
theorem dX10_sign4_109 : decode cX10_sign4 109 = .ok (.getfield 13, 3) := by decide +kernel
theorem dX10_sign4_112 : decode cX10_sign4 112 = .ok (.iload 7, 2) := by decide +kernel
theorem dX10_sign4_114 : decode cX10_sign4 114 = .ok (.bipush 6, 2) := by decide +kernel
theorem dX10_sign4_116 : decode cX10_sign4 116 = .ok (.iadd, 1) := by decide +kernel
theorem dX10_sign4_117 : decode cX10_sign4 117 = .ok (.iload 6, 2) := by decide +kernel
theorem dX10_sign4_119 : decode cX10_sign4 119 = .ok (.iastore, 1) := by decide +kernel
theorem dX10_sign4_120 : decode cX10_sign4 120 = .ok (.aload_n 0, 1) := by decide +kernel
theorem dX10_sign4_121 : decode cX10_sign4 121 = .ok (.getfield 13, 3) := by decide +kernel
theorem dX10_sign4_124 : decode cX10_sign4 124 = .ok (.sipush 164, 3) := by decide +kernel
theorem dX10_sign4_127 : decode cX10_sign4 127 = .ok (.dup2, 1) := by decide +kernel
theorem dX10_sign4_128 : decode cX10_sign4 128 = .ok (.iaload, 1) := by decide +kernel
theorem dX10_sign4_129 : decode cX10_sign4 129 = .ok (.iconst 1, 1) := by decide +kernel
theorem dX10_sign4_130 : decode cX10_sign4 130 = .ok (.iadd, 1) := by decide +kernel
theorem dX10_sign4_131 : decode cX10_sign4 131 = .ok (.iastore, 1) := by decide +kernel
theorem dX10_sign4_132 : decode cX10_sign4 132 = .ok (.return_, 1) := by decide +kernel
theorem dX10_word6_0 : decode cX10_word6 0 = .ok (.bipush 84, 2) := by decide +kernel
theorem dX10_word6_2 : decode cX10_word6 2 = .ok (.bipush 10, 2) := by decide +kernel
theorem dX10_word6_4 : decode cX10_word6 4 = .ok (.aload_n 0, 1) := by decide +kernel
theorem dX10_word6_5 : decode cX10_word6 5 = .ok (.getfield 13, 3) := by decide +kernel
theorem dX10_word6_8 : decode cX10_word6 8 = .ok (.sipush 165, 3) := by decide +kernel
theorem dX10_word6_11 : decode cX10_word6 11 = .ok (.iaload, 1) := by decide +kernel
theorem dX10_word6_12 : decode cX10_word6 12 = .ok (.imul, 1) := by decide +kernel
theorem dX10_word6_13 : decode cX10_word6 13 = .ok (.iadd, 1) := by decide +kernel
theorem dX10_word6_14 : decode cX10_word6 14 = .ok (.istore 8, 2) := by decide +kernel
theorem dX10_word6_16 : decode cX10_word6 16 = .ok (.aload_n 0, 1) := by decide +kernel
theorem dX10_word6_17 : decode cX10_word6 17 = .ok (.getfield 13, 3) := by decide +kernel
theorem dX10_word6_20 : decode cX10_word6 20 = .ok (.iload 8, 2) := by decide +kernel
theorem dX10_word6_22 : decode cX10_word6 22 = .ok (.iload_n 1, 1) := by decide +kernel
theorem dX10_word6_23 : decode cX10_word6 23 = .ok (.iastore, 1) := by decide +kernel
theorem dX10_word6_24 : decode cX10_word6 24 = .ok (.aload_n 0, 1) := by decide +kernel
theorem dX10_word6_25 : decode cX10_word6 25 = .ok (.getfield 13, 3) := by decide +kernel
theorem dX10_word6_28 : decode cX10_word6 28 = .ok (.iload 8, 2) := by decide +kernel
theorem dX10_word6_30 : decode cX10_word6 30 = .ok (.iconst 1, 1) := by decide +kernel
theorem dX10_word6_31 : decode cX10_word6 31 = .ok (.iadd, 1) := by decide +kernel
theorem dX10_word6_32 : decode cX10_word6 32 = .ok (.iload 7, 2) := by decide +kernel
theorem dX10_word6_34 : decode cX10_word6 34 = .ok (.ifCond .le 8, 3) := by decide +kernel
theorem dX10_word6_37 : decode cX10_word6 37 = .ok (.bipush 6, 2) := by decide +kernel
theorem dX10_word6_39 : decode cX10_word6 39 = .ok (.goto 22, 3) := by decide +kernel
theorem dX10_word6_42 : decode cX10_word6 42 = .ok (.iload 6, 2) := by decide +kernel
theorem dX10_word6_44 : decode cX10_word6 44 = .ok (.ifCond .le 7, 3) := by decide +kernel
theorem dX10_word6_47 : decode cX10_word6 47 = .ok (.iconst 5, 1) := by decide +kernel
theorem dX10_word6_48 : decode cX10_word6 48 = .ok (.goto 13, 3) := by decide +kernel
theorem dX10_word6_51 : decode cX10_word6 51 = .ok (.iload 5, 2) := by decide +kernel
theorem dX10_word6_53 : decode cX10_word6 53 = .ok (.ifCond .le 7, 3) := by decide +kernel
theorem dX10_word6_56 : decode cX10_word6 56 = .ok (.iconst 4, 1) := by decide +kernel
theorem dX10_word6_57 : decode cX10_word6 57 = .ok (.goto 4, 3) := by decide +kernel
theorem dX10_word6_60 : decode cX10_word6 60 = .ok (.iconst 3, 1) := by decide +kernel
theorem dX10_word6_61 : decode cX10_word6 61 = .ok (.iastore, 1) := by decide +kernel
theorem dX10_word6_62 : decode cX10_word6 62 = .ok (.aload_n 0, 1) := by decide +kernel
theorem dX10_word6_63 : decode cX10_word6 63 = .ok (.getfield 13, 3) := by decide +kernel
theorem dX10_word6_66 : decode cX10_word6 66 = .ok (.iload 8, 2) := by decide +kernel
theorem dX10_word6_68 : decode cX10_word6 68 = .ok (.iconst 2, 1) := by decide +kernel
theorem dX10_word6_69 : decode cX10_word6 69 = .ok (.iadd, 1) := by decide +kernel
theorem dX10_word6_70 : decode cX10_word6 70 = .ok (.iload_n 2, 1) := by decide +kernel
theorem dX10_word6_71 : decode cX10_word6 71 = .ok (.iastore, 1) := by decide +kernel
theorem dX10_word6_72 : decode cX10_word6 72 = .ok (.aload_n 0, 1) := by decide +kernel
theorem dX10_word6_73 : decode cX10_word6 73 = .ok (.getfield 13, 3) := by decide +kernel
theorem dX10_word6_76 : decode cX10_word6 76 = .ok (.iload 8, 2) := by decide +kernel
theorem dX10_word6_78 : decode cX10_word6 78 = .ok (.iconst 3, 1) := by decide +kernel
theorem dX10_word6_79 : decode cX10_word6 79 = .ok (.iadd, 1) := by decide +kernel
theorem dX10_word6_80 : decode cX10_word6 80 = .ok (.iload_n 3, 1) := by decide +kernel
theorem dX10_word6_81 : decode cX10_word6 81 = .ok (.iastore, 1) := by decide +kernel
theorem dX10_word6_82 : decode cX10_word6 82 = .ok (.aload_n 0, 1) := by decide +kernel
theorem dX10_word6_83 : decode cX10_word6 83 = .ok (.getfield 13, 3) := by decide +kernel
theorem dX10_word6_86 : decode cX10_word6 86 = .ok (.iload 8, 2) := by decide +kernel
theorem dX10_word6_88 : decode cX10_word6 88 = .ok (.iconst 4, 1) := by decide +kernel
theorem dX10_word6_89 : decode cX10_word6 89 = .ok (.iadd, 1) := by decide +kernel
theorem dX10_word6_90 : decode cX10_word6 90 = .ok (.iload 4, 2) := by decide +kernel
theorem dX10_word6_92 : decode cX10_word6 92 = .ok (.iastore, 1) := by decide +kernel
theorem dX10_word6_93 : decode cX10_word6 93 = .ok (.aload_n 0, 1) := by decide +kernel
theorem dX10_word6_94 : decode cX10_word6 94 = .ok (.getfield 13, 3) := by decide +kernel
theorem dX10_word6_97 : decode cX10_word6 97 = .ok (.iload 8, 2) := by decide +kernel
theorem dX10_word6_99 : decode cX10_word6 99 = .ok (.iconst 5, 1) := by decide +kernel
theorem dX10_word6_100 : decode cX10_word6 100 = .ok (.iadd, 1) := by decide +kernel
theorem dX10_word6_101 : decode cX10_word6 101 = .ok (.iload 5, 2) := by decide +kernel
theorem dX10_word6_103 : decode cX10_word6 103 = .ok (.iastore, 1) := by decide +kernel
theorem dX10_word6_104 : decode cX10_word6 104 = .ok (.aload_n 0, 1) := by decide +kernel
theorem dX10_word6_105 : decode cX10_word6 105 = .ok (.getfield 13, 3) := by decide +kernel
theorem dX10_word6_108 : decode cX10_word6 108 = .ok (.iload 8, 2) := by decide +kernel
theorem dX10_word6_110 : decode cX10_word6 110 = .ok (.bipush 6, 2) := by decide +kernel
theorem dX10_word6_112 : decode cX10_word6 112 = .ok (.iadd, 1) := by decide +kernel
theorem dX10_word6_113 : decode cX10_word6 113 = .ok (.iload 6, 2) := by decide +kernel
theorem dX10_word6_115 : decode cX10_word6 115 = .ok (.iastore, 1) := by decide +kernel
theorem dX10_word6_116 : decode cX10_word6 116 = .ok (.aload_n 0, 1) := by decide +kernel
theorem dX10_word6_117 : decode cX10_word6 117 = .ok (.getfield 13, 3) := by decide +kernel
theorem dX10_word6_120 : decode cX10_word6 120 = .ok (.iload 8, 2) := by decide +kernel
theorem dX10_word6_122 : decode cX10_word6 122 = .ok (.bipush 7, 2) := by decide +kernel
theorem dX10_word6_124 : decode cX10_word6 124 = .ok (.iadd, 1) := by decide +kernel
theorem dX10_word6_125 : decode cX10_word6 125 = .ok (.iload 7, 2) := by decide +kernel
theorem dX10_word6_127 : decode cX10_word6 127 = .ok (.iastore, 1) := by decide +kernel
theorem dX10_word6_128 : decode cX10_word6 128 = .ok (.aload_n 0, 1) := by decide +kernel
theorem dX10_word6_129 : decode cX10_word6 129 = .ok (.getfield 13, 3) := by decide +kernel
theorem dX10_word6_132 : decode cX10_word6 132 = .ok (.sipush 165, 3) := by decide +kernel
theorem dX10_word6_135 : decode cX10_word6 135 = .ok (.dup2, 1) := by decide +kernel
theorem dX10_word6_136 : decode cX10_word6 136 = .ok (.iaload, 1) := by decide +kernel
theorem dX10_word6_137 : decode cX10_word6 137 = .ok (.iconst 1, 1) := by decide +kernel
theorem dX10_word6_138 : decode cX10_word6 138 = .ok (.iadd, 1) := by decide +kernel
theorem dX10_word6_139 : decode cX10_word6 139 = .ok (.iastore, 1) := by decide +kernel
theorem dX10_word6_140 : decode cX10_word6 140 = .ok (.return_, 1) := by decide +kernel
theorem dX10_anew_0 : decode cX10_anew 0 = .ok (.iconst 0, 1) := by decide +kernel
theorem dX10_anew_1 : decode cX10_anew 1 = .ok (.istore_n 1, 1) := by decide +kernel
theorem dX10_anew_2 : decode cX10_anew 2 = .ok (.iload_n 1, 1) := by decide +kernel
theorem dX10_anew_3 : decode cX10_anew 3 = .ok (.bipush 19, 2) := by decide +kernel
theorem dX10_anew_5 : decode cX10_anew 5 = .ok (.if_icmp .ge 16, 3) := by decide +kernel
theorem dX10_anew_8 : decode cX10_anew 8 = .ok (.aload_n 0, 1) := by decide +kernel
theorem dX10_anew_9 : decode cX10_anew 9 = .ok (.getfield 19, 3) := by decide +kernel
theorem dX10_anew_12 : decode cX10_anew 12 = .ok (.iload_n 1, 1) := by decide +kernel
theorem dX10_anew_13 : decode cX10_anew 13 = .ok (.iconst 0, 1) := by decide +kernel
theorem dX10_anew_14 : decode cX10_anew 14 = .ok (.iastore, 1) := by decide +kernel
theorem dX10_anew_15 : decode cX10_anew 15 = .ok (.iinc 1 1, 3) := by decide +kernel
theorem dX10_anew_18 : decode cX10_anew 18 = .ok (.goto (-16), 3) := by decide +kernel
theorem dX10_anew_21 : decode cX10_anew 21 = .ok (.aload_n 0, 1) := by decide +kernel
theorem dX10_anew_22 : decode cX10_anew 22 = .ok (.getfield 19, 3) := by decide +kernel
theorem dX10_anew_25 : decode cX10_anew 25 = .ok (.iconst 0, 1) := by decide +kernel
theorem dX10_anew_26 : decode cX10_anew 26 = .ok (.aload_n 0, 1) := by decide +kernel
theorem dX10_anew_27 : decode cX10_anew 27 = .ok (.getfield 13, 3) := by decide +kernel
theorem dX10_anew_30 : decode cX10_anew 30 = .ok (.sipush 166, 3) := by decide +kernel
theorem dX10_anew_33 : decode cX10_anew 33 = .ok (.iaload, 1) := by decide +kernel
theorem dX10_anew_34 : decode cX10_anew 34 = .ok (.iastore, 1) := by decide +kernel
theorem dX10_anew_35 : decode cX10_anew 35 = .ok (.aload_n 0, 1) := by decide +kernel
theorem dX10_anew_36 : decode cX10_anew 36 = .ok (.iconst 0, 1) := by decide +kernel
theorem dX10_anew_37 : decode cX10_anew 37 = .ok (.putfield 67, 3) := by decide +kernel
theorem dX10_anew_40 : decode cX10_anew 40 = .ok (.return_, 1) := by decide +kernel
theorem dX10_in_0 : decode cX10_in 0 = .ok (.lload_n 0, 1) := by decide +kernel
theorem dX10_in_1 : decode cX10_in 1 = .ok (.lload_n 2, 1) := by decide +kernel
theorem dX10_in_2 : decode cX10_in 2 = .ok (.lcmp, 1) := by decide +kernel
theorem dX10_in_3 : decode cX10_in 3 = .ok (.ifCond .lt 14, 3) := by decide +kernel
theorem dX10_in_6 : decode cX10_in 6 = .ok (.lload_n 0, 1) := by decide +kernel
theorem dX10_in_7 : decode cX10_in 7 = .ok (.lload 4, 2) := by decide +kernel
theorem dX10_in_9 : decode cX10_in 9 = .ok (.lcmp, 1) := by decide +kernel
theorem dX10_in_10 : decode cX10_in 10 = .ok (.ifCond .gt 7, 3) := by decide +kernel
theorem dX10_in_13 : decode cX10_in 13 = .ok (.iconst 1, 1) := by decide +kernel
theorem dX10_in_14 : decode cX10_in 14 = .ok (.goto 4, 3) := by decide +kernel
theorem dX10_in_17 : decode cX10_in 17 = .ok (.iconst 0, 1) := by decide +kernel
theorem dX10_in_18 : decode cX10_in 18 = .ok (.ireturn, 1) := by decide +kernel
theorem dX10_write_0 : decode cX10_write 0 = .ok (.iload_n 1, 1) := by decide +kernel
theorem dX10_write_1 : decode cX10_write 1 = .ok (.i2l, 1) := by decide +kernel
theorem dX10_write_2 : decode cX10_write 2 = .ok (.ldc2_w 71, 3) := by decide +kernel
theorem dX10_write_5 : decode cX10_write 5 = .ok (.ldc2_w 73, 3) := by decide +kernel
theorem dX10_write_8 : decode cX10_write 8 = .ok (.invokestatic 75, 3) := by decide +kernel
theorem dX10_write_11 : decode cX10_write 11 = .ok (.ifCond .ne 5, 3) := by decide +kernel
theorem dX10_write_14 : decode cX10_write 14 = .ok (.iconst (-1), 1) := by decide +kernel
theorem dX10_write_15 : decode cX10_write 15 = .ok (.ireturn, 1) := by decide +kernel
theorem dX10_write_16 : decode cX10_write 16 = .ok (.aload_n 0, 1) := by decide +kernel
theorem dX10_write_17 : decode cX10_write 17 = .ok (.getfield 79, 3) := by decide +kernel
theorem dX10_write_20 : decode cX10_write 20 = .ok (.sipush 200, 3) := by decide +kernel
theorem dX10_write_23 : decode cX10_write 23 = .ok (.if_icmp .ne 6, 3) := by decide +kernel
theorem dX10_write_26 : decode cX10_write 26 = .ok (.bipush (-3), 2) := by decide +kernel
theorem dX10_write_28 : decode cX10_write 28 = .ok (.ireturn, 1) := by decide +kernel
theorem dX10_write_29 : decode cX10_write 29 = .ok (.aload_n 0, 1) := by decide +kernel
theorem dX10_write_30 : decode cX10_write 30 = .ok (.getfield 7, 3) := by decide +kernel
theorem dX10_write_33 : decode cX10_write 33 = .ok (.aload_n 0, 1) := by decide +kernel
theorem dX10_write_34 : decode cX10_write 34 = .ok (.getfield 79, 3) := by decide +kernel
theorem dX10_write_37 : decode cX10_write 37 = .ok (.iload_n 1, 1) := by decide +kernel
theorem dX10_write_38 : decode cX10_write 38 = .ok (.iastore, 1) := by decide +kernel
theorem dX10_write_39 : decode cX10_write 39 = .ok (.aload_n 0, 1) := by decide +kernel
theorem dX10_write_40 : decode cX10_write 40 = .ok (.dup, 1) := by decide +kernel
theorem dX10_write_41 : decode cX10_write 41 = .ok (.getfield 79, 3) := by decide +kernel
theorem dX10_write_44 : decode cX10_write 44 = .ok (.iconst 1, 1) := by decide +kernel
theorem dX10_write_45 : decode cX10_write 45 = .ok (.iadd, 1) := by decide +kernel
theorem dX10_write_46 : decode cX10_write 46 = .ok (.putfield 79, 3) := by decide +kernel
theorem dX10_write_49 : decode cX10_write 49 = .ok (.aload_n 0, 1) := by decide +kernel
theorem dX10_write_50 : decode cX10_write 50 = .ok (.getfield 79, 3) := by decide +kernel
theorem dX10_write_53 : decode cX10_write 53 = .ok (.ireturn, 1) := by decide +kernel
theorem dX10_wipe_0 : decode cX10_wipe 0 = .ok (.aload_n 0, 1) := by decide +kernel
theorem dX10_wipe_1 : decode cX10_wipe 1 = .ok (.getfield 79, 3) := by decide +kernel
theorem dX10_wipe_4 : decode cX10_wipe 4 = .ok (.istore_n 1, 1) := by decide +kernel
theorem dX10_wipe_5 : decode cX10_wipe 5 = .ok (.aload_n 0, 1) := by decide +kernel
theorem dX10_wipe_6 : decode cX10_wipe 6 = .ok (.iconst 0, 1) := by decide +kernel
theorem dX10_wipe_7 : decode cX10_wipe 7 = .ok (.putfield 79, 3) := by decide +kernel
theorem dX10_wipe_10 : decode cX10_wipe 10 = .ok (.iload_n 1, 1) := by decide +kernel
theorem dX10_wipe_11 : decode cX10_wipe 11 = .ok (.ireturn, 1) := by decide +kernel
theorem dX10_byteAt_0 : decode cX10_byteAt 0 = .ok (.iload_n 1, 1) := by decide +kernel
theorem dX10_byteAt_1 : decode cX10_byteAt 1 = .ok (.aload_n 0, 1) := by decide +kernel
theorem dX10_byteAt_2 : decode cX10_byteAt 2 = .ok (.getfield 79, 3) := by decide +kernel
theorem dX10_byteAt_5 : decode cX10_byteAt 5 = .ok (.if_icmp .ge 12, 3) := by decide +kernel
theorem dX10_byteAt_8 : decode cX10_byteAt 8 = .ok (.aload_n 0, 1) := by decide +kernel
theorem dX10_byteAt_9 : decode cX10_byteAt 9 = .ok (.getfield 7, 3) := by decide +kernel
theorem dX10_byteAt_12 : decode cX10_byteAt 12 = .ok (.iload_n 1, 1) := by decide +kernel
theorem dX10_byteAt_13 : decode cX10_byteAt 13 = .ok (.iaload, 1) := by decide +kernel
theorem dX10_byteAt_14 : decode cX10_byteAt 14 = .ok (.goto 4, 3) := by decide +kernel
theorem dX10_byteAt_17 : decode cX10_byteAt 17 = .ok (.iconst 0, 1) := by decide +kernel
theorem dX10_byteAt_18 : decode cX10_byteAt 18 = .ok (.ireturn, 1) := by decide +kernel
theorem dX10_figure_0 : decode cX10_figure 0 = .ok (.aload_n 0, 1) := by decide +kernel
theorem dX10_figure_1 : decode cX10_figure 1 = .ok (.aload_n 0, 1) := by decide +kernel
theorem dX10_figure_2 : decode cX10_figure 2 = .ok (.getfield 82, 3) := by decide +kernel
theorem dX10_figure_5 : decode cX10_figure 5 = .ok (.invokevirtual 85, 3) := by decide +kernel
theorem dX10_figure_8 : decode cX10_figure 8 = .ok (.bipush 48, 2) := by decide +kernel
theorem dX10_figure_10 : decode cX10_figure 10 = .ok (.isub, 1) := by decide +kernel
theorem dX10_figure_11 : decode cX10_figure 11 = .ok (.istore_n 3, 1) := by decide +kernel
theorem dX10_figure_12 : decode cX10_figure 12 = .ok (.aload_n 0, 1) := by decide +kernel
theorem dX10_figure_13 : decode cX10_figure 13 = .ok (.getfield 16, 3) := by decide +kernel
theorem dX10_figure_16 : decode cX10_figure 16 = .ok (.iload_n 1, 1) := by decide +kernel
theorem dX10_figure_17 : decode cX10_figure 17 = .ok (.iload_n 3, 1) := by decide +kernel
theorem dX10_figure_18 : decode cX10_figure 18 = .ok (.iastore, 1) := by decide +kernel
theorem dX10_figure_19 : decode cX10_figure 19 = .ok (.aload_n 0, 1) := by decide +kernel
theorem dX10_figure_20 : decode cX10_figure 20 = .ok (.dup, 1) := by decide +kernel
theorem dX10_figure_21 : decode cX10_figure 21 = .ok (.getfield 82, 3) := by decide +kernel
theorem dX10_figure_24 : decode cX10_figure 24 = .ok (.iconst 1, 1) := by decide +kernel
theorem dX10_figure_25 : decode cX10_figure 25 = .ok (.iadd, 1) := by decide +kernel
theorem dX10_figure_26 : decode cX10_figure 26 = .ok (.putfield 82, 3) := by decide +kernel
theorem dX10_figure_29 : decode cX10_figure 29 = .ok (.iload_n 3, 1) := by decide +kernel
theorem dX10_figure_30 : decode cX10_figure 30 = .ok (.i2l, 1) := by decide +kernel
theorem dX10_figure_31 : decode cX10_figure 31 = .ok (.lconst 0, 1) := by decide +kernel
theorem dX10_figure_32 : decode cX10_figure 32 = .ok (.iload_n 2, 1) := by decide +kernel
theorem dX10_figure_33 : decode cX10_figure 33 = .ok (.i2l, 1) := by decide +kernel
theorem dX10_figure_34 : decode cX10_figure 34 = .ok (.invokestatic 75, 3) := by decide +kernel
theorem dX10_figure_37 : decode cX10_figure 37 = .ok (.ireturn, 1) := by decide +kernel
theorem dX10_gone_0 : decode cX10_gone 0 = .ok (.aload_n 0, 1) := by decide +kernel
theorem dX10_gone_1 : decode cX10_gone 1 = .ok (.aload_n 0, 1) := by decide +kernel
theorem dX10_gone_2 : decode cX10_gone 2 = .ok (.getfield 82, 3) := by decide +kernel
theorem dX10_gone_5 : decode cX10_gone 5 = .ok (.invokevirtual 85, 3) := by decide +kernel
theorem dX10_gone_8 : decode cX10_gone 8 = .ok (.iload_n 1, 1) := by decide +kernel
theorem dX10_gone_9 : decode cX10_gone 9 = .ok (.if_icmp .ne 7, 3) := by decide +kernel
theorem dX10_gone_12 : decode cX10_gone 12 = .ok (.iconst 1, 1) := by decide +kernel
theorem dX10_gone_13 : decode cX10_gone 13 = .ok (.goto 4, 3) := by decide +kernel
theorem dX10_gone_16 : decode cX10_gone 16 = .ok (.iconst 0, 1) := by decide +kernel
theorem dX10_gone_17 : decode cX10_gone 17 = .ok (.istore_n 2, 1) := by decide +kernel
theorem dX10_gone_18 : decode cX10_gone 18 = .ok (.aload_n 0, 1) := by decide +kernel
theorem dX10_gone_19 : decode cX10_gone 19 = .ok (.dup, 1) := by decide +kernel
theorem dX10_gone_20 : decode cX10_gone 20 = .ok (.getfield 82, 3) := by decide +kernel
theorem dX10_gone_23 : decode cX10_gone 23 = .ok (.iconst 1, 1) := by decide +kernel
theorem dX10_gone_24 : decode cX10_gone 24 = .ok (.iadd, 1) := by decide +kernel
theorem dX10_gone_25 : decode cX10_gone 25 = .ok (.putfield 82, 3) := by decide +kernel
theorem dX10_gone_28 : decode cX10_gone 28 = .ok (.iload_n 2, 1) := by decide +kernel
theorem dX10_gone_29 : decode cX10_gone 29 = .ok (.ireturn, 1) := by decide +kernel
theorem dX10_letters_0 : decode cX10_letters 0 = .ok (.iconst 0, 1) := by decide +kernel
theorem dX10_letters_1 : decode cX10_letters 1 = .ok (.istore_n 3, 1) := by decide +kernel
theorem dX10_letters_2 : decode cX10_letters 2 = .ok (.iload_n 3, 1) := by decide +kernel
theorem dX10_letters_3 : decode cX10_letters 3 = .ok (.iload_n 2, 1) := by decide +kernel
theorem dX10_letters_4 : decode cX10_letters 4 = .ok (.if_icmp .ge 58, 3) := by decide +kernel
theorem dX10_letters_7 : decode cX10_letters 7 = .ok (.aload_n 0, 1) := by decide +kernel
theorem dX10_letters_8 : decode cX10_letters 8 = .ok (.aload_n 0, 1) := by decide +kernel
theorem dX10_letters_9 : decode cX10_letters 9 = .ok (.getfield 82, 3) := by decide +kernel
theorem dX10_letters_12 : decode cX10_letters 12 = .ok (.invokevirtual 85, 3) := by decide +kernel
theorem dX10_letters_15 : decode cX10_letters 15 = .ok (.i2l, 1) := by decide +kernel
theorem dX10_letters_16 : decode cX10_letters 16 = .ok (.ldc2_w 89, 3) := by decide +kernel
theorem dX10_letters_19 : decode cX10_letters 19 = .ok (.ldc2_w 91, 3) := by decide +kernel
theorem dX10_letters_22 : decode cX10_letters 22 = .ok (.invokestatic 75, 3) := by decide +kernel
theorem dX10_letters_25 : decode cX10_letters 25 = .ok (.ifCond .eq 37, 3) := by decide +kernel
theorem dX10_letters_28 : decode cX10_letters 28 = .ok (.aload_n 0, 1) := by decide +kernel
theorem dX10_letters_29 : decode cX10_letters 29 = .ok (.getfield 16, 3) := by decide +kernel
theorem dX10_letters_32 : decode cX10_letters 32 = .ok (.iload_n 1, 1) := by decide +kernel
theorem dX10_letters_33 : decode cX10_letters 33 = .ok (.iconst 1, 1) := by decide +kernel
theorem dX10_letters_34 : decode cX10_letters 34 = .ok (.iadd, 1) := by decide +kernel
theorem dX10_letters_35 : decode cX10_letters 35 = .ok (.iload_n 3, 1) := by decide +kernel
theorem dX10_letters_36 : decode cX10_letters 36 = .ok (.iadd, 1) := by decide +kernel
theorem dX10_letters_37 : decode cX10_letters 37 = .ok (.aload_n 0, 1) := by decide +kernel
theorem dX10_letters_38 : decode cX10_letters 38 = .ok (.aload_n 0, 1) := by decide +kernel
theorem dX10_letters_39 : decode cX10_letters 39 = .ok (.getfield 82, 3) := by decide +kernel
theorem dX10_letters_42 : decode cX10_letters 42 = .ok (.invokevirtual 85, 3) := by decide +kernel
theorem dX10_letters_45 : decode cX10_letters 45 = .ok (.iastore, 1) := by decide +kernel
theorem dX10_letters_46 : decode cX10_letters 46 = .ok (.aload_n 0, 1) := by decide +kernel
theorem dX10_letters_47 : decode cX10_letters 47 = .ok (.dup, 1) := by decide +kernel
theorem dX10_letters_48 : decode cX10_letters 48 = .ok (.getfield 82, 3) := by decide +kernel
theorem dX10_letters_51 : decode cX10_letters 51 = .ok (.iconst 1, 1) := by decide +kernel
theorem dX10_letters_52 : decode cX10_letters 52 = .ok (.iadd, 1) := by decide +kernel
theorem dX10_letters_53 : decode cX10_letters 53 = .ok (.putfield 82, 3) := by decide +kernel
theorem dX10_letters_56 : decode cX10_letters 56 = .ok (.iinc 3 1, 3) := by decide +kernel
theorem dX10_letters_59 : decode cX10_letters 59 = .ok (.goto (-57), 3) := by decide +kernel
theorem dX10_letters_62 : decode cX10_letters 62 = .ok (.aload_n 0, 1) := by decide +kernel
theorem dX10_letters_63 : decode cX10_letters 63 = .ok (.getfield 16, 3) := by decide +kernel
theorem dX10_letters_66 : decode cX10_letters 66 = .ok (.iload_n 1, 1) := by decide +kernel
theorem dX10_letters_67 : decode cX10_letters 67 = .ok (.iload_n 3, 1) := by decide +kernel
theorem dX10_letters_68 : decode cX10_letters 68 = .ok (.iastore, 1) := by decide +kernel
theorem dX10_letters_69 : decode cX10_letters 69 = .ok (.iload_n 3, 1) := by decide +kernel
theorem dX10_letters_70 : decode cX10_letters 70 = .ok (.ifCond .le 7, 3) := by decide +kernel
theorem dX10_letters_73 : decode cX10_letters 73 = .ok (.iconst 1, 1) := by decide +kernel
theorem dX10_letters_74 : decode cX10_letters 74 = .ok (.goto 4, 3) := by decide +kernel
theorem dX10_letters_77 : decode cX10_letters 77 = .ok (.iconst 0, 1) := by decide +kernel
theorem dX10_letters_78 : decode cX10_letters 78 = .ok (.ireturn, 1) := by decide +kernel
theorem dX10_wordItem_0 : decode cX10_wordItem 0 = .ok (.aload_n 0, 1) := by decide +kernel
theorem dX10_wordItem_1 : decode cX10_wordItem 1 = .ok (.getfield 16, 3) := by decide +kernel
theorem dX10_wordItem_4 : decode cX10_wordItem 4 = .ok (.sipush 165, 3) := by decide +kernel
theorem dX10_wordItem_7 : decode cX10_wordItem 7 = .ok (.iaload, 1) := by decide +kernel
theorem dX10_wordItem_8 : decode cX10_wordItem 8 = .ok (.istore_n 1, 1) := by decide +kernel
theorem dX10_wordItem_9 : decode cX10_wordItem 9 = .ok (.bipush 84, 2) := by decide +kernel
theorem dX10_wordItem_11 : decode cX10_wordItem 11 = .ok (.bipush 10, 2) := by decide +kernel
theorem dX10_wordItem_13 : decode cX10_wordItem 13 = .ok (.iload_n 1, 1) := by decide +kernel
theorem dX10_wordItem_14 : decode cX10_wordItem 14 = .ok (.imul, 1) := by decide +kernel
theorem dX10_wordItem_15 : decode cX10_wordItem 15 = .ok (.iadd, 1) := by decide +kernel
theorem dX10_wordItem_16 : decode cX10_wordItem 16 = .ok (.istore_n 2, 1) := by decide +kernel
theorem dX10_wordItem_17 : decode cX10_wordItem 17 = .ok (.iload_n 1, 1) := by decide +kernel
theorem dX10_wordItem_18 : decode cX10_wordItem 18 = .ok (.bipush 8, 2) := by decide +kernel
theorem dX10_wordItem_20 : decode cX10_wordItem 20 = .ok (.if_icmp .ne 5, 3) := by decide +kernel
theorem dX10_wordItem_23 : decode cX10_wordItem 23 = .ok (.iconst 0, 1) := by decide +kernel
theorem dX10_wordItem_24 : decode cX10_wordItem 24 = .ok (.ireturn, 1) := by decide +kernel
theorem dX10_wordItem_25 : decode cX10_wordItem 25 = .ok (.aload_n 0, 1) := by decide +kernel
theorem dX10_wordItem_26 : decode cX10_wordItem 26 = .ok (.getfield 16, 3) := by decide +kernel
theorem dX10_wordItem_29 : decode cX10_wordItem 29 = .ok (.sipush 165, 3) := by decide +kernel
theorem dX10_wordItem_32 : decode cX10_wordItem 32 = .ok (.dup2, 1) := by decide +kernel
theorem dX10_wordItem_33 : decode cX10_wordItem 33 = .ok (.iaload, 1) := by decide +kernel
theorem dX10_wordItem_34 : decode cX10_wordItem 34 = .ok (.iconst 1, 1) := by decide +kernel
theorem dX10_wordItem_35 : decode cX10_wordItem 35 = .ok (.iadd, 1) := by decide +kernel
theorem dX10_wordItem_36 : decode cX10_wordItem 36 = .ok (.iastore, 1) := by decide +kernel
theorem dX10_wordItem_37 : decode cX10_wordItem 37 = .ok (.aload_n 0, 1) := by decide +kernel
theorem dX10_wordItem_38 : decode cX10_wordItem 38 = .ok (.iload_n 2, 1) := by decide +kernel
theorem dX10_wordItem_39 : decode cX10_wordItem 39 = .ok (.iconst 5, 1) := by decide +kernel
theorem dX10_wordItem_40 : decode cX10_wordItem 40 = .ok (.invokevirtual 93, 3) := by decide +kernel
theorem dX10_wordItem_43 : decode cX10_wordItem 43 = .ok (.ifCond .eq 24, 3) := by decide +kernel
theorem dX10_wordItem_46 : decode cX10_wordItem 46 = .ok (.aload_n 0, 1) := by decide +kernel
theorem dX10_wordItem_47 : decode cX10_wordItem 47 = .ok (.bipush 44, 2) := by decide +kernel
theorem dX10_wordItem_49 : decode cX10_wordItem 49 = .ok (.invokevirtual 97, 3) := by decide +kernel
theorem dX10_wordItem_52 : decode cX10_wordItem 52 = .ok (.ifCond .eq 15, 3) := by decide +kernel
theorem dX10_wordItem_55 : decode cX10_wordItem 55 = .ok (.aload_n 0, 1) := by decide +kernel
theorem dX10_wordItem_56 : decode cX10_wordItem 56 = .ok (.iload_n 2, 1) := by decide +kernel
theorem dX10_wordItem_57 : decode cX10_wordItem 57 = .ok (.iconst 1, 1) := by decide +kernel
theorem dX10_wordItem_58 : decode cX10_wordItem 58 = .ok (.iadd, 1) := by decide +kernel
theorem dX10_wordItem_59 : decode cX10_wordItem 59 = .ok (.bipush 8, 2) := by decide +kernel
theorem dX10_wordItem_61 : decode cX10_wordItem 61 = .ok (.invokevirtual 101, 3) := by decide +kernel
theorem dX10_wordItem_64 : decode cX10_wordItem 64 = .ok (.ifCond .ne 5, 3) := by decide +kernel
theorem dX10_wordItem_67 : decode cX10_wordItem 67 = .ok (.iconst 0, 1) := by decide +kernel
theorem dX10_wordItem_68 : decode cX10_wordItem 68 = .ok (.ireturn, 1) := by decide +kernel
theorem dX10_wordItem_69 : decode cX10_wordItem 69 = .ok (.iconst 0, 1) := by decide +kernel
theorem dX10_wordItem_70 : decode cX10_wordItem 70 = .ok (.istore_n 3, 1) := by decide +kernel
theorem dX10_wordItem_71 : decode cX10_wordItem 71 = .ok (.iload_n 3, 1) := by decide +kernel
theorem dX10_wordItem_72 : decode cX10_wordItem 72 = .ok (.iload_n 1, 1) := by decide +kernel
theorem dX10_wordItem_73 : decode cX10_wordItem 73 = .ok (.if_icmp .ge 86, 3) := by decide +kernel
theorem dX10_wordItem_76 : decode cX10_wordItem 76 = .ok (.bipush 84, 2) := by decide +kernel
theorem dX10_wordItem_78 : decode cX10_wordItem 78 = .ok (.bipush 10, 2) := by decide +kernel
theorem dX10_wordItem_80 : decode cX10_wordItem 80 = .ok (.iload_n 3, 1) := by decide +kernel
theorem dX10_wordItem_81 : decode cX10_wordItem 81 = .ok (.imul, 1) := by decide +kernel
theorem dX10_wordItem_82 : decode cX10_wordItem 82 = .ok (.iadd, 1) := by decide +kernel
theorem dX10_wordItem_83 : decode cX10_wordItem 83 = .ok (.istore 4, 2) := by decide +kernel
theorem dX10_wordItem_85 : decode cX10_wordItem 85 = .ok (.iconst 1, 1) := by decide +kernel
theorem dX10_wordItem_86 : decode cX10_wordItem 86 = .ok (.istore 5, 2) := by decide +kernel
theorem dX10_wordItem_88 : decode cX10_wordItem 88 = .ok (.iconst 0, 1) := by decide +kernel
theorem dX10_wordItem_89 : decode cX10_wordItem 89 = .ok (.istore 6, 2) := by decide +kernel
theorem dX10_wordItem_91 : decode cX10_wordItem 91 = .ok (.iload 6, 2) := by decide +kernel
theorem dX10_wordItem_93 : decode cX10_wordItem 93 = .ok (.iconst 2, 1) := by decide +kernel
theorem dX10_wordItem_94 : decode cX10_wordItem 94 = .ok (.aload_n 0, 1) := by decide +kernel
theorem dX10_wordItem_95 : decode cX10_wordItem 95 = .ok (.getfield 16, 3) := by decide +kernel
theorem dX10_wordItem_98 : decode cX10_wordItem 98 = .ok (.iload_n 2, 1) := by decide +kernel
theorem dX10_wordItem_99 : decode cX10_wordItem 99 = .ok (.iconst 1, 1) := by decide +kernel
theorem dX10_wordItem_100 : decode cX10_wordItem 100 = .ok (.iadd, 1) := by decide +kernel
theorem dX10_wordItem_101 : decode cX10_wordItem 101 = .ok (.iaload, 1) := by decide +kernel
theorem dX10_wordItem_102 : decode cX10_wordItem 102 = .ok (.iadd, 1) := by decide +kernel
theorem dX10_wordItem_103 : decode cX10_wordItem 103 = .ok (.if_icmp .ge 43, 3) := by decide +kernel
theorem dX10_wordItem_106 : decode cX10_wordItem 106 = .ok (.iload 5, 2) := by decide +kernel
theorem dX10_wordItem_108 : decode cX10_wordItem 108 = .ok (.ifCond .eq 29, 3) := by decide +kernel
theorem dX10_wordItem_111 : decode cX10_wordItem 111 = .ok (.aload_n 0, 1) := by decide +kernel
theorem dX10_wordItem_112 : decode cX10_wordItem 112 = .ok (.getfield 16, 3) := by decide +kernel
theorem dX10_wordItem_115 : decode cX10_wordItem 115 = .ok (.iload_n 2, 1) := by decide +kernel
theorem dX10_wordItem_116 : decode cX10_wordItem 116 = .ok (.iload 6, 2) := by decide +kernel
theorem dX10_wordItem_118 : decode cX10_wordItem 118 = .ok (.iadd, 1) := by decide +kernel
theorem dX10_wordItem_119 : decode cX10_wordItem 119 = .ok (.iaload, 1) := by decide +kernel
theorem dX10_wordItem_120 : decode cX10_wordItem 120 = .ok (.aload_n 0, 1) := by decide +kernel
theorem dX10_wordItem_121 : decode cX10_wordItem 121 = .ok (.getfield 16, 3) := by decide +kernel
theorem dX10_wordItem_124 : decode cX10_wordItem 124 = .ok (.iload 4, 2) := by decide +kernel
theorem dX10_wordItem_126 : decode cX10_wordItem 126 = .ok (.iload 6, 2) := by decide +kernel
theorem dX10_wordItem_128 : decode cX10_wordItem 128 = .ok (.iadd, 1) := by decide +kernel
theorem dX10_wordItem_129 : decode cX10_wordItem 129 = .ok (.iaload, 1) := by decide +kernel
theorem dX10_wordItem_130 : decode cX10_wordItem 130 = .ok (.if_icmp .ne 7, 3) := by decide +kernel
theorem dX10_wordItem_133 : decode cX10_wordItem 133 = .ok (.iconst 1, 1) := by decide +kernel
theorem dX10_wordItem_134 : decode cX10_wordItem 134 = .ok (.goto 4, 3) := by decide +kernel
theorem dX10_wordItem_137 : decode cX10_wordItem 137 = .ok (.iconst 0, 1) := by decide +kernel
theorem dX10_wordItem_138 : decode cX10_wordItem 138 = .ok (.istore 5, 2) := by decide +kernel
theorem dX10_wordItem_140 : decode cX10_wordItem 140 = .ok (.iinc 6 1, 3) := by decide +kernel
theorem dX10_wordItem_143 : decode cX10_wordItem 143 = .ok (.goto (-52), 3) := by decide +kernel
theorem dX10_wordItem_146 : decode cX10_wordItem 146 = .ok (.iload 5, 2) := by decide +kernel
theorem dX10_wordItem_148 : decode cX10_wordItem 148 = .ok (.ifCond .eq 5, 3) := by decide +kernel
theorem dX10_wordItem_151 : decode cX10_wordItem 151 = .ok (.iconst 0, 1) := by decide +kernel
theorem dX10_wordItem_152 : decode cX10_wordItem 152 = .ok (.ireturn, 1) := by decide +kernel
theorem dX10_wordItem_153 : decode cX10_wordItem 153 = .ok (.iinc 3 1, 3) := by decide +kernel
theorem dX10_wordItem_156 : decode cX10_wordItem 156 = .ok (.goto (-85), 3) := by decide +kernel
theorem dX10_wordItem_159 : decode cX10_wordItem 159 = .ok (.iconst 1, 1) := by decide +kernel
theorem dX10_wordItem_160 : decode cX10_wordItem 160 = .ok (.ireturn, 1) := by decide +kernel
theorem dX10_signItem_0 : decode cX10_signItem 0 = .ok (.bipush 7, 2) := by decide +kernel
theorem dX10_signItem_2 : decode cX10_signItem 2 = .ok (.aload_n 0, 1) := by decide +kernel
theorem dX10_signItem_3 : decode cX10_signItem 3 = .ok (.getfield 16, 3) := by decide +kernel
theorem dX10_signItem_6 : decode cX10_signItem 6 = .ok (.sipush 164, 3) := by decide +kernel
theorem dX10_signItem_9 : decode cX10_signItem 9 = .ok (.iaload, 1) := by decide +kernel
theorem dX10_signItem_10 : decode cX10_signItem 10 = .ok (.imul, 1) := by decide +kernel
theorem dX10_signItem_11 : decode cX10_signItem 11 = .ok (.istore_n 2, 1) := by decide +kernel
theorem dX10_signItem_12 : decode cX10_signItem 12 = .ok (.aload_n 0, 1) := by decide +kernel
theorem dX10_signItem_13 : decode cX10_signItem 13 = .ok (.getfield 16, 3) := by decide +kernel
theorem dX10_signItem_16 : decode cX10_signItem 16 = .ok (.sipush 164, 3) := by decide +kernel
theorem dX10_signItem_19 : decode cX10_signItem 19 = .ok (.iaload, 1) := by decide +kernel
theorem dX10_signItem_20 : decode cX10_signItem 20 = .ok (.bipush 12, 2) := by decide +kernel
theorem dX10_signItem_22 : decode cX10_signItem 22 = .ok (.if_icmp .ne 5, 3) := by decide +kernel
theorem dX10_signItem_25 : decode cX10_signItem 25 = .ok (.iconst 0, 1) := by decide +kernel
theorem dX10_signItem_26 : decode cX10_signItem 26 = .ok (.ireturn, 1) := by decide +kernel
theorem dX10_signItem_27 : decode cX10_signItem 27 = .ok (.aload_n 0, 1) := by decide +kernel
theorem dX10_signItem_28 : decode cX10_signItem 28 = .ok (.getfield 16, 3) := by decide +kernel
theorem dX10_signItem_31 : decode cX10_signItem 31 = .ok (.sipush 164, 3) := by decide +kernel
theorem dX10_signItem_34 : decode cX10_signItem 34 = .ok (.dup2, 1) := by decide +kernel
theorem dX10_signItem_35 : decode cX10_signItem 35 = .ok (.iaload, 1) := by decide +kernel
theorem dX10_signItem_36 : decode cX10_signItem 36 = .ok (.iconst 1, 1) := by decide +kernel
theorem dX10_signItem_37 : decode cX10_signItem 37 = .ok (.iadd, 1) := by decide +kernel
theorem dX10_signItem_38 : decode cX10_signItem 38 = .ok (.iastore, 1) := by decide +kernel
theorem dX10_signItem_39 : decode cX10_signItem 39 = .ok (.aload_n 0, 1) := by decide +kernel
theorem dX10_signItem_40 : decode cX10_signItem 40 = .ok (.getfield 16, 3) := by decide +kernel
theorem dX10_signItem_43 : decode cX10_signItem 43 = .ok (.iload_n 2, 1) := by decide +kernel
theorem dX10_signItem_44 : decode cX10_signItem 44 = .ok (.iload_n 1, 1) := by decide +kernel
theorem dX10_signItem_45 : decode cX10_signItem 45 = .ok (.bipush 112, 2) := by decide +kernel
theorem dX10_signItem_47 : decode cX10_signItem 47 = .ok (.if_icmp .ne 7, 3) := by decide +kernel
theorem dX10_signItem_50 : decode cX10_signItem 50 = .ok (.iconst 0, 1) := by decide +kernel
theorem dX10_signItem_51 : decode cX10_signItem 51 = .ok (.goto 14, 3) := by decide +kernel
theorem dX10_signItem_54 : decode cX10_signItem 54 = .ok (.iload_n 1, 1) := by decide +kernel
theorem dX10_signItem_55 : decode cX10_signItem 55 = .ok (.bipush 115, 2) := by decide +kernel
theorem dX10_signItem_57 : decode cX10_signItem 57 = .ok (.if_icmp .ne 7, 3) := by decide +kernel
theorem dX10_signItem_60 : decode cX10_signItem 60 = .ok (.iconst 1, 1) := by decide +kernel
theorem dX10_signItem_61 : decode cX10_signItem 61 = .ok (.goto 4, 3) := by decide +kernel
theorem dX10_signItem_64 : decode cX10_signItem 64 = .ok (.iconst 2, 1) := by decide +kernel
theorem dX10_signItem_65 : decode cX10_signItem 65 = .ok (.iastore, 1) := by decide +kernel
theorem dX10_signItem_66 : decode cX10_signItem 66 = .ok (.aload_n 0, 1) := by decide +kernel
theorem dX10_signItem_67 : decode cX10_signItem 67 = .ok (.getfield 16, 3) := by decide +kernel
theorem dX10_signItem_70 : decode cX10_signItem 70 = .ok (.iload_n 2, 1) := by decide +kernel
theorem dX10_signItem_71 : decode cX10_signItem 71 = .ok (.iconst 1, 1) := by decide +kernel
theorem dX10_signItem_72 : decode cX10_signItem 72 = .ok (.iadd, 1) := by decide +kernel
theorem dX10_signItem_73 : decode cX10_signItem 73 = .ok (.bipush (-4), 2) := by decide +kernel
theorem dX10_signItem_75 : decode cX10_signItem 75 = .ok (.iastore, 1) := by decide +kernel
theorem dX10_signItem_76 : decode cX10_signItem 76 = .ok (.aload_n 0, 1) := by decide +kernel
theorem dX10_signItem_77 : decode cX10_signItem 77 = .ok (.getfield 16, 3) := by decide +kernel
theorem dX10_signItem_80 : decode cX10_signItem 80 = .ok (.iload_n 2, 1) := by decide +kernel
theorem dX10_signItem_81 : decode cX10_signItem 81 = .ok (.iconst 2, 1) := by decide +kernel
theorem dX10_signItem_82 : decode cX10_signItem 82 = .ok (.iadd, 1) := by decide +kernel
theorem dX10_signItem_83 : decode cX10_signItem 83 = .ok (.iconst 0, 1) := by decide +kernel
theorem dX10_signItem_84 : decode cX10_signItem 84 = .ok (.iastore, 1) := by decide +kernel
theorem dX10_signItem_85 : decode cX10_signItem 85 = .ok (.iload_n 1, 1) := by decide +kernel
theorem dX10_signItem_86 : decode cX10_signItem 86 = .ok (.bipush 109, 2) := by decide +kernel
theorem dX10_signItem_88 : decode cX10_signItem 88 = .ok (.if_icmp .ne 12, 3) := by decide +kernel
theorem dX10_signItem_91 : decode cX10_signItem 91 = .ok (.aload_n 0, 1) := by decide +kernel
theorem dX10_signItem_92 : decode cX10_signItem 92 = .ok (.iload_n 2, 1) := by decide +kernel
theorem dX10_signItem_93 : decode cX10_signItem 93 = .ok (.iconst 1, 1) := by decide +kernel
theorem dX10_signItem_94 : decode cX10_signItem 94 = .ok (.iadd, 1) := by decide +kernel
theorem dX10_signItem_95 : decode cX10_signItem 95 = .ok (.iconst 5, 1) := by decide +kernel
theorem dX10_signItem_96 : decode cX10_signItem 96 = .ok (.invokevirtual 93, 3) := by decide +kernel
theorem dX10_signItem_99 : decode cX10_signItem 99 = .ok (.ireturn, 1) := by decide +kernel
theorem dX10_signItem_100 : decode cX10_signItem 100 = .ok (.iload_n 1, 1) := by decide +kernel
theorem dX10_signItem_101 : decode cX10_signItem 101 = .ok (.bipush 115, 2) := by decide +kernel
theorem dX10_signItem_103 : decode cX10_signItem 103 = .ok (.if_icmp .eq 23, 3) := by decide +kernel
theorem dX10_signItem_106 : decode cX10_signItem 106 = .ok (.aload_n 0, 1) := by decide +kernel
theorem dX10_signItem_107 : decode cX10_signItem 107 = .ok (.iload_n 2, 1) := by decide +kernel
theorem dX10_signItem_108 : decode cX10_signItem 108 = .ok (.iconst 1, 1) := by decide +kernel
theorem dX10_signItem_109 : decode cX10_signItem 109 = .ok (.iadd, 1) := by decide +kernel
theorem dX10_signItem_110 : decode cX10_signItem 110 = .ok (.iconst 5, 1) := by decide +kernel
theorem dX10_signItem_111 : decode cX10_signItem 111 = .ok (.invokevirtual 93, 3) := by decide +kernel
theorem dX10_signItem_114 : decode cX10_signItem 114 = .ok (.ifCond .eq 27, 3) := by decide +kernel
theorem dX10_signItem_117 : decode cX10_signItem 117 = .ok (.aload_n 0, 1) := by decide +kernel
theorem dX10_signItem_118 : decode cX10_signItem 118 = .ok (.bipush 44, 2) := by decide +kernel
theorem dX10_signItem_120 : decode cX10_signItem 120 = .ok (.invokevirtual 97, 3) := by decide +kernel
theorem dX10_signItem_123 : decode cX10_signItem 123 = .ok (.ifCond .eq 18, 3) := by decide +kernel
theorem dX10_signItem_126 : decode cX10_signItem 126 = .ok (.aload_n 0, 1) := by decide +kernel
theorem dX10_signItem_127 : decode cX10_signItem 127 = .ok (.iload_n 2, 1) := by decide +kernel
theorem dX10_signItem_128 : decode cX10_signItem 128 = .ok (.iconst 2, 1) := by decide +kernel
theorem dX10_signItem_129 : decode cX10_signItem 129 = .ok (.iadd, 1) := by decide +kernel
theorem dX10_signItem_130 : decode cX10_signItem 130 = .ok (.iconst 4, 1) := by decide +kernel
theorem dX10_signItem_131 : decode cX10_signItem 131 = .ok (.invokevirtual 101, 3) := by decide +kernel
theorem dX10_signItem_134 : decode cX10_signItem 134 = .ok (.ifCond .eq 7, 3) := by decide +kernel
theorem dX10_signItem_137 : decode cX10_signItem 137 = .ok (.iconst 1, 1) := by decide +kernel
theorem dX10_signItem_138 : decode cX10_signItem 138 = .ok (.goto 4, 3) := by decide +kernel
theorem dX10_signItem_141 : decode cX10_signItem 141 = .ok (.iconst 0, 1) := by decide +kernel
theorem dX10_signItem_142 : decode cX10_signItem 142 = .ok (.ireturn, 1) := by decide +kernel
theorem dX10_item_0 : decode cX10_item 0 = .ok (.iload_n 1, 1) := by decide +kernel
theorem dX10_item_1 : decode cX10_item 1 = .ok (.tableswitch 87 107 119 #[78, 87, 67, 87, 87, 67, 87, 87, 67, 87, 87, 87, 73], 67) := by decide +kernel
theorem dX10_item_68 : decode cX10_item 68 = .ok (.aload_n 0, 1) := by decide +kernel
theorem dX10_item_69 : decode cX10_item 69 = .ok (.iload_n 1, 1) := by decide +kernel
theorem dX10_item_70 : decode cX10_item 70 = .ok (.invokevirtual 104, 3) := by decide +kernel
theorem dX10_item_73 : decode cX10_item 73 = .ok (.ireturn, 1) := by decide +kernel
theorem dX10_item_74 : decode cX10_item 74 = .ok (.aload_n 0, 1) := by decide +kernel
theorem dX10_item_75 : decode cX10_item 75 = .ok (.invokevirtual 107, 3) := by decide +kernel
theorem dX10_item_78 : decode cX10_item 78 = .ok (.ireturn, 1) := by decide +kernel
theorem dX10_item_79 : decode cX10_item 79 = .ok (.aload_n 0, 1) := by decide +kernel
theorem dX10_item_80 : decode cX10_item 80 = .ok (.sipush 166, 3) := by decide +kernel
theorem dX10_item_83 : decode cX10_item 83 = .ok (.iconst 1, 1) := by decide +kernel
theorem dX10_item_84 : decode cX10_item 84 = .ok (.invokevirtual 93, 3) := by decide +kernel
theorem dX10_item_87 : decode cX10_item 87 = .ok (.ireturn, 1) := by decide +kernel
theorem dX10_item_88 : decode cX10_item 88 = .ok (.iconst 0, 1) := by decide +kernel
theorem dX10_item_89 : decode cX10_item 89 = .ok (.ireturn, 1) := by decide +kernel
theorem dX10_fault_0 : decode cX10_fault 0 = .ok (.iconst 0, 1) := by decide +kernel
theorem dX10_fault_1 : decode cX10_fault 1 = .ok (.istore_n 1, 1) := by decide +kernel
theorem dX10_fault_2 : decode cX10_fault 2 = .ok (.iload_n 1, 1) := by decide +kernel
theorem dX10_fault_3 : decode cX10_fault 3 = .ok (.sipush 167, 3) := by decide +kernel
theorem dX10_fault_6 : decode cX10_fault 6 = .ok (.if_icmp .ge 16, 3) := by decide +kernel
theorem dX10_fault_9 : decode cX10_fault 9 = .ok (.aload_n 0, 1) := by decide +kernel
theorem dX10_fault_10 : decode cX10_fault 10 = .ok (.getfield 16, 3) := by decide +kernel
theorem dX10_fault_13 : decode cX10_fault 13 = .ok (.iload_n 1, 1) := by decide +kernel
theorem dX10_fault_14 : decode cX10_fault 14 = .ok (.iconst 0, 1) := by decide +kernel
theorem dX10_fault_15 : decode cX10_fault 15 = .ok (.iastore, 1) := by decide +kernel
theorem dX10_fault_16 : decode cX10_fault 16 = .ok (.iinc 1 1, 3) := by decide +kernel
theorem dX10_fault_19 : decode cX10_fault 19 = .ok (.goto (-17), 3) := by decide +kernel
theorem dX10_fault_22 : decode cX10_fault 22 = .ok (.aload_n 0, 1) := by decide +kernel
theorem dX10_fault_23 : decode cX10_fault 23 = .ok (.iconst 0, 1) := by decide +kernel
theorem dX10_fault_24 : decode cX10_fault 24 = .ok (.putfield 82, 3) := by decide +kernel
theorem dX10_fault_27 : decode cX10_fault 27 = .ok (.aload_n 0, 1) := by decide +kernel
theorem dX10_fault_28 : decode cX10_fault 28 = .ok (.getfield 82, 3) := by decide +kernel
theorem dX10_fault_31 : decode cX10_fault 31 = .ok (.aload_n 0, 1) := by decide +kernel
theorem dX10_fault_32 : decode cX10_fault 32 = .ok (.getfield 79, 3) := by decide +kernel
theorem dX10_fault_35 : decode cX10_fault 35 = .ok (.if_icmp .ge 45, 3) := by decide +kernel
theorem dX10_fault_38 : decode cX10_fault 38 = .ok (.aload_n 0, 1) := by decide +kernel
theorem dX10_fault_39 : decode cX10_fault 39 = .ok (.getfield 82, 3) := by decide +kernel
theorem dX10_fault_42 : decode cX10_fault 42 = .ok (.istore_n 1, 1) := by decide +kernel
theorem dX10_fault_43 : decode cX10_fault 43 = .ok (.aload_n 0, 1) := by decide +kernel
theorem dX10_fault_44 : decode cX10_fault 44 = .ok (.dup, 1) := by decide +kernel
theorem dX10_fault_45 : decode cX10_fault 45 = .ok (.getfield 82, 3) := by decide +kernel
theorem dX10_fault_48 : decode cX10_fault 48 = .ok (.iconst 1, 1) := by decide +kernel
theorem dX10_fault_49 : decode cX10_fault 49 = .ok (.iadd, 1) := by decide +kernel
theorem dX10_fault_50 : decode cX10_fault 50 = .ok (.putfield 82, 3) := by decide +kernel
theorem dX10_fault_53 : decode cX10_fault 53 = .ok (.aload_n 0, 1) := by decide +kernel
theorem dX10_fault_54 : decode cX10_fault 54 = .ok (.aload_n 0, 1) := by decide +kernel
theorem dX10_fault_55 : decode cX10_fault 55 = .ok (.getfield 7, 3) := by decide +kernel
theorem dX10_fault_58 : decode cX10_fault 58 = .ok (.iload_n 1, 1) := by decide +kernel
theorem dX10_fault_59 : decode cX10_fault 59 = .ok (.iaload, 1) := by decide +kernel
theorem dX10_fault_60 : decode cX10_fault 60 = .ok (.invokevirtual 111, 3) := by decide +kernel
theorem dX10_fault_63 : decode cX10_fault 63 = .ok (.ifCond .eq 12, 3) := by decide +kernel
theorem dX10_fault_66 : decode cX10_fault 66 = .ok (.aload_n 0, 1) := by decide +kernel
theorem dX10_fault_67 : decode cX10_fault 67 = .ok (.bipush 59, 2) := by decide +kernel
theorem dX10_fault_69 : decode cX10_fault 69 = .ok (.invokevirtual 97, 3) := by decide +kernel
theorem dX10_fault_72 : decode cX10_fault 72 = .ok (.ifCond .ne 5, 3) := by decide +kernel
theorem dX10_fault_75 : decode cX10_fault 75 = .ok (.iload_n 1, 1) := by decide +kernel
theorem dX10_fault_76 : decode cX10_fault 76 = .ok (.ireturn, 1) := by decide +kernel
theorem dX10_fault_77 : decode cX10_fault 77 = .ok (.goto (-50), 3) := by decide +kernel
theorem dX10_fault_80 : decode cX10_fault 80 = .ok (.bipush (-4), 2) := by decide +kernel
theorem dX10_fault_82 : decode cX10_fault 82 = .ok (.ireturn, 1) := by decide +kernel
theorem dX10_lay_0 : decode cX10_lay 0 = .ok (.aload_n 0, 1) := by decide +kernel
theorem dX10_lay_1 : decode cX10_lay 1 = .ok (.invokevirtual 114, 3) := by decide +kernel
theorem dX10_lay_4 : decode cX10_lay 4 = .ok (.bipush (-4), 2) := by decide +kernel
theorem dX10_lay_6 : decode cX10_lay 6 = .ok (.if_icmp .ne 25, 3) := by decide +kernel
theorem dX10_lay_9 : decode cX10_lay 9 = .ok (.aload_n 0, 1) := by decide +kernel
theorem dX10_lay_10 : decode cX10_lay 10 = .ok (.getfield 16, 3) := by decide +kernel
theorem dX10_lay_13 : decode cX10_lay 13 = .ok (.sipush 164, 3) := by decide +kernel
theorem dX10_lay_16 : decode cX10_lay 16 = .ok (.iaload, 1) := by decide +kernel
theorem dX10_lay_17 : decode cX10_lay 17 = .ok (.ifCond .eq 14, 3) := by decide +kernel
theorem dX10_lay_20 : decode cX10_lay 20 = .ok (.aload_n 0, 1) := by decide +kernel
theorem dX10_lay_21 : decode cX10_lay 21 = .ok (.getfield 16, 3) := by decide +kernel
theorem dX10_lay_24 : decode cX10_lay 24 = .ok (.sipush 165, 3) := by decide +kernel
theorem dX10_lay_27 : decode cX10_lay 27 = .ok (.iaload, 1) := by decide +kernel
theorem dX10_lay_28 : decode cX10_lay 28 = .ok (.ifCond .ne 6, 3) := by decide +kernel
theorem dX10_lay_31 : decode cX10_lay 31 = .ok (.bipush (-2), 2) := by decide +kernel
theorem dX10_lay_33 : decode cX10_lay 33 = .ok (.ireturn, 1) := by decide +kernel
theorem dX10_lay_34 : decode cX10_lay 34 = .ok (.iconst 0, 1) := by decide +kernel
theorem dX10_lay_35 : decode cX10_lay 35 = .ok (.istore_n 1, 1) := by decide +kernel
theorem dX10_lay_36 : decode cX10_lay 36 = .ok (.iload_n 1, 1) := by decide +kernel
theorem dX10_lay_37 : decode cX10_lay 37 = .ok (.sipush 167, 3) := by decide +kernel
theorem dX10_lay_40 : decode cX10_lay 40 = .ok (.if_icmp .ge 21, 3) := by decide +kernel
theorem dX10_lay_43 : decode cX10_lay 43 = .ok (.aload_n 0, 1) := by decide +kernel
theorem dX10_lay_44 : decode cX10_lay 44 = .ok (.getfield 13, 3) := by decide +kernel
theorem dX10_lay_47 : decode cX10_lay 47 = .ok (.iload_n 1, 1) := by decide +kernel
theorem dX10_lay_48 : decode cX10_lay 48 = .ok (.aload_n 0, 1) := by decide +kernel
theorem dX10_lay_49 : decode cX10_lay 49 = .ok (.getfield 16, 3) := by decide +kernel
theorem dX10_lay_52 : decode cX10_lay 52 = .ok (.iload_n 1, 1) := by decide +kernel
theorem dX10_lay_53 : decode cX10_lay 53 = .ok (.iaload, 1) := by decide +kernel
theorem dX10_lay_54 : decode cX10_lay 54 = .ok (.iastore, 1) := by decide +kernel
theorem dX10_lay_55 : decode cX10_lay 55 = .ok (.iinc 1 1, 3) := by decide +kernel
theorem dX10_lay_58 : decode cX10_lay 58 = .ok (.goto (-22), 3) := by decide +kernel
theorem dX10_lay_61 : decode cX10_lay 61 = .ok (.aload_n 0, 1) := by decide +kernel
theorem dX10_lay_62 : decode cX10_lay 62 = .ok (.invokevirtual 64, 3) := by decide +kernel
theorem dX10_lay_65 : decode cX10_lay 65 = .ok (.aload_n 0, 1) := by decide +kernel
theorem dX10_lay_66 : decode cX10_lay 66 = .ok (.getfield 13, 3) := by decide +kernel
theorem dX10_lay_69 : decode cX10_lay 69 = .ok (.sipush 164, 3) := by decide +kernel
theorem dX10_lay_72 : decode cX10_lay 72 = .ok (.iaload, 1) := by decide +kernel
theorem dX10_lay_73 : decode cX10_lay 73 = .ok (.ireturn, 1) := by decide +kernel
theorem dX10_note_0 : decode cX10_note 0 = .ok (.aload_n 0, 1) := by decide +kernel
theorem dX10_note_1 : decode cX10_note 1 = .ok (.getfield 67, 3) := by decide +kernel
theorem dX10_note_4 : decode cX10_note 4 = .ok (.bipush 6, 2) := by decide +kernel
theorem dX10_note_6 : decode cX10_note 6 = .ok (.if_icmp .ne 42, 3) := by decide +kernel
theorem dX10_note_9 : decode cX10_note 9 = .ok (.iconst 0, 1) := by decide +kernel
theorem dX10_note_10 : decode cX10_note 10 = .ok (.istore_n 1, 1) := by decide +kernel
theorem dX10_note_11 : decode cX10_note 11 = .ok (.iload_n 1, 1) := by decide +kernel
theorem dX10_note_12 : decode cX10_note 12 = .ok (.bipush 95, 2) := by decide +kernel
theorem dX10_note_14 : decode cX10_note 14 = .ok (.if_icmp .ge 24, 3) := by decide +kernel
theorem dX10_note_17 : decode cX10_note 17 = .ok (.aload_n 0, 1) := by decide +kernel
theorem dX10_note_18 : decode cX10_note 18 = .ok (.getfield 22, 3) := by decide +kernel
theorem dX10_note_21 : decode cX10_note 21 = .ok (.iload_n 1, 1) := by decide +kernel
theorem dX10_note_22 : decode cX10_note 22 = .ok (.aload_n 0, 1) := by decide +kernel
theorem dX10_note_23 : decode cX10_note 23 = .ok (.getfield 22, 3) := by decide +kernel
theorem dX10_note_26 : decode cX10_note 26 = .ok (.bipush 19, 2) := by decide +kernel
theorem dX10_note_28 : decode cX10_note 28 = .ok (.iload_n 1, 1) := by decide +kernel
theorem dX10_note_29 : decode cX10_note 29 = .ok (.iadd, 1) := by decide +kernel
theorem dX10_note_30 : decode cX10_note 30 = .ok (.iaload, 1) := by decide +kernel
theorem dX10_note_31 : decode cX10_note 31 = .ok (.iastore, 1) := by decide +kernel
theorem dX10_note_32 : decode cX10_note 32 = .ok (.iinc 1 1, 3) := by decide +kernel
theorem dX10_note_35 : decode cX10_note 35 = .ok (.goto (-24), 3) := by decide +kernel
theorem dX10_note_38 : decode cX10_note 38 = .ok (.aload_n 0, 1) := by decide +kernel
theorem dX10_note_39 : decode cX10_note 39 = .ok (.dup, 1) := by decide +kernel
theorem dX10_note_40 : decode cX10_note 40 = .ok (.getfield 67, 3) := by decide +kernel
theorem dX10_note_43 : decode cX10_note 43 = .ok (.iconst 1, 1) := by decide +kernel
theorem dX10_note_44 : decode cX10_note 44 = .ok (.isub, 1) := by decide +kernel
theorem dX10_note_45 : decode cX10_note 45 = .ok (.putfield 67, 3) := by decide +kernel
theorem dX10_note_48 : decode cX10_note 48 = .ok (.iconst 0, 1) := by decide +kernel
theorem dX10_note_49 : decode cX10_note 49 = .ok (.istore_n 1, 1) := by decide +kernel
theorem dX10_note_50 : decode cX10_note 50 = .ok (.iload_n 1, 1) := by decide +kernel
theorem dX10_note_51 : decode cX10_note 51 = .ok (.bipush 19, 2) := by decide +kernel
theorem dX10_note_53 : decode cX10_note 53 = .ok (.if_icmp .ge 29, 3) := by decide +kernel
theorem dX10_note_56 : decode cX10_note 56 = .ok (.aload_n 0, 1) := by decide +kernel
theorem dX10_note_57 : decode cX10_note 57 = .ok (.getfield 22, 3) := by decide +kernel
theorem dX10_note_60 : decode cX10_note 60 = .ok (.bipush 19, 2) := by decide +kernel
theorem dX10_note_62 : decode cX10_note 62 = .ok (.aload_n 0, 1) := by decide +kernel
theorem dX10_note_63 : decode cX10_note 63 = .ok (.getfield 67, 3) := by decide +kernel
theorem dX10_note_66 : decode cX10_note 66 = .ok (.imul, 1) := by decide +kernel
theorem dX10_note_67 : decode cX10_note 67 = .ok (.iload_n 1, 1) := by decide +kernel
theorem dX10_note_68 : decode cX10_note 68 = .ok (.iadd, 1) := by decide +kernel
theorem dX10_note_69 : decode cX10_note 69 = .ok (.aload_n 0, 1) := by decide +kernel
theorem dX10_note_70 : decode cX10_note 70 = .ok (.getfield 19, 3) := by decide +kernel
theorem dX10_note_73 : decode cX10_note 73 = .ok (.iload_n 1, 1) := by decide +kernel
theorem dX10_note_74 : decode cX10_note 74 = .ok (.iaload, 1) := by decide +kernel
theorem dX10_note_75 : decode cX10_note 75 = .ok (.iastore, 1) := by decide +kernel
theorem dX10_note_76 : decode cX10_note 76 = .ok (.iinc 1 1, 3) := by decide +kernel
theorem dX10_note_79 : decode cX10_note 79 = .ok (.goto (-29), 3) := by decide +kernel
theorem dX10_note_82 : decode cX10_note 82 = .ok (.aload_n 0, 1) := by decide +kernel
theorem dX10_note_83 : decode cX10_note 83 = .ok (.dup, 1) := by decide +kernel
theorem dX10_note_84 : decode cX10_note 84 = .ok (.getfield 67, 3) := by decide +kernel
theorem dX10_note_87 : decode cX10_note 87 = .ok (.iconst 1, 1) := by decide +kernel
theorem dX10_note_88 : decode cX10_note 88 = .ok (.iadd, 1) := by decide +kernel
theorem dX10_note_89 : decode cX10_note 89 = .ok (.putfield 67, 3) := by decide +kernel
theorem dX10_note_92 : decode cX10_note 92 = .ok (.return_, 1) := by decide +kernel
theorem dX10_undo_0 : decode cX10_undo 0 = .ok (.aload_n 0, 1) := by decide +kernel
theorem dX10_undo_1 : decode cX10_undo 1 = .ok (.getfield 67, 3) := by decide +kernel
theorem dX10_undo_4 : decode cX10_undo 4 = .ok (.ifCond .ne 6, 3) := by decide +kernel
theorem dX10_undo_7 : decode cX10_undo 7 = .ok (.bipush (-2), 2) := by decide +kernel
theorem dX10_undo_9 : decode cX10_undo 9 = .ok (.ireturn, 1) := by decide +kernel
theorem dX10_undo_10 : decode cX10_undo 10 = .ok (.aload_n 0, 1) := by decide +kernel
theorem dX10_undo_11 : decode cX10_undo 11 = .ok (.dup, 1) := by decide +kernel
theorem dX10_undo_12 : decode cX10_undo 12 = .ok (.getfield 67, 3) := by decide +kernel
theorem dX10_undo_15 : decode cX10_undo 15 = .ok (.iconst 1, 1) := by decide +kernel
theorem dX10_undo_16 : decode cX10_undo 16 = .ok (.isub, 1) := by decide +kernel
theorem dX10_undo_17 : decode cX10_undo 17 = .ok (.putfield 67, 3) := by decide +kernel
theorem dX10_undo_20 : decode cX10_undo 20 = .ok (.iconst 0, 1) := by decide +kernel
theorem dX10_undo_21 : decode cX10_undo 21 = .ok (.istore_n 1, 1) := by decide +kernel
theorem dX10_undo_22 : decode cX10_undo 22 = .ok (.iload_n 1, 1) := by decide +kernel
theorem dX10_undo_23 : decode cX10_undo 23 = .ok (.bipush 19, 2) := by decide +kernel
theorem dX10_undo_25 : decode cX10_undo 25 = .ok (.if_icmp .ge 29, 3) := by decide +kernel
theorem dX10_undo_28 : decode cX10_undo 28 = .ok (.aload_n 0, 1) := by decide +kernel
theorem dX10_undo_29 : decode cX10_undo 29 = .ok (.getfield 19, 3) := by decide +kernel
theorem dX10_undo_32 : decode cX10_undo 32 = .ok (.iload_n 1, 1) := by decide +kernel
theorem dX10_undo_33 : decode cX10_undo 33 = .ok (.aload_n 0, 1) := by decide +kernel
theorem dX10_undo_34 : decode cX10_undo 34 = .ok (.getfield 22, 3) := by decide +kernel
theorem dX10_undo_37 : decode cX10_undo 37 = .ok (.bipush 19, 2) := by decide +kernel
theorem dX10_undo_39 : decode cX10_undo 39 = .ok (.aload_n 0, 1) := by decide +kernel
theorem dX10_undo_40 : decode cX10_undo 40 = .ok (.getfield 67, 3) := by decide +kernel
theorem dX10_undo_43 : decode cX10_undo 43 = .ok (.imul, 1) := by decide +kernel
theorem dX10_undo_44 : decode cX10_undo 44 = .ok (.iload_n 1, 1) := by decide +kernel
theorem dX10_undo_45 : decode cX10_undo 45 = .ok (.iadd, 1) := by decide +kernel
theorem dX10_undo_46 : decode cX10_undo 46 = .ok (.iaload, 1) := by decide +kernel
theorem dX10_undo_47 : decode cX10_undo 47 = .ok (.iastore, 1) := by decide +kernel
theorem dX10_undo_48 : decode cX10_undo 48 = .ok (.iinc 1 1, 3) := by decide +kernel
theorem dX10_undo_51 : decode cX10_undo 51 = .ok (.goto (-29), 3) := by decide +kernel
theorem dX10_undo_54 : decode cX10_undo 54 = .ok (.aload_n 0, 1) := by decide +kernel
theorem dX10_undo_55 : decode cX10_undo 55 = .ok (.getfield 67, 3) := by decide +kernel
theorem dX10_undo_58 : decode cX10_undo 58 = .ok (.ireturn, 1) := by decide +kernel
end
section
theorem dX10_isSign_0 : decode cX10_isSign 0 = .ok (.iload_n 1, 1) := by decide +kernel
theorem dX10_isSign_1 : decode cX10_isSign 1 = .ok (.i2l, 1) := by decide +kernel
theorem dX10_isSign_2 : decode cX10_isSign 2 = .ok (.lconst 0, 1) := by decide +kernel
theorem dX10_isSign_3 : decode cX10_isSign 3 = .ok (.aload_n 0, 1) := by decide +kernel
theorem dX10_isSign_4 : decode cX10_isSign 4 = .ok (.getfield 13, 3) := by decide +kernel
theorem dX10_isSign_7 : decode cX10_isSign 7 = .ok (.sipush 164, 3) := by decide +kernel
theorem dX10_isSign_10 : decode cX10_isSign 10 = .ok (.iaload, 1) := by decide +kernel
theorem dX10_isSign_11 : decode cX10_isSign 11 = .ok (.iconst 1, 1) := by decide +kernel
theorem dX10_isSign_12 : decode cX10_isSign 12 = .ok (.isub, 1) := by decide +kernel
theorem dX10_isSign_13 : decode cX10_isSign 13 = .ok (.i2l, 1) := by decide +kernel
theorem dX10_isSign_14 : decode cX10_isSign 14 = .ok (.invokestatic 75, 3) := by decide +kernel
theorem dX10_isSign_17 : decode cX10_isSign 17 = .ok (.ireturn, 1) := by decide +kernel
theorem dX10_isWord_0 : decode cX10_isWord 0 = .ok (.iload_n 1, 1) := by decide +kernel
theorem dX10_isWord_1 : decode cX10_isWord 1 = .ok (.i2l, 1) := by decide +kernel
theorem dX10_isWord_2 : decode cX10_isWord 2 = .ok (.lconst 0, 1) := by decide +kernel
theorem dX10_isWord_3 : decode cX10_isWord 3 = .ok (.aload_n 0, 1) := by decide +kernel
theorem dX10_isWord_4 : decode cX10_isWord 4 = .ok (.getfield 13, 3) := by decide +kernel
theorem dX10_isWord_7 : decode cX10_isWord 7 = .ok (.sipush 165, 3) := by decide +kernel
theorem dX10_isWord_10 : decode cX10_isWord 10 = .ok (.iaload, 1) := by decide +kernel
theorem dX10_isWord_11 : decode cX10_isWord 11 = .ok (.iconst 1, 1) := by decide +kernel
theorem dX10_isWord_12 : decode cX10_isWord 12 = .ok (.isub, 1) := by decide +kernel
theorem dX10_isWord_13 : decode cX10_isWord 13 = .ok (.i2l, 1) := by decide +kernel
theorem dX10_isWord_14 : decode cX10_isWord 14 = .ok (.invokestatic 75, 3) := by decide +kernel
theorem dX10_isWord_17 : decode cX10_isWord 17 = .ok (.ireturn, 1) := by decide +kernel
theorem dX10_isStruck_0 : decode cX10_isStruck 0 = .ok (.aload_n 0, 1) := by decide +kernel
theorem dX10_isStruck_1 : decode cX10_isStruck 1 = .ok (.getfield 19, 3) := by decide +kernel
theorem dX10_isStruck_4 : decode cX10_isStruck 4 = .ok (.iconst 1, 1) := by decide +kernel
theorem dX10_isStruck_5 : decode cX10_isStruck 5 = .ok (.iaload, 1) := by decide +kernel
theorem dX10_isStruck_6 : decode cX10_isStruck 6 = .ok (.iload_n 1, 1) := by decide +kernel
theorem dX10_isStruck_7 : decode cX10_isStruck 7 = .ok (.ishr, 1) := by decide +kernel
theorem dX10_isStruck_8 : decode cX10_isStruck 8 = .ok (.iconst 1, 1) := by decide +kernel
theorem dX10_isStruck_9 : decode cX10_isStruck 9 = .ok (.iand, 1) := by decide +kernel
theorem dX10_isStruck_10 : decode cX10_isStruck 10 = .ok (.iconst 1, 1) := by decide +kernel
theorem dX10_isStruck_11 : decode cX10_isStruck 11 = .ok (.if_icmp .ne 7, 3) := by decide +kernel
theorem dX10_isStruck_14 : decode cX10_isStruck 14 = .ok (.iconst 1, 1) := by decide +kernel
theorem dX10_isStruck_15 : decode cX10_isStruck 15 = .ok (.goto 4, 3) := by decide +kernel
theorem dX10_isStruck_18 : decode cX10_isStruck 18 = .ok (.iconst 0, 1) := by decide +kernel
theorem dX10_isStruck_19 : decode cX10_isStruck 19 = .ok (.ireturn, 1) := by decide +kernel
theorem dX10_bits_0 : decode cX10_bits 0 = .ok (.iconst 0, 1) := by decide +kernel
theorem dX10_bits_1 : decode cX10_bits 1 = .ok (.istore_n 1, 1) := by decide +kernel
theorem dX10_bits_2 : decode cX10_bits 2 = .ok (.iconst 0, 1) := by decide +kernel
theorem dX10_bits_3 : decode cX10_bits 3 = .ok (.istore_n 2, 1) := by decide +kernel
theorem dX10_bits_4 : decode cX10_bits 4 = .ok (.iload_n 2, 1) := by decide +kernel
theorem dX10_bits_5 : decode cX10_bits 5 = .ok (.bipush 16, 2) := by decide +kernel
theorem dX10_bits_7 : decode cX10_bits 7 = .ok (.if_icmp .ge 17, 3) := by decide +kernel
theorem dX10_bits_10 : decode cX10_bits 10 = .ok (.iload_n 1, 1) := by decide +kernel
theorem dX10_bits_11 : decode cX10_bits 11 = .ok (.iload_n 0, 1) := by decide +kernel
theorem dX10_bits_12 : decode cX10_bits 12 = .ok (.iload_n 2, 1) := by decide +kernel
theorem dX10_bits_13 : decode cX10_bits 13 = .ok (.ishr, 1) := by decide +kernel
theorem dX10_bits_14 : decode cX10_bits 14 = .ok (.iconst 1, 1) := by decide +kernel
theorem dX10_bits_15 : decode cX10_bits 15 = .ok (.iand, 1) := by decide +kernel
theorem dX10_bits_16 : decode cX10_bits 16 = .ok (.iadd, 1) := by decide +kernel
theorem dX10_bits_17 : decode cX10_bits 17 = .ok (.istore_n 1, 1) := by decide +kernel
theorem dX10_bits_18 : decode cX10_bits 18 = .ok (.iinc 2 1, 3) := by decide +kernel
theorem dX10_bits_21 : decode cX10_bits 21 = .ok (.goto (-17), 3) := by decide +kernel
theorem dX10_bits_24 : decode cX10_bits 24 = .ok (.iload_n 1, 1) := by decide +kernel
theorem dX10_bits_25 : decode cX10_bits 25 = .ok (.ireturn, 1) := by decide +kernel
theorem dX10_strike_0 : decode cX10_strike 0 = .ok (.aload_n 0, 1) := by decide +kernel
theorem dX10_strike_1 : decode cX10_strike 1 = .ok (.iload_n 1, 1) := by decide +kernel
theorem dX10_strike_2 : decode cX10_strike 2 = .ok (.invokevirtual 118, 3) := by decide +kernel
theorem dX10_strike_5 : decode cX10_strike 5 = .ok (.ifCond .eq 13, 3) := by decide +kernel
theorem dX10_strike_8 : decode cX10_strike 8 = .ok (.iload_n 2, 1) := by decide +kernel
theorem dX10_strike_9 : decode cX10_strike 9 = .ok (.i2l, 1) := by decide +kernel
theorem dX10_strike_10 : decode cX10_strike 10 = .ok (.lconst 0, 1) := by decide +kernel
theorem dX10_strike_11 : decode cX10_strike 11 = .ok (.lconst 1, 1) := by decide +kernel
theorem dX10_strike_12 : decode cX10_strike 12 = .ok (.invokestatic 75, 3) := by decide +kernel
theorem dX10_strike_15 : decode cX10_strike 15 = .ok (.ifCond .ne 5, 3) := by decide +kernel
theorem dX10_strike_18 : decode cX10_strike 18 = .ok (.iconst (-1), 1) := by decide +kernel
theorem dX10_strike_19 : decode cX10_strike 19 = .ok (.ireturn, 1) := by decide +kernel
theorem dX10_strike_20 : decode cX10_strike 20 = .ok (.aload_n 0, 1) := by decide +kernel
theorem dX10_strike_21 : decode cX10_strike 21 = .ok (.iload_n 1, 1) := by decide +kernel
theorem dX10_strike_22 : decode cX10_strike 22 = .ok (.invokevirtual 121, 3) := by decide +kernel
theorem dX10_strike_25 : decode cX10_strike 25 = .ok (.iload_n 2, 1) := by decide +kernel
theorem dX10_strike_26 : decode cX10_strike 26 = .ok (.iconst 1, 1) := by decide +kernel
theorem dX10_strike_27 : decode cX10_strike 27 = .ok (.if_icmp .ne 7, 3) := by decide +kernel
theorem dX10_strike_30 : decode cX10_strike 30 = .ok (.iconst 1, 1) := by decide +kernel
theorem dX10_strike_31 : decode cX10_strike 31 = .ok (.goto 4, 3) := by decide +kernel
theorem dX10_strike_34 : decode cX10_strike 34 = .ok (.iconst 0, 1) := by decide +kernel
theorem dX10_strike_35 : decode cX10_strike 35 = .ok (.if_icmp .ne 6, 3) := by decide +kernel
theorem dX10_strike_38 : decode cX10_strike 38 = .ok (.bipush (-2), 2) := by decide +kernel
theorem dX10_strike_40 : decode cX10_strike 40 = .ok (.ireturn, 1) := by decide +kernel
theorem dX10_strike_41 : decode cX10_strike 41 = .ok (.aload_n 0, 1) := by decide +kernel
theorem dX10_strike_42 : decode cX10_strike 42 = .ok (.invokevirtual 124, 3) := by decide +kernel
theorem dX10_strike_45 : decode cX10_strike 45 = .ok (.aload_n 0, 1) := by decide +kernel
theorem dX10_strike_46 : decode cX10_strike 46 = .ok (.getfield 19, 3) := by decide +kernel
theorem dX10_strike_49 : decode cX10_strike 49 = .ok (.iconst 1, 1) := by decide +kernel
theorem dX10_strike_50 : decode cX10_strike 50 = .ok (.dup2, 1) := by decide +kernel
theorem dX10_strike_51 : decode cX10_strike 51 = .ok (.iaload, 1) := by decide +kernel
theorem dX10_strike_52 : decode cX10_strike 52 = .ok (.iconst 1, 1) := by decide +kernel
theorem dX10_strike_53 : decode cX10_strike 53 = .ok (.iload_n 1, 1) := by decide +kernel
theorem dX10_strike_54 : decode cX10_strike 54 = .ok (.ishl, 1) := by decide +kernel
theorem dX10_strike_55 : decode cX10_strike 55 = .ok (.ixor, 1) := by decide +kernel
theorem dX10_strike_56 : decode cX10_strike 56 = .ok (.iastore, 1) := by decide +kernel
theorem dX10_strike_57 : decode cX10_strike 57 = .ok (.aload_n 0, 1) := by decide +kernel
theorem dX10_strike_58 : decode cX10_strike 58 = .ok (.getfield 19, 3) := by decide +kernel
theorem dX10_strike_61 : decode cX10_strike 61 = .ok (.iconst 1, 1) := by decide +kernel
theorem dX10_strike_62 : decode cX10_strike 62 = .ok (.iaload, 1) := by decide +kernel
theorem dX10_strike_63 : decode cX10_strike 63 = .ok (.invokestatic 127, 3) := by decide +kernel
theorem dX10_strike_66 : decode cX10_strike 66 = .ok (.ireturn, 1) := by decide +kernel
theorem dX10_law_0 : decode cX10_law 0 = .ok (.iload_n 1, 1) := by decide +kernel
theorem dX10_law_1 : decode cX10_law 1 = .ok (.i2l, 1) := by decide +kernel
theorem dX10_law_2 : decode cX10_law 2 = .ok (.lconst 0, 1) := by decide +kernel
theorem dX10_law_3 : decode cX10_law 3 = .ok (.lconst 1, 1) := by decide +kernel
theorem dX10_law_4 : decode cX10_law 4 = .ok (.invokestatic 75, 3) := by decide +kernel
theorem dX10_law_7 : decode cX10_law 7 = .ok (.ifCond .ne 5, 3) := by decide +kernel
theorem dX10_law_10 : decode cX10_law 10 = .ok (.iconst (-1), 1) := by decide +kernel
theorem dX10_law_11 : decode cX10_law 11 = .ok (.ireturn, 1) := by decide +kernel
theorem dX10_law_12 : decode cX10_law 12 = .ok (.aload_n 0, 1) := by decide +kernel
theorem dX10_law_13 : decode cX10_law 13 = .ok (.getfield 19, 3) := by decide +kernel
theorem dX10_law_16 : decode cX10_law 16 = .ok (.iconst 0, 1) := by decide +kernel
theorem dX10_law_17 : decode cX10_law 17 = .ok (.iaload, 1) := by decide +kernel
theorem dX10_law_18 : decode cX10_law 18 = .ok (.istore_n 2, 1) := by decide +kernel
theorem dX10_law_19 : decode cX10_law 19 = .ok (.iload_n 2, 1) := by decide +kernel
theorem dX10_law_20 : decode cX10_law 20 = .ok (.iload_n 1, 1) := by decide +kernel
theorem dX10_law_21 : decode cX10_law 21 = .ok (.if_icmp .ne 6, 3) := by decide +kernel
theorem dX10_law_24 : decode cX10_law 24 = .ok (.bipush (-2), 2) := by decide +kernel
theorem dX10_law_26 : decode cX10_law 26 = .ok (.ireturn, 1) := by decide +kernel
theorem dX10_law_27 : decode cX10_law 27 = .ok (.aload_n 0, 1) := by decide +kernel
theorem dX10_law_28 : decode cX10_law 28 = .ok (.invokevirtual 124, 3) := by decide +kernel
theorem dX10_law_31 : decode cX10_law 31 = .ok (.aload_n 0, 1) := by decide +kernel
theorem dX10_law_32 : decode cX10_law 32 = .ok (.getfield 19, 3) := by decide +kernel
theorem dX10_law_35 : decode cX10_law 35 = .ok (.iconst 0, 1) := by decide +kernel
theorem dX10_law_36 : decode cX10_law 36 = .ok (.iload_n 1, 1) := by decide +kernel
theorem dX10_law_37 : decode cX10_law 37 = .ok (.iastore, 1) := by decide +kernel
theorem dX10_law_38 : decode cX10_law 38 = .ok (.iload_n 2, 1) := by decide +kernel
theorem dX10_law_39 : decode cX10_law 39 = .ok (.ireturn, 1) := by decide +kernel
theorem dX10_carve_0 : decode cX10_carve 0 = .ok (.aload_n 0, 1) := by decide +kernel
theorem dX10_carve_1 : decode cX10_carve 1 = .ok (.iload_n 1, 1) := by decide +kernel
theorem dX10_carve_2 : decode cX10_carve 2 = .ok (.invokevirtual 118, 3) := by decide +kernel
theorem dX10_carve_5 : decode cX10_carve 5 = .ok (.ifCond .ne 5, 3) := by decide +kernel
theorem dX10_carve_8 : decode cX10_carve 8 = .ok (.iconst (-1), 1) := by decide +kernel
theorem dX10_carve_9 : decode cX10_carve 9 = .ok (.ireturn, 1) := by decide +kernel
theorem dX10_carve_10 : decode cX10_carve 10 = .ok (.aload_n 0, 1) := by decide +kernel
theorem dX10_carve_11 : decode cX10_carve 11 = .ok (.getfield 19, 3) := by decide +kernel
theorem dX10_carve_14 : decode cX10_carve 14 = .ok (.iconst 2, 1) := by decide +kernel
theorem dX10_carve_15 : decode cX10_carve 15 = .ok (.iaload, 1) := by decide +kernel
theorem dX10_carve_16 : decode cX10_carve 16 = .ok (.bipush 16, 2) := by decide +kernel
theorem dX10_carve_18 : decode cX10_carve 18 = .ok (.if_icmp .ne 6, 3) := by decide +kernel
theorem dX10_carve_21 : decode cX10_carve 21 = .ok (.bipush (-3), 2) := by decide +kernel
theorem dX10_carve_23 : decode cX10_carve 23 = .ok (.ireturn, 1) := by decide +kernel
theorem dX10_carve_24 : decode cX10_carve 24 = .ok (.aload_n 0, 1) := by decide +kernel
theorem dX10_carve_25 : decode cX10_carve 25 = .ok (.invokevirtual 124, 3) := by decide +kernel
theorem dX10_carve_28 : decode cX10_carve 28 = .ok (.aload_n 0, 1) := by decide +kernel
theorem dX10_carve_29 : decode cX10_carve 29 = .ok (.getfield 19, 3) := by decide +kernel
theorem dX10_carve_32 : decode cX10_carve 32 = .ok (.iconst 3, 1) := by decide +kernel
theorem dX10_carve_33 : decode cX10_carve 33 = .ok (.aload_n 0, 1) := by decide +kernel
theorem dX10_carve_34 : decode cX10_carve 34 = .ok (.getfield 19, 3) := by decide +kernel
theorem dX10_carve_37 : decode cX10_carve 37 = .ok (.iconst 2, 1) := by decide +kernel
theorem dX10_carve_38 : decode cX10_carve 38 = .ok (.iaload, 1) := by decide +kernel
theorem dX10_carve_39 : decode cX10_carve 39 = .ok (.iadd, 1) := by decide +kernel
theorem dX10_carve_40 : decode cX10_carve 40 = .ok (.iload_n 1, 1) := by decide +kernel
theorem dX10_carve_41 : decode cX10_carve 41 = .ok (.iastore, 1) := by decide +kernel
theorem dX10_carve_42 : decode cX10_carve 42 = .ok (.aload_n 0, 1) := by decide +kernel
theorem dX10_carve_43 : decode cX10_carve 43 = .ok (.getfield 19, 3) := by decide +kernel
theorem dX10_carve_46 : decode cX10_carve 46 = .ok (.iconst 2, 1) := by decide +kernel
theorem dX10_carve_47 : decode cX10_carve 47 = .ok (.dup2, 1) := by decide +kernel
theorem dX10_carve_48 : decode cX10_carve 48 = .ok (.iaload, 1) := by decide +kernel
theorem dX10_carve_49 : decode cX10_carve 49 = .ok (.iconst 1, 1) := by decide +kernel
theorem dX10_carve_50 : decode cX10_carve 50 = .ok (.iadd, 1) := by decide +kernel
theorem dX10_carve_51 : decode cX10_carve 51 = .ok (.iastore, 1) := by decide +kernel
theorem dX10_carve_52 : decode cX10_carve 52 = .ok (.aload_n 0, 1) := by decide +kernel
theorem dX10_carve_53 : decode cX10_carve 53 = .ok (.getfield 19, 3) := by decide +kernel
theorem dX10_carve_56 : decode cX10_carve 56 = .ok (.iconst 2, 1) := by decide +kernel
theorem dX10_carve_57 : decode cX10_carve 57 = .ok (.iaload, 1) := by decide +kernel
theorem dX10_carve_58 : decode cX10_carve 58 = .ok (.ireturn, 1) := by decide +kernel
theorem dX10_chip_0 : decode cX10_chip 0 = .ok (.aload_n 0, 1) := by decide +kernel
theorem dX10_chip_1 : decode cX10_chip 1 = .ok (.getfield 19, 3) := by decide +kernel
theorem dX10_chip_4 : decode cX10_chip 4 = .ok (.iconst 2, 1) := by decide +kernel
theorem dX10_chip_5 : decode cX10_chip 5 = .ok (.iaload, 1) := by decide +kernel
theorem dX10_chip_6 : decode cX10_chip 6 = .ok (.ifCond .ne 6, 3) := by decide +kernel
theorem dX10_chip_9 : decode cX10_chip 9 = .ok (.bipush (-2), 2) := by decide +kernel
theorem dX10_chip_11 : decode cX10_chip 11 = .ok (.ireturn, 1) := by decide +kernel
theorem dX10_chip_12 : decode cX10_chip 12 = .ok (.aload_n 0, 1) := by decide +kernel
theorem dX10_chip_13 : decode cX10_chip 13 = .ok (.invokevirtual 124, 3) := by decide +kernel
theorem dX10_chip_16 : decode cX10_chip 16 = .ok (.aload_n 0, 1) := by decide +kernel
theorem dX10_chip_17 : decode cX10_chip 17 = .ok (.getfield 19, 3) := by decide +kernel
theorem dX10_chip_20 : decode cX10_chip 20 = .ok (.iconst 2, 1) := by decide +kernel
theorem dX10_chip_21 : decode cX10_chip 21 = .ok (.dup2, 1) := by decide +kernel
theorem dX10_chip_22 : decode cX10_chip 22 = .ok (.iaload, 1) := by decide +kernel
theorem dX10_chip_23 : decode cX10_chip 23 = .ok (.iconst 1, 1) := by decide +kernel
theorem dX10_chip_24 : decode cX10_chip 24 = .ok (.isub, 1) := by decide +kernel
theorem dX10_chip_25 : decode cX10_chip 25 = .ok (.iastore, 1) := by decide +kernel
theorem dX10_chip_26 : decode cX10_chip 26 = .ok (.aload_n 0, 1) := by decide +kernel
theorem dX10_chip_27 : decode cX10_chip 27 = .ok (.getfield 19, 3) := by decide +kernel
theorem dX10_chip_30 : decode cX10_chip 30 = .ok (.iconst 3, 1) := by decide +kernel
theorem dX10_chip_31 : decode cX10_chip 31 = .ok (.aload_n 0, 1) := by decide +kernel
theorem dX10_chip_32 : decode cX10_chip 32 = .ok (.getfield 19, 3) := by decide +kernel
theorem dX10_chip_35 : decode cX10_chip 35 = .ok (.iconst 2, 1) := by decide +kernel
theorem dX10_chip_36 : decode cX10_chip 36 = .ok (.iaload, 1) := by decide +kernel
theorem dX10_chip_37 : decode cX10_chip 37 = .ok (.iadd, 1) := by decide +kernel
theorem dX10_chip_38 : decode cX10_chip 38 = .ok (.iaload, 1) := by decide +kernel
theorem dX10_chip_39 : decode cX10_chip 39 = .ok (.ireturn, 1) := by decide +kernel
theorem dX10_letterOf_0 : decode cX10_letterOf 0 = .ok (.aload_n 0, 1) := by decide +kernel
theorem dX10_letterOf_1 : decode cX10_letterOf 1 = .ok (.getfield 13, 3) := by decide +kernel
theorem dX10_letterOf_4 : decode cX10_letterOf 4 = .ok (.bipush 84, 2) := by decide +kernel
theorem dX10_letterOf_6 : decode cX10_letterOf 6 = .ok (.bipush 10, 2) := by decide +kernel
theorem dX10_letterOf_8 : decode cX10_letterOf 8 = .ok (.iload_n 1, 1) := by decide +kernel
theorem dX10_letterOf_9 : decode cX10_letterOf 9 = .ok (.imul, 1) := by decide +kernel
theorem dX10_letterOf_10 : decode cX10_letterOf 10 = .ok (.iadd, 1) := by decide +kernel
theorem dX10_letterOf_11 : decode cX10_letterOf 11 = .ok (.iconst 2, 1) := by decide +kernel
theorem dX10_letterOf_12 : decode cX10_letterOf 12 = .ok (.iadd, 1) := by decide +kernel
theorem dX10_letterOf_13 : decode cX10_letterOf 13 = .ok (.iload_n 2, 1) := by decide +kernel
theorem dX10_letterOf_14 : decode cX10_letterOf 14 = .ok (.iadd, 1) := by decide +kernel
theorem dX10_letterOf_15 : decode cX10_letterOf 15 = .ok (.iaload, 1) := by decide +kernel
theorem dX10_letterOf_16 : decode cX10_letterOf 16 = .ok (.ireturn, 1) := by decide +kernel
theorem dX10_long1_0 : decode cX10_long1 0 = .ok (.aload_n 0, 1) := by decide +kernel
theorem dX10_long1_1 : decode cX10_long1 1 = .ok (.getfield 13, 3) := by decide +kernel
theorem dX10_long1_4 : decode cX10_long1 4 = .ok (.bipush 84, 2) := by decide +kernel
theorem dX10_long1_6 : decode cX10_long1 6 = .ok (.bipush 10, 2) := by decide +kernel
theorem dX10_long1_8 : decode cX10_long1 8 = .ok (.iload_n 1, 1) := by decide +kernel
theorem dX10_long1_9 : decode cX10_long1 9 = .ok (.imul, 1) := by decide +kernel
theorem dX10_long1_10 : decode cX10_long1 10 = .ok (.iadd, 1) := by decide +kernel
theorem dX10_long1_11 : decode cX10_long1 11 = .ok (.iconst 1, 1) := by decide +kernel
theorem dX10_long1_12 : decode cX10_long1 12 = .ok (.iadd, 1) := by decide +kernel
theorem dX10_long1_13 : decode cX10_long1 13 = .ok (.iaload, 1) := by decide +kernel
theorem dX10_long1_14 : decode cX10_long1 14 = .ok (.ireturn, 1) := by decide +kernel
theorem dX10_isVowel_0 : decode cX10_isVowel 0 = .ok (.aload_n 0, 1) := by decide +kernel
theorem dX10_isVowel_1 : decode cX10_isVowel 1 = .ok (.iload_n 1, 1) := by decide +kernel
theorem dX10_isVowel_2 : decode cX10_isVowel 2 = .ok (.iload_n 2, 1) := by decide +kernel
theorem dX10_isVowel_3 : decode cX10_isVowel 3 = .ok (.invokevirtual 130, 3) := by decide +kernel
theorem dX10_isVowel_6 : decode cX10_isVowel 6 = .ok (.istore_n 3, 1) := by decide +kernel
theorem dX10_isVowel_7 : decode cX10_isVowel 7 = .ok (.iload_n 3, 1) := by decide +kernel
theorem dX10_isVowel_8 : decode cX10_isVowel 8 = .ok (.bipush 97, 2) := by decide +kernel
theorem dX10_isVowel_10 : decode cX10_isVowel 10 = .ok (.if_icmp .eq 27, 3) := by decide +kernel
theorem dX10_isVowel_13 : decode cX10_isVowel 13 = .ok (.iload_n 3, 1) := by decide +kernel
theorem dX10_isVowel_14 : decode cX10_isVowel 14 = .ok (.bipush 101, 2) := by decide +kernel
theorem dX10_isVowel_16 : decode cX10_isVowel 16 = .ok (.if_icmp .eq 21, 3) := by decide +kernel
theorem dX10_isVowel_19 : decode cX10_isVowel 19 = .ok (.iload_n 3, 1) := by decide +kernel
theorem dX10_isVowel_20 : decode cX10_isVowel 20 = .ok (.bipush 105, 2) := by decide +kernel
theorem dX10_isVowel_22 : decode cX10_isVowel 22 = .ok (.if_icmp .eq 15, 3) := by decide +kernel
theorem dX10_isVowel_25 : decode cX10_isVowel 25 = .ok (.iload_n 3, 1) := by decide +kernel
theorem dX10_isVowel_26 : decode cX10_isVowel 26 = .ok (.bipush 111, 2) := by decide +kernel
theorem dX10_isVowel_28 : decode cX10_isVowel 28 = .ok (.if_icmp .eq 9, 3) := by decide +kernel
theorem dX10_isVowel_31 : decode cX10_isVowel 31 = .ok (.iload_n 3, 1) := by decide +kernel
theorem dX10_isVowel_32 : decode cX10_isVowel 32 = .ok (.bipush 117, 2) := by decide +kernel
theorem dX10_isVowel_34 : decode cX10_isVowel 34 = .ok (.if_icmp .ne 7, 3) := by decide +kernel
theorem dX10_isVowel_37 : decode cX10_isVowel 37 = .ok (.iconst 1, 1) := by decide +kernel
theorem dX10_isVowel_38 : decode cX10_isVowel 38 = .ok (.goto 4, 3) := by decide +kernel
theorem dX10_isVowel_41 : decode cX10_isVowel 41 = .ok (.iconst 0, 1) := by decide +kernel
theorem dX10_isVowel_42 : decode cX10_isVowel 42 = .ok (.ireturn, 1) := by decide +kernel
theorem dX10_soundLong_0 : decode cX10_soundLong 0 = .ok (.aload_n 0, 1) := by decide +kernel
theorem dX10_soundLong_1 : decode cX10_soundLong 1 = .ok (.getfield 13, 3) := by decide +kernel
theorem dX10_soundLong_4 : decode cX10_soundLong 4 = .ok (.bipush 7, 2) := by decide +kernel
theorem dX10_soundLong_6 : decode cX10_soundLong 6 = .ok (.iload_n 1, 1) := by decide +kernel
theorem dX10_soundLong_7 : decode cX10_soundLong 7 = .ok (.imul, 1) := by decide +kernel
theorem dX10_soundLong_8 : decode cX10_soundLong 8 = .ok (.iconst 2, 1) := by decide +kernel
theorem dX10_soundLong_9 : decode cX10_soundLong 9 = .ok (.iadd, 1) := by decide +kernel
theorem dX10_soundLong_10 : decode cX10_soundLong 10 = .ok (.iaload, 1) := by decide +kernel
theorem dX10_soundLong_11 : decode cX10_soundLong 11 = .ok (.ireturn, 1) := by decide +kernel
theorem dX10_lies_0 : decode cX10_lies 0 = .ok (.iload_n 2, 1) := by decide +kernel
theorem dX10_lies_1 : decode cX10_lies 1 = .ok (.aload_n 0, 1) := by decide +kernel
theorem dX10_lies_2 : decode cX10_lies 2 = .ok (.iload_n 3, 1) := by decide +kernel
theorem dX10_lies_3 : decode cX10_lies 3 = .ok (.invokevirtual 134, 3) := by decide +kernel
theorem dX10_lies_6 : decode cX10_lies 6 = .ok (.iadd, 1) := by decide +kernel
theorem dX10_lies_7 : decode cX10_lies 7 = .ok (.aload_n 0, 1) := by decide +kernel
theorem dX10_lies_8 : decode cX10_lies 8 = .ok (.iload_n 1, 1) := by decide +kernel
theorem dX10_lies_9 : decode cX10_lies 9 = .ok (.invokevirtual 137, 3) := by decide +kernel
theorem dX10_lies_12 : decode cX10_lies 12 = .ok (.if_icmp .gt 7, 3) := by decide +kernel
theorem dX10_lies_15 : decode cX10_lies 15 = .ok (.iconst 1, 1) := by decide +kernel
theorem dX10_lies_16 : decode cX10_lies 16 = .ok (.goto 4, 3) := by decide +kernel
theorem dX10_lies_19 : decode cX10_lies 19 = .ok (.iconst 0, 1) := by decide +kernel
theorem dX10_lies_20 : decode cX10_lies 20 = .ok (.istore 4, 2) := by decide +kernel
theorem dX10_lies_22 : decode cX10_lies 22 = .ok (.iconst 0, 1) := by decide +kernel
theorem dX10_lies_23 : decode cX10_lies 23 = .ok (.istore 5, 2) := by decide +kernel
theorem dX10_lies_25 : decode cX10_lies 25 = .ok (.iload 5, 2) := by decide +kernel
theorem dX10_lies_27 : decode cX10_lies 27 = .ok (.aload_n 0, 1) := by decide +kernel
theorem dX10_lies_28 : decode cX10_lies 28 = .ok (.iload_n 3, 1) := by decide +kernel
theorem dX10_lies_29 : decode cX10_lies 29 = .ok (.invokevirtual 134, 3) := by decide +kernel
theorem dX10_lies_32 : decode cX10_lies 32 = .ok (.if_icmp .ge 47, 3) := by decide +kernel
theorem dX10_lies_35 : decode cX10_lies 35 = .ok (.iload 4, 2) := by decide +kernel
theorem dX10_lies_37 : decode cX10_lies 37 = .ok (.ifCond .eq 42, 3) := by decide +kernel
theorem dX10_lies_40 : decode cX10_lies 40 = .ok (.aload_n 0, 1) := by decide +kernel
theorem dX10_lies_41 : decode cX10_lies 41 = .ok (.iload_n 1, 1) := by decide +kernel
theorem dX10_lies_42 : decode cX10_lies 42 = .ok (.iload_n 2, 1) := by decide +kernel
theorem dX10_lies_43 : decode cX10_lies 43 = .ok (.iload 5, 2) := by decide +kernel
theorem dX10_lies_45 : decode cX10_lies 45 = .ok (.iadd, 1) := by decide +kernel
theorem dX10_lies_46 : decode cX10_lies 46 = .ok (.invokevirtual 130, 3) := by decide +kernel
theorem dX10_lies_49 : decode cX10_lies 49 = .ok (.aload_n 0, 1) := by decide +kernel
theorem dX10_lies_50 : decode cX10_lies 50 = .ok (.getfield 13, 3) := by decide +kernel
theorem dX10_lies_53 : decode cX10_lies 53 = .ok (.bipush 7, 2) := by decide +kernel
theorem dX10_lies_55 : decode cX10_lies 55 = .ok (.iload_n 3, 1) := by decide +kernel
theorem dX10_lies_56 : decode cX10_lies 56 = .ok (.imul, 1) := by decide +kernel
theorem dX10_lies_57 : decode cX10_lies 57 = .ok (.iconst 3, 1) := by decide +kernel
theorem dX10_lies_58 : decode cX10_lies 58 = .ok (.iadd, 1) := by decide +kernel
theorem dX10_lies_59 : decode cX10_lies 59 = .ok (.iload 5, 2) := by decide +kernel
theorem dX10_lies_61 : decode cX10_lies 61 = .ok (.iadd, 1) := by decide +kernel
theorem dX10_lies_62 : decode cX10_lies 62 = .ok (.iaload, 1) := by decide +kernel
theorem dX10_lies_63 : decode cX10_lies 63 = .ok (.if_icmp .ne 7, 3) := by decide +kernel
theorem dX10_lies_66 : decode cX10_lies 66 = .ok (.iconst 1, 1) := by decide +kernel
theorem dX10_lies_67 : decode cX10_lies 67 = .ok (.goto 4, 3) := by decide +kernel
theorem dX10_lies_70 : decode cX10_lies 70 = .ok (.iconst 0, 1) := by decide +kernel
theorem dX10_lies_71 : decode cX10_lies 71 = .ok (.istore 4, 2) := by decide +kernel
theorem dX10_lies_73 : decode cX10_lies 73 = .ok (.iinc 5 1, 3) := by decide +kernel
theorem dX10_lies_76 : decode cX10_lies 76 = .ok (.goto (-51), 3) := by decide +kernel
theorem dX10_lies_79 : decode cX10_lies 79 = .ok (.iload 4, 2) := by decide +kernel
theorem dX10_lies_81 : decode cX10_lies 81 = .ok (.ireturn, 1) := by decide +kernel
theorem dX10_skips_0 : decode cX10_skips 0 = .ok (.iload_n 2, 1) := by decide +kernel
theorem dX10_skips_1 : decode cX10_skips 1 = .ok (.istore_n 3, 1) := by decide +kernel
theorem dX10_skips_2 : decode cX10_skips 2 = .ok (.iconst 0, 1) := by decide +kernel
theorem dX10_skips_3 : decode cX10_skips 3 = .ok (.istore 4, 2) := by decide +kernel
theorem dX10_skips_5 : decode cX10_skips 5 = .ok (.iload 4, 2) := by decide +kernel
theorem dX10_skips_7 : decode cX10_skips 7 = .ok (.aload_n 0, 1) := by decide +kernel
theorem dX10_skips_8 : decode cX10_skips 8 = .ok (.iload_n 1, 1) := by decide +kernel
theorem dX10_skips_9 : decode cX10_skips 9 = .ok (.invokevirtual 137, 3) := by decide +kernel
theorem dX10_skips_12 : decode cX10_skips 12 = .ok (.if_icmp .ge 52, 3) := by decide +kernel
theorem dX10_skips_15 : decode cX10_skips 15 = .ok (.aload_n 0, 1) := by decide +kernel
theorem dX10_skips_16 : decode cX10_skips 16 = .ok (.getfield 19, 3) := by decide +kernel
theorem dX10_skips_19 : decode cX10_skips 19 = .ok (.iconst 0, 1) := by decide +kernel
theorem dX10_skips_20 : decode cX10_skips 20 = .ok (.iaload, 1) := by decide +kernel
theorem dX10_skips_21 : decode cX10_skips 21 = .ok (.iconst 1, 1) := by decide +kernel
theorem dX10_skips_22 : decode cX10_skips 22 = .ok (.if_icmp .ne 42, 3) := by decide +kernel
theorem dX10_skips_25 : decode cX10_skips 25 = .ok (.iload_n 3, 1) := by decide +kernel
theorem dX10_skips_26 : decode cX10_skips 26 = .ok (.iload_n 3, 1) := by decide +kernel
theorem dX10_skips_27 : decode cX10_skips 27 = .ok (.iload 4, 2) := by decide +kernel
theorem dX10_skips_29 : decode cX10_skips 29 = .ok (.ishr, 1) := by decide +kernel
theorem dX10_skips_30 : decode cX10_skips 30 = .ok (.iconst 1, 1) := by decide +kernel
theorem dX10_skips_31 : decode cX10_skips 31 = .ok (.iand, 1) := by decide +kernel
theorem dX10_skips_32 : decode cX10_skips 32 = .ok (.iconst 1, 1) := by decide +kernel
theorem dX10_skips_33 : decode cX10_skips 33 = .ok (.if_icmp .ne 22, 3) := by decide +kernel
theorem dX10_skips_36 : decode cX10_skips 36 = .ok (.aload_n 0, 1) := by decide +kernel
theorem dX10_skips_37 : decode cX10_skips 37 = .ok (.iload_n 1, 1) := by decide +kernel
theorem dX10_skips_38 : decode cX10_skips 38 = .ok (.iload 4, 2) := by decide +kernel
theorem dX10_skips_40 : decode cX10_skips 40 = .ok (.invokevirtual 140, 3) := by decide +kernel
theorem dX10_skips_43 : decode cX10_skips 43 = .ok (.ifCond .eq 12, 3) := by decide +kernel
theorem dX10_skips_46 : decode cX10_skips 46 = .ok (.iconst 1, 1) := by decide +kernel
theorem dX10_skips_47 : decode cX10_skips 47 = .ok (.iload 4, 2) := by decide +kernel
theorem dX10_skips_49 : decode cX10_skips 49 = .ok (.iconst 1, 1) := by decide +kernel
theorem dX10_skips_50 : decode cX10_skips 50 = .ok (.iadd, 1) := by decide +kernel
theorem dX10_skips_51 : decode cX10_skips 51 = .ok (.ishl, 1) := by decide +kernel
theorem dX10_skips_52 : decode cX10_skips 52 = .ok (.goto 4, 3) := by decide +kernel
theorem dX10_skips_55 : decode cX10_skips 55 = .ok (.iconst 0, 1) := by decide +kernel
theorem dX10_skips_56 : decode cX10_skips 56 = .ok (.ior, 1) := by decide +kernel
theorem dX10_skips_57 : decode cX10_skips 57 = .ok (.istore_n 3, 1) := by decide +kernel
theorem dX10_skips_58 : decode cX10_skips 58 = .ok (.iinc 4 1, 3) := by decide +kernel
theorem dX10_skips_61 : decode cX10_skips 61 = .ok (.goto (-56), 3) := by decide +kernel
theorem dX10_skips_64 : decode cX10_skips 64 = .ok (.iload_n 3, 1) := by decide +kernel
theorem dX10_skips_65 : decode cX10_skips 65 = .ok (.ireturn, 1) := by decide +kernel
theorem dX10_steps_0 : decode cX10_steps 0 = .ok (.aload_n 0, 1) := by decide +kernel
theorem dX10_steps_1 : decode cX10_steps 1 = .ok (.iload_n 1, 1) := by decide +kernel
theorem dX10_steps_2 : decode cX10_steps 2 = .ok (.iload_n 2, 1) := by decide +kernel
theorem dX10_steps_3 : decode cX10_steps 3 = .ok (.invokevirtual 143, 3) := by decide +kernel
theorem dX10_steps_6 : decode cX10_steps 6 = .ok (.istore 4, 2) := by decide +kernel
theorem dX10_steps_8 : decode cX10_steps 8 = .ok (.iconst 0, 1) := by decide +kernel
theorem dX10_steps_9 : decode cX10_steps 9 = .ok (.istore 5, 2) := by decide +kernel
theorem dX10_steps_11 : decode cX10_steps 11 = .ok (.iconst 0, 1) := by decide +kernel
theorem dX10_steps_12 : decode cX10_steps 12 = .ok (.istore 6, 2) := by decide +kernel
theorem dX10_steps_14 : decode cX10_steps 14 = .ok (.iload 6, 2) := by decide +kernel
theorem dX10_steps_16 : decode cX10_steps 16 = .ok (.aload_n 0, 1) := by decide +kernel
theorem dX10_steps_17 : decode cX10_steps 17 = .ok (.iload_n 1, 1) := by decide +kernel
theorem dX10_steps_18 : decode cX10_steps 18 = .ok (.invokevirtual 137, 3) := by decide +kernel
theorem dX10_steps_21 : decode cX10_steps 21 = .ok (.if_icmp .ge 50, 3) := by decide +kernel
theorem dX10_steps_24 : decode cX10_steps 24 = .ok (.iload 5, 2) := by decide +kernel
theorem dX10_steps_26 : decode cX10_steps 26 = .ok (.iload 4, 2) := by decide +kernel
theorem dX10_steps_28 : decode cX10_steps 28 = .ok (.iload 6, 2) := by decide +kernel
theorem dX10_steps_30 : decode cX10_steps 30 = .ok (.ishr, 1) := by decide +kernel
theorem dX10_steps_31 : decode cX10_steps 31 = .ok (.iconst 1, 1) := by decide +kernel
theorem dX10_steps_32 : decode cX10_steps 32 = .ok (.iand, 1) := by decide +kernel
theorem dX10_steps_33 : decode cX10_steps 33 = .ok (.iconst 1, 1) := by decide +kernel
theorem dX10_steps_34 : decode cX10_steps 34 = .ok (.if_icmp .ne 27, 3) := by decide +kernel
theorem dX10_steps_37 : decode cX10_steps 37 = .ok (.aload_n 0, 1) := by decide +kernel
theorem dX10_steps_38 : decode cX10_steps 38 = .ok (.iload_n 1, 1) := by decide +kernel
theorem dX10_steps_39 : decode cX10_steps 39 = .ok (.iload 6, 2) := by decide +kernel
theorem dX10_steps_41 : decode cX10_steps 41 = .ok (.iload_n 3, 1) := by decide +kernel
theorem dX10_steps_42 : decode cX10_steps 42 = .ok (.invokevirtual 146, 3) := by decide +kernel
theorem dX10_steps_45 : decode cX10_steps 45 = .ok (.ifCond .eq 16, 3) := by decide +kernel
theorem dX10_steps_48 : decode cX10_steps 48 = .ok (.iconst 1, 1) := by decide +kernel
theorem dX10_steps_49 : decode cX10_steps 49 = .ok (.iload 6, 2) := by decide +kernel
theorem dX10_steps_51 : decode cX10_steps 51 = .ok (.aload_n 0, 1) := by decide +kernel
theorem dX10_steps_52 : decode cX10_steps 52 = .ok (.iload_n 3, 1) := by decide +kernel
theorem dX10_steps_53 : decode cX10_steps 53 = .ok (.invokevirtual 134, 3) := by decide +kernel
theorem dX10_steps_56 : decode cX10_steps 56 = .ok (.iadd, 1) := by decide +kernel
theorem dX10_steps_57 : decode cX10_steps 57 = .ok (.ishl, 1) := by decide +kernel
theorem dX10_steps_58 : decode cX10_steps 58 = .ok (.goto 4, 3) := by decide +kernel
theorem dX10_steps_61 : decode cX10_steps 61 = .ok (.iconst 0, 1) := by decide +kernel
theorem dX10_steps_62 : decode cX10_steps 62 = .ok (.ior, 1) := by decide +kernel
theorem dX10_steps_63 : decode cX10_steps 63 = .ok (.istore 5, 2) := by decide +kernel
theorem dX10_steps_65 : decode cX10_steps 65 = .ok (.iinc 6 1, 3) := by decide +kernel
theorem dX10_steps_68 : decode cX10_steps 68 = .ok (.goto (-54), 3) := by decide +kernel
theorem dX10_steps_71 : decode cX10_steps 71 = .ok (.iload 5, 2) := by decide +kernel
theorem dX10_steps_73 : decode cX10_steps 73 = .ok (.ireturn, 1) := by decide +kernel
theorem dX10_isWhole_0 : decode cX10_isWhole 0 = .ok (.aload_n 0, 1) := by decide +kernel
theorem dX10_isWhole_1 : decode cX10_isWhole 1 = .ok (.iload_n 1, 1) := by decide +kernel
theorem dX10_isWhole_2 : decode cX10_isWhole 2 = .ok (.iload_n 2, 1) := by decide +kernel
theorem dX10_isWhole_3 : decode cX10_isWhole 3 = .ok (.invokevirtual 143, 3) := by decide +kernel
theorem dX10_isWhole_6 : decode cX10_isWhole 6 = .ok (.aload_n 0, 1) := by decide +kernel
theorem dX10_isWhole_7 : decode cX10_isWhole 7 = .ok (.iload_n 1, 1) := by decide +kernel
theorem dX10_isWhole_8 : decode cX10_isWhole 8 = .ok (.invokevirtual 137, 3) := by decide +kernel
theorem dX10_isWhole_11 : decode cX10_isWhole 11 = .ok (.ishr, 1) := by decide +kernel
theorem dX10_isWhole_12 : decode cX10_isWhole 12 = .ok (.iconst 1, 1) := by decide +kernel
theorem dX10_isWhole_13 : decode cX10_isWhole 13 = .ok (.iand, 1) := by decide +kernel
theorem dX10_isWhole_14 : decode cX10_isWhole 14 = .ok (.iconst 1, 1) := by decide +kernel
theorem dX10_isWhole_15 : decode cX10_isWhole 15 = .ok (.if_icmp .ne 7, 3) := by decide +kernel
theorem dX10_isWhole_18 : decode cX10_isWhole 18 = .ok (.iconst 1, 1) := by decide +kernel
theorem dX10_isWhole_19 : decode cX10_isWhole 19 = .ok (.goto 4, 3) := by decide +kernel
theorem dX10_isWhole_22 : decode cX10_isWhole 22 = .ok (.iconst 0, 1) := by decide +kernel
theorem dX10_isWhole_23 : decode cX10_isWhole 23 = .ok (.ireturn, 1) := by decide +kernel
theorem dX10_hasSound_0 : decode cX10_hasSound 0 = .ok (.aload_n 0, 1) := by decide +kernel
theorem dX10_hasSound_1 : decode cX10_hasSound 1 = .ok (.getfield 13, 3) := by decide +kernel
theorem dX10_hasSound_4 : decode cX10_hasSound 4 = .ok (.bipush 7, 2) := by decide +kernel
theorem dX10_hasSound_6 : decode cX10_hasSound 6 = .ok (.iload_n 1, 1) := by decide +kernel
theorem dX10_hasSound_7 : decode cX10_hasSound 7 = .ok (.imul, 1) := by decide +kernel
theorem dX10_hasSound_8 : decode cX10_hasSound 8 = .ok (.iaload, 1) := by decide +kernel
theorem dX10_hasSound_9 : decode cX10_hasSound 9 = .ok (.iconst 2, 1) := by decide +kernel
theorem dX10_hasSound_10 : decode cX10_hasSound 10 = .ok (.if_icmp .eq 7, 3) := by decide +kernel
theorem dX10_hasSound_13 : decode cX10_hasSound 13 = .ok (.iconst 1, 1) := by decide +kernel
theorem dX10_hasSound_14 : decode cX10_hasSound 14 = .ok (.goto 4, 3) := by decide +kernel
theorem dX10_hasSound_17 : decode cX10_hasSound 17 = .ok (.iconst 0, 1) := by decide +kernel
theorem dX10_hasSound_18 : decode cX10_hasSound 18 = .ok (.ireturn, 1) := by decide +kernel
theorem dX10_isWriting_0 : decode cX10_isWriting 0 = .ok (.iconst 1, 1) := by decide +kernel
theorem dX10_isWriting_1 : decode cX10_isWriting 1 = .ok (.istore 5, 2) := by decide +kernel
theorem dX10_isWriting_3 : decode cX10_isWriting 3 = .ok (.iconst 0, 1) := by decide +kernel
theorem dX10_isWriting_4 : decode cX10_isWriting 4 = .ok (.istore 6, 2) := by decide +kernel
theorem dX10_isWriting_6 : decode cX10_isWriting 6 = .ok (.iconst 0, 1) := by decide +kernel
theorem dX10_isWriting_7 : decode cX10_isWriting 7 = .ok (.istore 7, 2) := by decide +kernel
theorem dX10_isWriting_9 : decode cX10_isWriting 9 = .ok (.iload 7, 2) := by decide +kernel
theorem dX10_isWriting_11 : decode cX10_isWriting 11 = .ok (.iload 4, 2) := by decide +kernel
theorem dX10_isWriting_13 : decode cX10_isWriting 13 = .ok (.if_icmp .ge 117, 3) := by decide +kernel
theorem dX10_isWriting_16 : decode cX10_isWriting 16 = .ok (.aload_n 2, 1) := by decide +kernel
theorem dX10_isWriting_17 : decode cX10_isWriting 17 = .ok (.iload_n 3, 1) := by decide +kernel
theorem dX10_isWriting_18 : decode cX10_isWriting 18 = .ok (.iload 7, 2) := by decide +kernel
theorem dX10_isWriting_20 : decode cX10_isWriting 20 = .ok (.iadd, 1) := by decide +kernel
theorem dX10_isWriting_21 : decode cX10_isWriting 21 = .ok (.iaload, 1) := by decide +kernel
theorem dX10_isWriting_22 : decode cX10_isWriting 22 = .ok (.istore 8, 2) := by decide +kernel
theorem dX10_isWriting_24 : decode cX10_isWriting 24 = .ok (.aload_n 0, 1) := by decide +kernel
theorem dX10_isWriting_25 : decode cX10_isWriting 25 = .ok (.iload 8, 2) := by decide +kernel
theorem dX10_isWriting_27 : decode cX10_isWriting 27 = .ok (.invokevirtual 121, 3) := by decide +kernel
theorem dX10_isWriting_30 : decode cX10_isWriting 30 = .ok (.ifCond .ne 48, 3) := by decide +kernel
theorem dX10_isWriting_33 : decode cX10_isWriting 33 = .ok (.aload_n 0, 1) := by decide +kernel
theorem dX10_isWriting_34 : decode cX10_isWriting 34 = .ok (.iload 8, 2) := by decide +kernel
theorem dX10_isWriting_36 : decode cX10_isWriting 36 = .ok (.invokevirtual 150, 3) := by decide +kernel
theorem dX10_isWriting_39 : decode cX10_isWriting 39 = .ok (.ifCond .ne 41, 3) := by decide +kernel
theorem dX10_isWriting_42 : decode cX10_isWriting 42 = .ok (.iload 7, 2) := by decide +kernel
theorem dX10_isWriting_44 : decode cX10_isWriting 44 = .ok (.iload 4, 2) := by decide +kernel
theorem dX10_isWriting_46 : decode cX10_isWriting 46 = .ok (.iconst 1, 1) := by decide +kernel
theorem dX10_isWriting_47 : decode cX10_isWriting 47 = .ok (.isub, 1) := by decide +kernel
theorem dX10_isWriting_48 : decode cX10_isWriting 48 = .ok (.if_icmp .lt 30, 3) := by decide +kernel
theorem dX10_isWriting_51 : decode cX10_isWriting 51 = .ok (.aload_n 0, 1) := by decide +kernel
theorem dX10_isWriting_52 : decode cX10_isWriting 52 = .ok (.getfield 13, 3) := by decide +kernel
theorem dX10_isWriting_55 : decode cX10_isWriting 55 = .ok (.bipush 7, 2) := by decide +kernel
theorem dX10_isWriting_57 : decode cX10_isWriting 57 = .ok (.iload 8, 2) := by decide +kernel
theorem dX10_isWriting_59 : decode cX10_isWriting 59 = .ok (.imul, 1) := by decide +kernel
theorem dX10_isWriting_60 : decode cX10_isWriting 60 = .ok (.iconst 1, 1) := by decide +kernel
theorem dX10_isWriting_61 : decode cX10_isWriting 61 = .ok (.iadd, 1) := by decide +kernel
theorem dX10_isWriting_62 : decode cX10_isWriting 62 = .ok (.iaload, 1) := by decide +kernel
theorem dX10_isWriting_63 : decode cX10_isWriting 63 = .ok (.aload_n 0, 1) := by decide +kernel
theorem dX10_isWriting_64 : decode cX10_isWriting 64 = .ok (.getfield 13, 3) := by decide +kernel
theorem dX10_isWriting_67 : decode cX10_isWriting 67 = .ok (.bipush 84, 2) := by decide +kernel
theorem dX10_isWriting_69 : decode cX10_isWriting 69 = .ok (.bipush 10, 2) := by decide +kernel
theorem dX10_isWriting_71 : decode cX10_isWriting 71 = .ok (.iload_n 1, 1) := by decide +kernel
theorem dX10_isWriting_72 : decode cX10_isWriting 72 = .ok (.imul, 1) := by decide +kernel
theorem dX10_isWriting_73 : decode cX10_isWriting 73 = .ok (.iadd, 1) := by decide +kernel
theorem dX10_isWriting_74 : decode cX10_isWriting 74 = .ok (.iaload, 1) := by decide +kernel
theorem dX10_isWriting_75 : decode cX10_isWriting 75 = .ok (.if_icmp .eq 5, 3) := by decide +kernel
theorem dX10_isWriting_78 : decode cX10_isWriting 78 = .ok (.iconst 0, 1) := by decide +kernel
theorem dX10_isWriting_79 : decode cX10_isWriting 79 = .ok (.ireturn, 1) := by decide +kernel
theorem dX10_isWriting_80 : decode cX10_isWriting 80 = .ok (.aload_n 0, 1) := by decide +kernel
theorem dX10_isWriting_81 : decode cX10_isWriting 81 = .ok (.iload 8, 2) := by decide +kernel
theorem dX10_isWriting_83 : decode cX10_isWriting 83 = .ok (.invokevirtual 150, 3) := by decide +kernel
theorem dX10_isWriting_86 : decode cX10_isWriting 86 = .ok (.ifCond .eq 15, 3) := by decide +kernel
theorem dX10_isWriting_89 : decode cX10_isWriting 89 = .ok (.aload_n 0, 1) := by decide +kernel
theorem dX10_isWriting_90 : decode cX10_isWriting 90 = .ok (.iload_n 1, 1) := by decide +kernel
theorem dX10_isWriting_91 : decode cX10_isWriting 91 = .ok (.iload 5, 2) := by decide +kernel
theorem dX10_isWriting_93 : decode cX10_isWriting 93 = .ok (.iload 8, 2) := by decide +kernel
theorem dX10_isWriting_95 : decode cX10_isWriting 95 = .ok (.invokevirtual 153, 3) := by decide +kernel
theorem dX10_isWriting_98 : decode cX10_isWriting 98 = .ok (.goto 5, 3) := by decide +kernel
theorem dX10_isWriting_101 : decode cX10_isWriting 101 = .ok (.iload 5, 2) := by decide +kernel
theorem dX10_isWriting_103 : decode cX10_isWriting 103 = .ok (.istore 5, 2) := by decide +kernel
theorem dX10_isWriting_105 : decode cX10_isWriting 105 = .ok (.iload 6, 2) := by decide +kernel
theorem dX10_isWriting_107 : decode cX10_isWriting 107 = .ok (.aload_n 0, 1) := by decide +kernel
theorem dX10_isWriting_108 : decode cX10_isWriting 108 = .ok (.iload 8, 2) := by decide +kernel
theorem dX10_isWriting_110 : decode cX10_isWriting 110 = .ok (.invokevirtual 150, 3) := by decide +kernel
theorem dX10_isWriting_113 : decode cX10_isWriting 113 = .ok (.ifCond .eq 7, 3) := by decide +kernel
theorem dX10_isWriting_116 : decode cX10_isWriting 116 = .ok (.iconst 1, 1) := by decide +kernel
theorem dX10_isWriting_117 : decode cX10_isWriting 117 = .ok (.goto 4, 3) := by decide +kernel
theorem dX10_isWriting_120 : decode cX10_isWriting 120 = .ok (.iconst 0, 1) := by decide +kernel
theorem dX10_isWriting_121 : decode cX10_isWriting 121 = .ok (.iadd, 1) := by decide +kernel
theorem dX10_isWriting_122 : decode cX10_isWriting 122 = .ok (.istore 6, 2) := by decide +kernel
theorem dX10_isWriting_124 : decode cX10_isWriting 124 = .ok (.iinc 7 1, 3) := by decide +kernel
theorem dX10_isWriting_127 : decode cX10_isWriting 127 = .ok (.goto (-118), 3) := by decide +kernel
theorem dX10_isWriting_130 : decode cX10_isWriting 130 = .ok (.iload 4, 2) := by decide +kernel
theorem dX10_isWriting_132 : decode cX10_isWriting 132 = .ok (.bipush 10, 2) := by decide +kernel
theorem dX10_isWriting_134 : decode cX10_isWriting 134 = .ok (.if_icmp .ge 22, 3) := by decide +kernel
theorem dX10_isWriting_137 : decode cX10_isWriting 137 = .ok (.iload 6, 2) := by decide +kernel
theorem dX10_isWriting_139 : decode cX10_isWriting 139 = .ok (.ifCond .le 17, 3) := by decide +kernel
theorem dX10_isWriting_142 : decode cX10_isWriting 142 = .ok (.aload_n 0, 1) := by decide +kernel
theorem dX10_isWriting_143 : decode cX10_isWriting 143 = .ok (.iload_n 1, 1) := by decide +kernel
theorem dX10_isWriting_144 : decode cX10_isWriting 144 = .ok (.iload 5, 2) := by decide +kernel
theorem dX10_isWriting_146 : decode cX10_isWriting 146 = .ok (.invokevirtual 157, 3) := by decide +kernel
theorem dX10_isWriting_149 : decode cX10_isWriting 149 = .ok (.ifCond .eq 7, 3) := by decide +kernel
theorem dX10_isWriting_152 : decode cX10_isWriting 152 = .ok (.iconst 1, 1) := by decide +kernel
theorem dX10_isWriting_153 : decode cX10_isWriting 153 = .ok (.goto 4, 3) := by decide +kernel
theorem dX10_isWriting_156 : decode cX10_isWriting 156 = .ok (.iconst 0, 1) := by decide +kernel
theorem dX10_isWriting_157 : decode cX10_isWriting 157 = .ok (.ireturn, 1) := by decide +kernel
theorem dX10_reads_0 : decode cX10_reads 0 = .ok (.iconst 0, 1) := by decide +kernel
theorem dX10_reads_1 : decode cX10_reads 1 = .ok (.istore 4, 2) := by decide +kernel
theorem dX10_reads_3 : decode cX10_reads 3 = .ok (.aload_n 1, 1) := by decide +kernel
theorem dX10_reads_4 : decode cX10_reads 4 = .ok (.iload_n 2, 1) := by decide +kernel
theorem dX10_reads_5 : decode cX10_reads 5 = .ok (.iaload, 1) := by decide +kernel
theorem dX10_reads_6 : decode cX10_reads 6 = .ok (.istore 5, 2) := by decide +kernel
theorem dX10_reads_8 : decode cX10_reads 8 = .ok (.iconst 0, 1) := by decide +kernel
theorem dX10_reads_9 : decode cX10_reads 9 = .ok (.istore 6, 2) := by decide +kernel
theorem dX10_reads_11 : decode cX10_reads 11 = .ok (.iload 6, 2) := by decide +kernel
theorem dX10_reads_13 : decode cX10_reads 13 = .ok (.aload_n 0, 1) := by decide +kernel
theorem dX10_reads_14 : decode cX10_reads 14 = .ok (.getfield 13, 3) := by decide +kernel
theorem dX10_reads_17 : decode cX10_reads 17 = .ok (.sipush 165, 3) := by decide +kernel
theorem dX10_reads_20 : decode cX10_reads 20 = .ok (.iaload, 1) := by decide +kernel
theorem dX10_reads_21 : decode cX10_reads 21 = .ok (.if_icmp .ge 121, 3) := by decide +kernel
theorem dX10_reads_24 : decode cX10_reads 24 = .ok (.aload_n 0, 1) := by decide +kernel
theorem dX10_reads_25 : decode cX10_reads 25 = .ok (.iload 6, 2) := by decide +kernel
theorem dX10_reads_27 : decode cX10_reads 27 = .ok (.aload_n 1, 1) := by decide +kernel
theorem dX10_reads_28 : decode cX10_reads 28 = .ok (.iload_n 2, 1) := by decide +kernel
theorem dX10_reads_29 : decode cX10_reads 29 = .ok (.iload_n 3, 1) := by decide +kernel
theorem dX10_reads_30 : decode cX10_reads 30 = .ok (.invokevirtual 160, 3) := by decide +kernel
theorem dX10_reads_33 : decode cX10_reads 33 = .ok (.istore 7, 2) := by decide +kernel
theorem dX10_reads_35 : decode cX10_reads 35 = .ok (.iload 4, 2) := by decide +kernel
theorem dX10_reads_37 : decode cX10_reads 37 = .ok (.iload 7, 2) := by decide +kernel
theorem dX10_reads_39 : decode cX10_reads 39 = .ok (.ifCond .eq 10, 3) := by decide +kernel
theorem dX10_reads_42 : decode cX10_reads 42 = .ok (.iconst 1, 1) := by decide +kernel
theorem dX10_reads_43 : decode cX10_reads 43 = .ok (.iload 6, 2) := by decide +kernel
theorem dX10_reads_45 : decode cX10_reads 45 = .ok (.ishl, 1) := by decide +kernel
theorem dX10_reads_46 : decode cX10_reads 46 = .ok (.goto 4, 3) := by decide +kernel
theorem dX10_reads_49 : decode cX10_reads 49 = .ok (.iconst 0, 1) := by decide +kernel
theorem dX10_reads_50 : decode cX10_reads 50 = .ok (.ior, 1) := by decide +kernel
theorem dX10_reads_51 : decode cX10_reads 51 = .ok (.istore 4, 2) := by decide +kernel
theorem dX10_reads_53 : decode cX10_reads 53 = .ok (.iload 7, 2) := by decide +kernel
theorem dX10_reads_55 : decode cX10_reads 55 = .ok (.ifCond .eq 81, 3) := by decide +kernel
theorem dX10_reads_58 : decode cX10_reads 58 = .ok (.iload_n 3, 1) := by decide +kernel
theorem dX10_reads_59 : decode cX10_reads 59 = .ok (.iconst 1, 1) := by decide +kernel
theorem dX10_reads_60 : decode cX10_reads 60 = .ok (.if_icmp .ne 76, 3) := by decide +kernel
theorem dX10_reads_63 : decode cX10_reads 63 = .ok (.aload_n 0, 1) := by decide +kernel
theorem dX10_reads_64 : decode cX10_reads 64 = .ok (.getfield 13, 3) := by decide +kernel
theorem dX10_reads_67 : decode cX10_reads 67 = .ok (.bipush 7, 2) := by decide +kernel
theorem dX10_reads_69 : decode cX10_reads 69 = .ok (.iload 5, 2) := by decide +kernel
theorem dX10_reads_71 : decode cX10_reads 71 = .ok (.imul, 1) := by decide +kernel
theorem dX10_reads_72 : decode cX10_reads 72 = .ok (.iaload, 1) := by decide +kernel
theorem dX10_reads_73 : decode cX10_reads 73 = .ok (.ifCond .ne 63, 3) := by decide +kernel
theorem dX10_reads_76 : decode cX10_reads 76 = .ok (.aload_n 0, 1) := by decide +kernel
theorem dX10_reads_77 : decode cX10_reads 77 = .ok (.getfield 13, 3) := by decide +kernel
theorem dX10_reads_80 : decode cX10_reads 80 = .ok (.bipush 7, 2) := by decide +kernel
theorem dX10_reads_82 : decode cX10_reads 82 = .ok (.iload 5, 2) := by decide +kernel
theorem dX10_reads_84 : decode cX10_reads 84 = .ok (.imul, 1) := by decide +kernel
theorem dX10_reads_85 : decode cX10_reads 85 = .ok (.iconst 1, 1) := by decide +kernel
theorem dX10_reads_86 : decode cX10_reads 86 = .ok (.iadd, 1) := by decide +kernel
theorem dX10_reads_87 : decode cX10_reads 87 = .ok (.iaload, 1) := by decide +kernel
theorem dX10_reads_88 : decode cX10_reads 88 = .ok (.aload_n 0, 1) := by decide +kernel
theorem dX10_reads_89 : decode cX10_reads 89 = .ok (.getfield 13, 3) := by decide +kernel
theorem dX10_reads_92 : decode cX10_reads 92 = .ok (.bipush 84, 2) := by decide +kernel
theorem dX10_reads_94 : decode cX10_reads 94 = .ok (.bipush 10, 2) := by decide +kernel
theorem dX10_reads_96 : decode cX10_reads 96 = .ok (.iload 6, 2) := by decide +kernel
theorem dX10_reads_98 : decode cX10_reads 98 = .ok (.imul, 1) := by decide +kernel
theorem dX10_reads_99 : decode cX10_reads 99 = .ok (.iadd, 1) := by decide +kernel
theorem dX10_reads_100 : decode cX10_reads 100 = .ok (.iaload, 1) := by decide +kernel
theorem dX10_reads_101 : decode cX10_reads 101 = .ok (.if_icmp .ne 35, 3) := by decide +kernel
theorem dX10_reads_104 : decode cX10_reads 104 = .ok (.aload_n 0, 1) := by decide +kernel
theorem dX10_reads_105 : decode cX10_reads 105 = .ok (.iload 6, 2) := by decide +kernel
theorem dX10_reads_107 : decode cX10_reads 107 = .ok (.invokevirtual 137, 3) := by decide +kernel
theorem dX10_reads_110 : decode cX10_reads 110 = .ok (.aload_n 0, 1) := by decide +kernel
theorem dX10_reads_111 : decode cX10_reads 111 = .ok (.iload 5, 2) := by decide +kernel
theorem dX10_reads_113 : decode cX10_reads 113 = .ok (.invokevirtual 134, 3) := by decide +kernel
theorem dX10_reads_116 : decode cX10_reads 116 = .ok (.if_icmp .ne 20, 3) := by decide +kernel
theorem dX10_reads_119 : decode cX10_reads 119 = .ok (.aload_n 0, 1) := by decide +kernel
theorem dX10_reads_120 : decode cX10_reads 120 = .ok (.iload 6, 2) := by decide +kernel
theorem dX10_reads_122 : decode cX10_reads 122 = .ok (.iconst 0, 1) := by decide +kernel
theorem dX10_reads_123 : decode cX10_reads 123 = .ok (.iload 5, 2) := by decide +kernel
theorem dX10_reads_125 : decode cX10_reads 125 = .ok (.invokevirtual 146, 3) := by decide +kernel
theorem dX10_reads_128 : decode cX10_reads 128 = .ok (.ifCond .eq 8, 3) := by decide +kernel
theorem dX10_reads_131 : decode cX10_reads 131 = .ok (.iconst 1, 1) := by decide +kernel
theorem dX10_reads_132 : decode cX10_reads 132 = .ok (.iload 6, 2) := by decide +kernel
theorem dX10_reads_134 : decode cX10_reads 134 = .ok (.ishl, 1) := by decide +kernel
theorem dX10_reads_135 : decode cX10_reads 135 = .ok (.ireturn, 1) := by decide +kernel
theorem dX10_reads_136 : decode cX10_reads 136 = .ok (.iinc 6 1, 3) := by decide +kernel
theorem dX10_reads_139 : decode cX10_reads 139 = .ok (.goto (-128), 3) := by decide +kernel
theorem dX10_reads_142 : decode cX10_reads 142 = .ok (.iload 4, 2) := by decide +kernel
theorem dX10_reads_144 : decode cX10_reads 144 = .ok (.ireturn, 1) := by decide +kernel
theorem dX10_meets_0 : decode cX10_meets 0 = .ok (.aload_n 0, 1) := by decide +kernel
theorem dX10_meets_1 : decode cX10_meets 1 = .ok (.getfield 28, 3) := by decide +kernel
theorem dX10_meets_4 : decode cX10_meets 4 = .ok (.iload_n 1, 1) := by decide +kernel
theorem dX10_meets_5 : decode cX10_meets 5 = .ok (.iaload, 1) := by decide +kernel
theorem dX10_meets_6 : decode cX10_meets 6 = .ok (.ifCond .ge 33, 3) := by decide +kernel
theorem dX10_meets_9 : decode cX10_meets 9 = .ok (.aload_n 0, 1) := by decide +kernel
theorem dX10_meets_10 : decode cX10_meets 10 = .ok (.getfield 28, 3) := by decide +kernel
theorem dX10_meets_13 : decode cX10_meets 13 = .ok (.iload_n 1, 1) := by decide +kernel
theorem dX10_meets_14 : decode cX10_meets 14 = .ok (.aload_n 0, 1) := by decide +kernel
theorem dX10_meets_15 : decode cX10_meets 15 = .ok (.getfield 164, 3) := by decide +kernel
theorem dX10_meets_18 : decode cX10_meets 18 = .ok (.iastore, 1) := by decide +kernel
theorem dX10_meets_19 : decode cX10_meets 19 = .ok (.aload_n 0, 1) := by decide +kernel
theorem dX10_meets_20 : decode cX10_meets 20 = .ok (.getfield 25, 3) := by decide +kernel
theorem dX10_meets_23 : decode cX10_meets 23 = .ok (.aload_n 0, 1) := by decide +kernel
theorem dX10_meets_24 : decode cX10_meets 24 = .ok (.getfield 164, 3) := by decide +kernel
theorem dX10_meets_27 : decode cX10_meets 27 = .ok (.iload_n 1, 1) := by decide +kernel
theorem dX10_meets_28 : decode cX10_meets 28 = .ok (.iastore, 1) := by decide +kernel
theorem dX10_meets_29 : decode cX10_meets 29 = .ok (.aload_n 0, 1) := by decide +kernel
theorem dX10_meets_30 : decode cX10_meets 30 = .ok (.dup, 1) := by decide +kernel
theorem dX10_meets_31 : decode cX10_meets 31 = .ok (.getfield 164, 3) := by decide +kernel
theorem dX10_meets_34 : decode cX10_meets 34 = .ok (.iconst 1, 1) := by decide +kernel
theorem dX10_meets_35 : decode cX10_meets 35 = .ok (.iadd, 1) := by decide +kernel
theorem dX10_meets_36 : decode cX10_meets 36 = .ok (.putfield 164, 3) := by decide +kernel
theorem dX10_meets_39 : decode cX10_meets 39 = .ok (.aload_n 0, 1) := by decide +kernel
theorem dX10_meets_40 : decode cX10_meets 40 = .ok (.getfield 28, 3) := by decide +kernel
theorem dX10_meets_43 : decode cX10_meets 43 = .ok (.iload_n 1, 1) := by decide +kernel
theorem dX10_meets_44 : decode cX10_meets 44 = .ok (.iaload, 1) := by decide +kernel
theorem dX10_meets_45 : decode cX10_meets 45 = .ok (.ireturn, 1) := by decide +kernel
theorem dX10_explores_0 : decode cX10_explores 0 = .ok (.iconst 0, 1) := by decide +kernel
theorem dX10_explores_1 : decode cX10_explores 1 = .ok (.istore_n 2, 1) := by decide +kernel
theorem dX10_explores_2 : decode cX10_explores 2 = .ok (.iload_n 2, 1) := by decide +kernel
theorem dX10_explores_3 : decode cX10_explores 3 = .ok (.sipush 512, 3) := by decide +kernel
theorem dX10_explores_6 : decode cX10_explores 6 = .ok (.if_icmp .ge 16, 3) := by decide +kernel
theorem dX10_explores_9 : decode cX10_explores 9 = .ok (.aload_n 0, 1) := by decide +kernel
theorem dX10_explores_10 : decode cX10_explores 10 = .ok (.getfield 28, 3) := by decide +kernel
theorem dX10_explores_13 : decode cX10_explores 13 = .ok (.iload_n 2, 1) := by decide +kernel
theorem dX10_explores_14 : decode cX10_explores 14 = .ok (.iconst (-1), 1) := by decide +kernel
theorem dX10_explores_15 : decode cX10_explores 15 = .ok (.iastore, 1) := by decide +kernel
theorem dX10_explores_16 : decode cX10_explores 16 = .ok (.iinc 2 1, 3) := by decide +kernel
theorem dX10_explores_19 : decode cX10_explores 19 = .ok (.goto (-17), 3) := by decide +kernel
theorem dX10_explores_22 : decode cX10_explores 22 = .ok (.aload_n 0, 1) := by decide +kernel
theorem dX10_explores_23 : decode cX10_explores 23 = .ok (.iconst 0, 1) := by decide +kernel
theorem dX10_explores_24 : decode cX10_explores 24 = .ok (.putfield 164, 3) := by decide +kernel
theorem dX10_explores_27 : decode cX10_explores 27 = .ok (.aload_n 0, 1) := by decide +kernel
theorem dX10_explores_28 : decode cX10_explores 28 = .ok (.iconst 1, 1) := by decide +kernel
theorem dX10_explores_29 : decode cX10_explores 29 = .ok (.invokevirtual 167, 3) := by decide +kernel
theorem dX10_explores_32 : decode cX10_explores 32 = .ok (.istore_n 2, 1) := by decide +kernel
theorem dX10_explores_33 : decode cX10_explores 33 = .ok (.iload_n 2, 1) := by decide +kernel
theorem dX10_explores_34 : decode cX10_explores 34 = .ok (.istore_n 3, 1) := by decide +kernel
theorem dX10_explores_35 : decode cX10_explores 35 = .ok (.iload_n 3, 1) := by decide +kernel
theorem dX10_explores_36 : decode cX10_explores 36 = .ok (.aload_n 0, 1) := by decide +kernel
theorem dX10_explores_37 : decode cX10_explores 37 = .ok (.getfield 164, 3) := by decide +kernel
theorem dX10_explores_40 : decode cX10_explores 40 = .ok (.if_icmp .ge 95, 3) := by decide +kernel
theorem dX10_explores_43 : decode cX10_explores 43 = .ok (.iconst 0, 1) := by decide +kernel
theorem dX10_explores_44 : decode cX10_explores 44 = .ok (.istore 4, 2) := by decide +kernel
theorem dX10_explores_46 : decode cX10_explores 46 = .ok (.iload 4, 2) := by decide +kernel
theorem dX10_explores_48 : decode cX10_explores 48 = .ok (.aload_n 0, 1) := by decide +kernel
theorem dX10_explores_49 : decode cX10_explores 49 = .ok (.getfield 13, 3) := by decide +kernel
theorem dX10_explores_52 : decode cX10_explores 52 = .ok (.sipush 164, 3) := by decide +kernel
theorem dX10_explores_55 : decode cX10_explores 55 = .ok (.iaload, 1) := by decide +kernel
theorem dX10_explores_56 : decode cX10_explores 56 = .ok (.if_icmp .ge 73, 3) := by decide +kernel
theorem dX10_explores_59 : decode cX10_explores 59 = .ok (.aload_n 0, 1) := by decide +kernel
theorem dX10_explores_60 : decode cX10_explores 60 = .ok (.iload 4, 2) := by decide +kernel
theorem dX10_explores_62 : decode cX10_explores 62 = .ok (.invokevirtual 150, 3) := by decide +kernel
theorem dX10_explores_65 : decode cX10_explores 65 = .ok (.ifCond .eq 28, 3) := by decide +kernel
theorem dX10_explores_68 : decode cX10_explores 68 = .ok (.aload_n 0, 1) := by decide +kernel
theorem dX10_explores_69 : decode cX10_explores 69 = .ok (.iload 4, 2) := by decide +kernel
theorem dX10_explores_71 : decode cX10_explores 71 = .ok (.invokevirtual 121, 3) := by decide +kernel
theorem dX10_explores_74 : decode cX10_explores 74 = .ok (.ifCond .ne 19, 3) := by decide +kernel
theorem dX10_explores_77 : decode cX10_explores 77 = .ok (.aload_n 0, 1) := by decide +kernel
theorem dX10_explores_78 : decode cX10_explores 78 = .ok (.iload_n 1, 1) := by decide +kernel
theorem dX10_explores_79 : decode cX10_explores 79 = .ok (.aload_n 0, 1) := by decide +kernel
theorem dX10_explores_80 : decode cX10_explores 80 = .ok (.getfield 25, 3) := by decide +kernel
theorem dX10_explores_83 : decode cX10_explores 83 = .ok (.iload_n 3, 1) := by decide +kernel
theorem dX10_explores_84 : decode cX10_explores 84 = .ok (.iaload, 1) := by decide +kernel
theorem dX10_explores_85 : decode cX10_explores 85 = .ok (.iload 4, 2) := by decide +kernel
theorem dX10_explores_87 : decode cX10_explores 87 = .ok (.invokevirtual 153, 3) := by decide +kernel
theorem dX10_explores_90 : decode cX10_explores 90 = .ok (.goto 4, 3) := by decide +kernel
theorem dX10_explores_93 : decode cX10_explores 93 = .ok (.iconst 0, 1) := by decide +kernel
theorem dX10_explores_94 : decode cX10_explores 94 = .ok (.istore 5, 2) := by decide +kernel
theorem dX10_explores_96 : decode cX10_explores 96 = .ok (.aload_n 0, 1) := by decide +kernel
theorem dX10_explores_97 : decode cX10_explores 97 = .ok (.getfield 31, 3) := by decide +kernel
theorem dX10_explores_100 : decode cX10_explores 100 = .ok (.bipush 12, 2) := by decide +kernel
theorem dX10_explores_102 : decode cX10_explores 102 = .ok (.iload_n 3, 1) := by decide +kernel
theorem dX10_explores_103 : decode cX10_explores 103 = .ok (.imul, 1) := by decide +kernel
theorem dX10_explores_104 : decode cX10_explores 104 = .ok (.iload 4, 2) := by decide +kernel
theorem dX10_explores_106 : decode cX10_explores 106 = .ok (.iadd, 1) := by decide +kernel
theorem dX10_explores_107 : decode cX10_explores 107 = .ok (.iload 5, 2) := by decide +kernel
theorem dX10_explores_109 : decode cX10_explores 109 = .ok (.ifCond .le 12, 3) := by decide +kernel
theorem dX10_explores_112 : decode cX10_explores 112 = .ok (.aload_n 0, 1) := by decide +kernel
theorem dX10_explores_113 : decode cX10_explores 113 = .ok (.iload 5, 2) := by decide +kernel
theorem dX10_explores_115 : decode cX10_explores 115 = .ok (.invokevirtual 167, 3) := by decide +kernel
theorem dX10_explores_118 : decode cX10_explores 118 = .ok (.goto 4, 3) := by decide +kernel
theorem dX10_explores_121 : decode cX10_explores 121 = .ok (.iconst (-1), 1) := by decide +kernel
theorem dX10_explores_122 : decode cX10_explores 122 = .ok (.iastore, 1) := by decide +kernel
theorem dX10_explores_123 : decode cX10_explores 123 = .ok (.iinc 4 1, 3) := by decide +kernel
theorem dX10_explores_126 : decode cX10_explores 126 = .ok (.goto (-80), 3) := by decide +kernel
theorem dX10_explores_129 : decode cX10_explores 129 = .ok (.iinc 3 1, 3) := by decide +kernel
theorem dX10_explores_132 : decode cX10_explores 132 = .ok (.goto (-97), 3) := by decide +kernel
theorem dX10_explores_135 : decode cX10_explores 135 = .ok (.return_, 1) := by decide +kernel
theorem dX10_mosts_0 : decode cX10_mosts 0 = .ok (.aload_n 0, 1) := by decide +kernel
theorem dX10_mosts_1 : decode cX10_mosts 1 = .ok (.iload_n 1, 1) := by decide +kernel
theorem dX10_mosts_2 : decode cX10_mosts 2 = .ok (.invokevirtual 170, 3) := by decide +kernel
theorem dX10_mosts_5 : decode cX10_mosts 5 = .ok (.iconst 0, 1) := by decide +kernel
theorem dX10_mosts_6 : decode cX10_mosts 6 = .ok (.istore_n 2, 1) := by decide +kernel
theorem dX10_mosts_7 : decode cX10_mosts 7 = .ok (.iload_n 2, 1) := by decide +kernel
theorem dX10_mosts_8 : decode cX10_mosts 8 = .ok (.aload_n 0, 1) := by decide +kernel
theorem dX10_mosts_9 : decode cX10_mosts 9 = .ok (.getfield 164, 3) := by decide +kernel
theorem dX10_mosts_12 : decode cX10_mosts 12 = .ok (.if_icmp .ge 34, 3) := by decide +kernel
theorem dX10_mosts_15 : decode cX10_mosts 15 = .ok (.aload_n 0, 1) := by decide +kernel
theorem dX10_mosts_16 : decode cX10_mosts 16 = .ok (.getfield 34, 3) := by decide +kernel
theorem dX10_mosts_19 : decode cX10_mosts 19 = .ok (.iload_n 2, 1) := by decide +kernel
theorem dX10_mosts_20 : decode cX10_mosts 20 = .ok (.aload_n 0, 1) := by decide +kernel
theorem dX10_mosts_21 : decode cX10_mosts 21 = .ok (.iload_n 1, 1) := by decide +kernel
theorem dX10_mosts_22 : decode cX10_mosts 22 = .ok (.aload_n 0, 1) := by decide +kernel
theorem dX10_mosts_23 : decode cX10_mosts 23 = .ok (.getfield 25, 3) := by decide +kernel
theorem dX10_mosts_26 : decode cX10_mosts 26 = .ok (.iload_n 2, 1) := by decide +kernel
theorem dX10_mosts_27 : decode cX10_mosts 27 = .ok (.iaload, 1) := by decide +kernel
theorem dX10_mosts_28 : decode cX10_mosts 28 = .ok (.invokevirtual 157, 3) := by decide +kernel
theorem dX10_mosts_31 : decode cX10_mosts 31 = .ok (.ifCond .eq 7, 3) := by decide +kernel
theorem dX10_mosts_34 : decode cX10_mosts 34 = .ok (.iconst 0, 1) := by decide +kernel
theorem dX10_mosts_35 : decode cX10_mosts 35 = .ok (.goto 4, 3) := by decide +kernel
theorem dX10_mosts_38 : decode cX10_mosts 38 = .ok (.iconst (-1), 1) := by decide +kernel
theorem dX10_mosts_39 : decode cX10_mosts 39 = .ok (.iastore, 1) := by decide +kernel
theorem dX10_mosts_40 : decode cX10_mosts 40 = .ok (.iinc 2 1, 3) := by decide +kernel
theorem dX10_mosts_43 : decode cX10_mosts 43 = .ok (.goto (-36), 3) := by decide +kernel
theorem dX10_mosts_46 : decode cX10_mosts 46 = .ok (.iconst 1, 1) := by decide +kernel
theorem dX10_mosts_47 : decode cX10_mosts 47 = .ok (.istore_n 2, 1) := by decide +kernel
theorem dX10_mosts_48 : decode cX10_mosts 48 = .ok (.iload_n 2, 1) := by decide +kernel
theorem dX10_mosts_49 : decode cX10_mosts 49 = .ok (.bipush 10, 2) := by decide +kernel
theorem dX10_mosts_51 : decode cX10_mosts 51 = .ok (.if_icmp .ge 145, 3) := by decide +kernel
theorem dX10_mosts_54 : decode cX10_mosts 54 = .ok (.iconst 0, 1) := by decide +kernel
theorem dX10_mosts_55 : decode cX10_mosts 55 = .ok (.istore_n 3, 1) := by decide +kernel
theorem dX10_mosts_56 : decode cX10_mosts 56 = .ok (.iload_n 3, 1) := by decide +kernel
theorem dX10_mosts_57 : decode cX10_mosts 57 = .ok (.aload_n 0, 1) := by decide +kernel
theorem dX10_mosts_58 : decode cX10_mosts 58 = .ok (.getfield 164, 3) := by decide +kernel
theorem dX10_mosts_61 : decode cX10_mosts 61 = .ok (.if_icmp .ge 129, 3) := by decide +kernel
theorem dX10_mosts_64 : decode cX10_mosts 64 = .ok (.iconst (-1), 1) := by decide +kernel
theorem dX10_mosts_65 : decode cX10_mosts 65 = .ok (.istore 4, 2) := by decide +kernel
theorem dX10_mosts_67 : decode cX10_mosts 67 = .ok (.iconst 0, 1) := by decide +kernel
theorem dX10_mosts_68 : decode cX10_mosts 68 = .ok (.istore 5, 2) := by decide +kernel
theorem dX10_mosts_70 : decode cX10_mosts 70 = .ok (.iload 5, 2) := by decide +kernel
theorem dX10_mosts_72 : decode cX10_mosts 72 = .ok (.aload_n 0, 1) := by decide +kernel
theorem dX10_mosts_73 : decode cX10_mosts 73 = .ok (.getfield 13, 3) := by decide +kernel
theorem dX10_mosts_76 : decode cX10_mosts 76 = .ok (.sipush 164, 3) := by decide +kernel
theorem dX10_mosts_79 : decode cX10_mosts 79 = .ok (.iaload, 1) := by decide +kernel
theorem dX10_mosts_80 : decode cX10_mosts 80 = .ok (.if_icmp .ge 90, 3) := by decide +kernel
theorem dX10_mosts_83 : decode cX10_mosts 83 = .ok (.aload_n 0, 1) := by decide +kernel
theorem dX10_mosts_84 : decode cX10_mosts 84 = .ok (.getfield 31, 3) := by decide +kernel
theorem dX10_mosts_87 : decode cX10_mosts 87 = .ok (.bipush 12, 2) := by decide +kernel
theorem dX10_mosts_89 : decode cX10_mosts 89 = .ok (.iload_n 3, 1) := by decide +kernel
theorem dX10_mosts_90 : decode cX10_mosts 90 = .ok (.imul, 1) := by decide +kernel
theorem dX10_mosts_91 : decode cX10_mosts 91 = .ok (.iload 5, 2) := by decide +kernel
theorem dX10_mosts_93 : decode cX10_mosts 93 = .ok (.iadd, 1) := by decide +kernel
theorem dX10_mosts_94 : decode cX10_mosts 94 = .ok (.iaload, 1) := by decide +kernel
theorem dX10_mosts_95 : decode cX10_mosts 95 = .ok (.ifCond .lt 31, 3) := by decide +kernel
theorem dX10_mosts_98 : decode cX10_mosts 98 = .ok (.aload_n 0, 1) := by decide +kernel
theorem dX10_mosts_99 : decode cX10_mosts 99 = .ok (.getfield 34, 3) := by decide +kernel
theorem dX10_mosts_102 : decode cX10_mosts 102 = .ok (.sipush 512, 3) := by decide +kernel
theorem dX10_mosts_105 : decode cX10_mosts 105 = .ok (.iload_n 2, 1) := by decide +kernel
theorem dX10_mosts_106 : decode cX10_mosts 106 = .ok (.iconst 1, 1) := by decide +kernel
theorem dX10_mosts_107 : decode cX10_mosts 107 = .ok (.isub, 1) := by decide +kernel
theorem dX10_mosts_108 : decode cX10_mosts 108 = .ok (.imul, 1) := by decide +kernel
theorem dX10_mosts_109 : decode cX10_mosts 109 = .ok (.aload_n 0, 1) := by decide +kernel
theorem dX10_mosts_110 : decode cX10_mosts 110 = .ok (.getfield 31, 3) := by decide +kernel
theorem dX10_mosts_113 : decode cX10_mosts 113 = .ok (.bipush 12, 2) := by decide +kernel
theorem dX10_mosts_115 : decode cX10_mosts 115 = .ok (.iload_n 3, 1) := by decide +kernel
theorem dX10_mosts_116 : decode cX10_mosts 116 = .ok (.imul, 1) := by decide +kernel
theorem dX10_mosts_117 : decode cX10_mosts 117 = .ok (.iload 5, 2) := by decide +kernel
theorem dX10_mosts_119 : decode cX10_mosts 119 = .ok (.iadd, 1) := by decide +kernel
theorem dX10_mosts_120 : decode cX10_mosts 120 = .ok (.iaload, 1) := by decide +kernel
theorem dX10_mosts_121 : decode cX10_mosts 121 = .ok (.iadd, 1) := by decide +kernel
theorem dX10_mosts_122 : decode cX10_mosts 122 = .ok (.iaload, 1) := by decide +kernel
theorem dX10_mosts_123 : decode cX10_mosts 123 = .ok (.goto 4, 3) := by decide +kernel
theorem dX10_mosts_126 : decode cX10_mosts 126 = .ok (.iconst (-1), 1) := by decide +kernel
theorem dX10_mosts_127 : decode cX10_mosts 127 = .ok (.istore 6, 2) := by decide +kernel
theorem dX10_mosts_129 : decode cX10_mosts 129 = .ok (.iload 6, 2) := by decide +kernel
theorem dX10_mosts_131 : decode cX10_mosts 131 = .ok (.ifCond .lt 29, 3) := by decide +kernel
theorem dX10_mosts_134 : decode cX10_mosts 134 = .ok (.iload 6, 2) := by decide +kernel
theorem dX10_mosts_136 : decode cX10_mosts 136 = .ok (.aload_n 0, 1) := by decide +kernel
theorem dX10_mosts_137 : decode cX10_mosts 137 = .ok (.iload 5, 2) := by decide +kernel
theorem dX10_mosts_139 : decode cX10_mosts 139 = .ok (.invokevirtual 134, 3) := by decide +kernel
theorem dX10_mosts_142 : decode cX10_mosts 142 = .ok (.iadd, 1) := by decide +kernel
theorem dX10_mosts_143 : decode cX10_mosts 143 = .ok (.iload 4, 2) := by decide +kernel
theorem dX10_mosts_145 : decode cX10_mosts 145 = .ok (.if_icmp .le 15, 3) := by decide +kernel
theorem dX10_mosts_148 : decode cX10_mosts 148 = .ok (.iload 6, 2) := by decide +kernel
theorem dX10_mosts_150 : decode cX10_mosts 150 = .ok (.aload_n 0, 1) := by decide +kernel
theorem dX10_mosts_151 : decode cX10_mosts 151 = .ok (.iload 5, 2) := by decide +kernel
theorem dX10_mosts_153 : decode cX10_mosts 153 = .ok (.invokevirtual 134, 3) := by decide +kernel
theorem dX10_mosts_156 : decode cX10_mosts 156 = .ok (.iadd, 1) := by decide +kernel
theorem dX10_mosts_157 : decode cX10_mosts 157 = .ok (.goto 5, 3) := by decide +kernel
theorem dX10_mosts_160 : decode cX10_mosts 160 = .ok (.iload 4, 2) := by decide +kernel
theorem dX10_mosts_162 : decode cX10_mosts 162 = .ok (.istore 4, 2) := by decide +kernel
theorem dX10_mosts_164 : decode cX10_mosts 164 = .ok (.iinc 5 1, 3) := by decide +kernel
theorem dX10_mosts_167 : decode cX10_mosts 167 = .ok (.goto (-97), 3) := by decide +kernel
theorem dX10_mosts_170 : decode cX10_mosts 170 = .ok (.aload_n 0, 1) := by decide +kernel
theorem dX10_mosts_171 : decode cX10_mosts 171 = .ok (.getfield 34, 3) := by decide +kernel
theorem dX10_mosts_174 : decode cX10_mosts 174 = .ok (.sipush 512, 3) := by decide +kernel
theorem dX10_mosts_177 : decode cX10_mosts 177 = .ok (.iload_n 2, 1) := by decide +kernel
theorem dX10_mosts_178 : decode cX10_mosts 178 = .ok (.imul, 1) := by decide +kernel
theorem dX10_mosts_179 : decode cX10_mosts 179 = .ok (.iload_n 3, 1) := by decide +kernel
theorem dX10_mosts_180 : decode cX10_mosts 180 = .ok (.iadd, 1) := by decide +kernel
theorem dX10_mosts_181 : decode cX10_mosts 181 = .ok (.iload 4, 2) := by decide +kernel
theorem dX10_mosts_183 : decode cX10_mosts 183 = .ok (.iastore, 1) := by decide +kernel
theorem dX10_mosts_184 : decode cX10_mosts 184 = .ok (.iinc 3 1, 3) := by decide +kernel
theorem dX10_mosts_187 : decode cX10_mosts 187 = .ok (.goto (-131), 3) := by decide +kernel
theorem dX10_mosts_190 : decode cX10_mosts 190 = .ok (.iinc 2 1, 3) := by decide +kernel
theorem dX10_mosts_193 : decode cX10_mosts 193 = .ok (.goto (-145), 3) := by decide +kernel
theorem dX10_mosts_196 : decode cX10_mosts 196 = .ok (.return_, 1) := by decide +kernel
end
section
theorem dX10_leasts_0 : decode cX10_leasts 0 = .ok (.aload_n 0, 1) := by decide +kernel
theorem dX10_leasts_1 : decode cX10_leasts 1 = .ok (.iload_n 1, 1) := by decide +kernel
theorem dX10_leasts_2 : decode cX10_leasts 2 = .ok (.invokevirtual 174, 3) := by decide +kernel
theorem dX10_leasts_5 : decode cX10_leasts 5 = .ok (.iconst 1, 1) := by decide +kernel
theorem dX10_leasts_6 : decode cX10_leasts 6 = .ok (.istore_n 2, 1) := by decide +kernel
theorem dX10_leasts_7 : decode cX10_leasts 7 = .ok (.iload_n 2, 1) := by decide +kernel
theorem dX10_leasts_8 : decode cX10_leasts 8 = .ok (.bipush 10, 2) := by decide +kernel
theorem dX10_leasts_10 : decode cX10_leasts 10 = .ok (.if_icmp .ge 22, 3) := by decide +kernel
theorem dX10_leasts_13 : decode cX10_leasts 13 = .ok (.aload_n 0, 1) := by decide +kernel
theorem dX10_leasts_14 : decode cX10_leasts 14 = .ok (.getfield 34, 3) := by decide +kernel
theorem dX10_leasts_17 : decode cX10_leasts 17 = .ok (.sipush 512, 3) := by decide +kernel
theorem dX10_leasts_20 : decode cX10_leasts 20 = .ok (.iload_n 2, 1) := by decide +kernel
theorem dX10_leasts_21 : decode cX10_leasts 21 = .ok (.imul, 1) := by decide +kernel
theorem dX10_leasts_22 : decode cX10_leasts 22 = .ok (.iaload, 1) := by decide +kernel
theorem dX10_leasts_23 : decode cX10_leasts 23 = .ok (.ifCond .ge 9, 3) := by decide +kernel
theorem dX10_leasts_26 : decode cX10_leasts 26 = .ok (.iinc 2 1, 3) := by decide +kernel
theorem dX10_leasts_29 : decode cX10_leasts 29 = .ok (.goto (-22), 3) := by decide +kernel
theorem dX10_leasts_32 : decode cX10_leasts 32 = .ok (.iload_n 2, 1) := by decide +kernel
theorem dX10_leasts_33 : decode cX10_leasts 33 = .ok (.bipush 10, 2) := by decide +kernel
theorem dX10_leasts_35 : decode cX10_leasts 35 = .ok (.if_icmp .ne 6, 3) := by decide +kernel
theorem dX10_leasts_38 : decode cX10_leasts 38 = .ok (.bipush (-4), 2) := by decide +kernel
theorem dX10_leasts_40 : decode cX10_leasts 40 = .ok (.ireturn, 1) := by decide +kernel
theorem dX10_leasts_41 : decode cX10_leasts 41 = .ok (.aload_n 0, 1) := by decide +kernel
theorem dX10_leasts_42 : decode cX10_leasts 42 = .ok (.aload_n 0, 1) := by decide +kernel
theorem dX10_leasts_43 : decode cX10_leasts 43 = .ok (.iload_n 1, 1) := by decide +kernel
theorem dX10_leasts_44 : decode cX10_leasts 44 = .ok (.invokevirtual 137, 3) := by decide +kernel
theorem dX10_leasts_47 : decode cX10_leasts 47 = .ok (.aload_n 0, 1) := by decide +kernel
theorem dX10_leasts_48 : decode cX10_leasts 48 = .ok (.getfield 34, 3) := by decide +kernel
theorem dX10_leasts_51 : decode cX10_leasts 51 = .ok (.sipush 512, 3) := by decide +kernel
theorem dX10_leasts_54 : decode cX10_leasts 54 = .ok (.iload_n 2, 1) := by decide +kernel
theorem dX10_leasts_55 : decode cX10_leasts 55 = .ok (.imul, 1) := by decide +kernel
theorem dX10_leasts_56 : decode cX10_leasts 56 = .ok (.iaload, 1) := by decide +kernel
theorem dX10_leasts_57 : decode cX10_leasts 57 = .ok (.isub, 1) := by decide +kernel
theorem dX10_leasts_58 : decode cX10_leasts 58 = .ok (.putfield 177, 3) := by decide +kernel
theorem dX10_leasts_61 : decode cX10_leasts 61 = .ok (.iconst 0, 1) := by decide +kernel
theorem dX10_leasts_62 : decode cX10_leasts 62 = .ok (.istore_n 3, 1) := by decide +kernel
theorem dX10_leasts_63 : decode cX10_leasts 63 = .ok (.iconst 0, 1) := by decide +kernel
theorem dX10_leasts_64 : decode cX10_leasts 64 = .ok (.istore 4, 2) := by decide +kernel
theorem dX10_leasts_66 : decode cX10_leasts 66 = .ok (.iload 4, 2) := by decide +kernel
theorem dX10_leasts_68 : decode cX10_leasts 68 = .ok (.iload_n 2, 1) := by decide +kernel
theorem dX10_leasts_69 : decode cX10_leasts 69 = .ok (.if_icmp .ge 143, 3) := by decide +kernel
theorem dX10_leasts_72 : decode cX10_leasts 72 = .ok (.aload_n 0, 1) := by decide +kernel
theorem dX10_leasts_73 : decode cX10_leasts 73 = .ok (.getfield 34, 3) := by decide +kernel
theorem dX10_leasts_76 : decode cX10_leasts 76 = .ok (.sipush 512, 3) := by decide +kernel
theorem dX10_leasts_79 : decode cX10_leasts 79 = .ok (.iload_n 2, 1) := by decide +kernel
theorem dX10_leasts_80 : decode cX10_leasts 80 = .ok (.iload 4, 2) := by decide +kernel
theorem dX10_leasts_82 : decode cX10_leasts 82 = .ok (.isub, 1) := by decide +kernel
theorem dX10_leasts_83 : decode cX10_leasts 83 = .ok (.imul, 1) := by decide +kernel
theorem dX10_leasts_84 : decode cX10_leasts 84 = .ok (.iload_n 3, 1) := by decide +kernel
theorem dX10_leasts_85 : decode cX10_leasts 85 = .ok (.iadd, 1) := by decide +kernel
theorem dX10_leasts_86 : decode cX10_leasts 86 = .ok (.iaload, 1) := by decide +kernel
theorem dX10_leasts_87 : decode cX10_leasts 87 = .ok (.istore 5, 2) := by decide +kernel
theorem dX10_leasts_89 : decode cX10_leasts 89 = .ok (.iconst 0, 1) := by decide +kernel
theorem dX10_leasts_90 : decode cX10_leasts 90 = .ok (.istore 6, 2) := by decide +kernel
theorem dX10_leasts_92 : decode cX10_leasts 92 = .ok (.aload_n 0, 1) := by decide +kernel
theorem dX10_leasts_93 : decode cX10_leasts 93 = .ok (.getfield 31, 3) := by decide +kernel
theorem dX10_leasts_96 : decode cX10_leasts 96 = .ok (.bipush 12, 2) := by decide +kernel
theorem dX10_leasts_98 : decode cX10_leasts 98 = .ok (.iload_n 3, 1) := by decide +kernel
theorem dX10_leasts_99 : decode cX10_leasts 99 = .ok (.imul, 1) := by decide +kernel
theorem dX10_leasts_100 : decode cX10_leasts 100 = .ok (.iload 6, 2) := by decide +kernel
theorem dX10_leasts_102 : decode cX10_leasts 102 = .ok (.iadd, 1) := by decide +kernel
theorem dX10_leasts_103 : decode cX10_leasts 103 = .ok (.iaload, 1) := by decide +kernel
theorem dX10_leasts_104 : decode cX10_leasts 104 = .ok (.ifCond .lt 74, 3) := by decide +kernel
theorem dX10_leasts_107 : decode cX10_leasts 107 = .ok (.aload_n 0, 1) := by decide +kernel
theorem dX10_leasts_108 : decode cX10_leasts 108 = .ok (.getfield 34, 3) := by decide +kernel
theorem dX10_leasts_111 : decode cX10_leasts 111 = .ok (.sipush 512, 3) := by decide +kernel
theorem dX10_leasts_114 : decode cX10_leasts 114 = .ok (.iload_n 2, 1) := by decide +kernel
theorem dX10_leasts_115 : decode cX10_leasts 115 = .ok (.iload 4, 2) := by decide +kernel
theorem dX10_leasts_117 : decode cX10_leasts 117 = .ok (.isub, 1) := by decide +kernel
theorem dX10_leasts_118 : decode cX10_leasts 118 = .ok (.iconst 1, 1) := by decide +kernel
theorem dX10_leasts_119 : decode cX10_leasts 119 = .ok (.isub, 1) := by decide +kernel
theorem dX10_leasts_120 : decode cX10_leasts 120 = .ok (.imul, 1) := by decide +kernel
theorem dX10_leasts_121 : decode cX10_leasts 121 = .ok (.aload_n 0, 1) := by decide +kernel
theorem dX10_leasts_122 : decode cX10_leasts 122 = .ok (.getfield 31, 3) := by decide +kernel
theorem dX10_leasts_125 : decode cX10_leasts 125 = .ok (.bipush 12, 2) := by decide +kernel
theorem dX10_leasts_127 : decode cX10_leasts 127 = .ok (.iload_n 3, 1) := by decide +kernel
theorem dX10_leasts_128 : decode cX10_leasts 128 = .ok (.imul, 1) := by decide +kernel
theorem dX10_leasts_129 : decode cX10_leasts 129 = .ok (.iload 6, 2) := by decide +kernel
theorem dX10_leasts_131 : decode cX10_leasts 131 = .ok (.iadd, 1) := by decide +kernel
theorem dX10_leasts_132 : decode cX10_leasts 132 = .ok (.iaload, 1) := by decide +kernel
theorem dX10_leasts_133 : decode cX10_leasts 133 = .ok (.iadd, 1) := by decide +kernel
theorem dX10_leasts_134 : decode cX10_leasts 134 = .ok (.iaload, 1) := by decide +kernel
theorem dX10_leasts_135 : decode cX10_leasts 135 = .ok (.ifCond .lt 43, 3) := by decide +kernel
theorem dX10_leasts_138 : decode cX10_leasts 138 = .ok (.aload_n 0, 1) := by decide +kernel
theorem dX10_leasts_139 : decode cX10_leasts 139 = .ok (.getfield 34, 3) := by decide +kernel
theorem dX10_leasts_142 : decode cX10_leasts 142 = .ok (.sipush 512, 3) := by decide +kernel
theorem dX10_leasts_145 : decode cX10_leasts 145 = .ok (.iload_n 2, 1) := by decide +kernel
theorem dX10_leasts_146 : decode cX10_leasts 146 = .ok (.iload 4, 2) := by decide +kernel
theorem dX10_leasts_148 : decode cX10_leasts 148 = .ok (.isub, 1) := by decide +kernel
theorem dX10_leasts_149 : decode cX10_leasts 149 = .ok (.iconst 1, 1) := by decide +kernel
theorem dX10_leasts_150 : decode cX10_leasts 150 = .ok (.isub, 1) := by decide +kernel
theorem dX10_leasts_151 : decode cX10_leasts 151 = .ok (.imul, 1) := by decide +kernel
theorem dX10_leasts_152 : decode cX10_leasts 152 = .ok (.aload_n 0, 1) := by decide +kernel
theorem dX10_leasts_153 : decode cX10_leasts 153 = .ok (.getfield 31, 3) := by decide +kernel
theorem dX10_leasts_156 : decode cX10_leasts 156 = .ok (.bipush 12, 2) := by decide +kernel
theorem dX10_leasts_158 : decode cX10_leasts 158 = .ok (.iload_n 3, 1) := by decide +kernel
theorem dX10_leasts_159 : decode cX10_leasts 159 = .ok (.imul, 1) := by decide +kernel
theorem dX10_leasts_160 : decode cX10_leasts 160 = .ok (.iload 6, 2) := by decide +kernel
theorem dX10_leasts_162 : decode cX10_leasts 162 = .ok (.iadd, 1) := by decide +kernel
theorem dX10_leasts_163 : decode cX10_leasts 163 = .ok (.iaload, 1) := by decide +kernel
theorem dX10_leasts_164 : decode cX10_leasts 164 = .ok (.iadd, 1) := by decide +kernel
theorem dX10_leasts_165 : decode cX10_leasts 165 = .ok (.iaload, 1) := by decide +kernel
theorem dX10_leasts_166 : decode cX10_leasts 166 = .ok (.aload_n 0, 1) := by decide +kernel
theorem dX10_leasts_167 : decode cX10_leasts 167 = .ok (.iload 6, 2) := by decide +kernel
theorem dX10_leasts_169 : decode cX10_leasts 169 = .ok (.invokevirtual 134, 3) := by decide +kernel
theorem dX10_leasts_172 : decode cX10_leasts 172 = .ok (.iadd, 1) := by decide +kernel
theorem dX10_leasts_173 : decode cX10_leasts 173 = .ok (.iload 5, 2) := by decide +kernel
theorem dX10_leasts_175 : decode cX10_leasts 175 = .ok (.if_icmp .eq 9, 3) := by decide +kernel
theorem dX10_leasts_178 : decode cX10_leasts 178 = .ok (.iinc 6 1, 3) := by decide +kernel
theorem dX10_leasts_181 : decode cX10_leasts 181 = .ok (.goto (-89), 3) := by decide +kernel
theorem dX10_leasts_184 : decode cX10_leasts 184 = .ok (.aload_n 0, 1) := by decide +kernel
theorem dX10_leasts_185 : decode cX10_leasts 185 = .ok (.getfield 37, 3) := by decide +kernel
theorem dX10_leasts_188 : decode cX10_leasts 188 = .ok (.iload 4, 2) := by decide +kernel
theorem dX10_leasts_190 : decode cX10_leasts 190 = .ok (.iload 6, 2) := by decide +kernel
theorem dX10_leasts_192 : decode cX10_leasts 192 = .ok (.iastore, 1) := by decide +kernel
theorem dX10_leasts_193 : decode cX10_leasts 193 = .ok (.aload_n 0, 1) := by decide +kernel
theorem dX10_leasts_194 : decode cX10_leasts 194 = .ok (.getfield 31, 3) := by decide +kernel
theorem dX10_leasts_197 : decode cX10_leasts 197 = .ok (.bipush 12, 2) := by decide +kernel
theorem dX10_leasts_199 : decode cX10_leasts 199 = .ok (.iload_n 3, 1) := by decide +kernel
theorem dX10_leasts_200 : decode cX10_leasts 200 = .ok (.imul, 1) := by decide +kernel
theorem dX10_leasts_201 : decode cX10_leasts 201 = .ok (.iload 6, 2) := by decide +kernel
theorem dX10_leasts_203 : decode cX10_leasts 203 = .ok (.iadd, 1) := by decide +kernel
theorem dX10_leasts_204 : decode cX10_leasts 204 = .ok (.iaload, 1) := by decide +kernel
theorem dX10_leasts_205 : decode cX10_leasts 205 = .ok (.istore_n 3, 1) := by decide +kernel
theorem dX10_leasts_206 : decode cX10_leasts 206 = .ok (.iinc 4 1, 3) := by decide +kernel
theorem dX10_leasts_209 : decode cX10_leasts 209 = .ok (.goto (-143), 3) := by decide +kernel
theorem dX10_leasts_212 : decode cX10_leasts 212 = .ok (.iload_n 2, 1) := by decide +kernel
theorem dX10_leasts_213 : decode cX10_leasts 213 = .ok (.ireturn, 1) := by decide +kernel
theorem dX10_markOf_0 : decode cX10_markOf 0 = .ok (.iconst 0, 1) := by decide +kernel
theorem dX10_markOf_1 : decode cX10_markOf 1 = .ok (.istore_n 2, 1) := by decide +kernel
theorem dX10_markOf_2 : decode cX10_markOf 2 = .ok (.iload_n 2, 1) := by decide +kernel
theorem dX10_markOf_3 : decode cX10_markOf 3 = .ok (.aload_n 0, 1) := by decide +kernel
theorem dX10_markOf_4 : decode cX10_markOf 4 = .ok (.getfield 13, 3) := by decide +kernel
theorem dX10_markOf_7 : decode cX10_markOf 7 = .ok (.sipush 164, 3) := by decide +kernel
theorem dX10_markOf_10 : decode cX10_markOf 10 = .ok (.iaload, 1) := by decide +kernel
theorem dX10_markOf_11 : decode cX10_markOf 11 = .ok (.if_icmp .ge 47, 3) := by decide +kernel
theorem dX10_markOf_14 : decode cX10_markOf 14 = .ok (.aload_n 0, 1) := by decide +kernel
theorem dX10_markOf_15 : decode cX10_markOf 15 = .ok (.getfield 13, 3) := by decide +kernel
theorem dX10_markOf_18 : decode cX10_markOf 18 = .ok (.bipush 7, 2) := by decide +kernel
theorem dX10_markOf_20 : decode cX10_markOf 20 = .ok (.iload_n 2, 1) := by decide +kernel
theorem dX10_markOf_21 : decode cX10_markOf 21 = .ok (.imul, 1) := by decide +kernel
theorem dX10_markOf_22 : decode cX10_markOf 22 = .ok (.iaload, 1) := by decide +kernel
theorem dX10_markOf_23 : decode cX10_markOf 23 = .ok (.iconst 2, 1) := by decide +kernel
theorem dX10_markOf_24 : decode cX10_markOf 24 = .ok (.if_icmp .ne 28, 3) := by decide +kernel
theorem dX10_markOf_27 : decode cX10_markOf 27 = .ok (.aload_n 0, 1) := by decide +kernel
theorem dX10_markOf_28 : decode cX10_markOf 28 = .ok (.getfield 13, 3) := by decide +kernel
theorem dX10_markOf_31 : decode cX10_markOf 31 = .ok (.bipush 7, 2) := by decide +kernel
theorem dX10_markOf_33 : decode cX10_markOf 33 = .ok (.iload_n 2, 1) := by decide +kernel
theorem dX10_markOf_34 : decode cX10_markOf 34 = .ok (.imul, 1) := by decide +kernel
theorem dX10_markOf_35 : decode cX10_markOf 35 = .ok (.iconst 1, 1) := by decide +kernel
theorem dX10_markOf_36 : decode cX10_markOf 36 = .ok (.iadd, 1) := by decide +kernel
theorem dX10_markOf_37 : decode cX10_markOf 37 = .ok (.iaload, 1) := by decide +kernel
theorem dX10_markOf_38 : decode cX10_markOf 38 = .ok (.iload_n 1, 1) := by decide +kernel
theorem dX10_markOf_39 : decode cX10_markOf 39 = .ok (.if_icmp .ne 13, 3) := by decide +kernel
theorem dX10_markOf_42 : decode cX10_markOf 42 = .ok (.aload_n 0, 1) := by decide +kernel
theorem dX10_markOf_43 : decode cX10_markOf 43 = .ok (.iload_n 2, 1) := by decide +kernel
theorem dX10_markOf_44 : decode cX10_markOf 44 = .ok (.invokevirtual 121, 3) := by decide +kernel
theorem dX10_markOf_47 : decode cX10_markOf 47 = .ok (.ifCond .ne 5, 3) := by decide +kernel
theorem dX10_markOf_50 : decode cX10_markOf 50 = .ok (.iload_n 2, 1) := by decide +kernel
theorem dX10_markOf_51 : decode cX10_markOf 51 = .ok (.ireturn, 1) := by decide +kernel
theorem dX10_markOf_52 : decode cX10_markOf 52 = .ok (.iinc 2 1, 3) := by decide +kernel
theorem dX10_markOf_55 : decode cX10_markOf 55 = .ok (.goto (-53), 3) := by decide +kernel
theorem dX10_markOf_58 : decode cX10_markOf 58 = .ok (.bipush (-4), 2) := by decide +kernel
theorem dX10_markOf_60 : decode cX10_markOf 60 = .ok (.ireturn, 1) := by decide +kernel
theorem dX10_clear_0 : decode cX10_clear 0 = .ok (.aload_n 0, 1) := by decide +kernel
theorem dX10_clear_1 : decode cX10_clear 1 = .ok (.iload_n 1, 1) := by decide +kernel
theorem dX10_clear_2 : decode cX10_clear 2 = .ok (.invokevirtual 180, 3) := by decide +kernel
theorem dX10_clear_5 : decode cX10_clear 5 = .ok (.istore_n 2, 1) := by decide +kernel
theorem dX10_clear_6 : decode cX10_clear 6 = .ok (.iload_n 2, 1) := by decide +kernel
theorem dX10_clear_7 : decode cX10_clear 7 = .ok (.bipush (-4), 2) := by decide +kernel
theorem dX10_clear_9 : decode cX10_clear 9 = .ok (.if_icmp .ne 5, 3) := by decide +kernel
theorem dX10_clear_12 : decode cX10_clear 12 = .ok (.iconst 0, 1) := by decide +kernel
theorem dX10_clear_13 : decode cX10_clear 13 = .ok (.ireturn, 1) := by decide +kernel
theorem dX10_clear_14 : decode cX10_clear 14 = .ok (.aload_n 0, 1) := by decide +kernel
theorem dX10_clear_15 : decode cX10_clear 15 = .ok (.aload_n 0, 1) := by decide +kernel
theorem dX10_clear_16 : decode cX10_clear 16 = .ok (.getfield 37, 3) := by decide +kernel
theorem dX10_clear_19 : decode cX10_clear 19 = .ok (.iconst 0, 1) := by decide +kernel
theorem dX10_clear_20 : decode cX10_clear 20 = .ok (.iload_n 2, 1) := by decide +kernel
theorem dX10_clear_21 : decode cX10_clear 21 = .ok (.invokevirtual 183, 3) := by decide +kernel
theorem dX10_clear_24 : decode cX10_clear 24 = .ok (.iconst 1, 1) := by decide +kernel
theorem dX10_clear_25 : decode cX10_clear 25 = .ok (.iload_n 1, 1) := by decide +kernel
theorem dX10_clear_26 : decode cX10_clear 26 = .ok (.ishl, 1) := by decide +kernel
theorem dX10_clear_27 : decode cX10_clear 27 = .ok (.if_icmp .ne 5, 3) := by decide +kernel
theorem dX10_clear_30 : decode cX10_clear 30 = .ok (.iconst 1, 1) := by decide +kernel
theorem dX10_clear_31 : decode cX10_clear 31 = .ok (.ireturn, 1) := by decide +kernel
theorem dX10_clear_32 : decode cX10_clear 32 = .ok (.aload_n 0, 1) := by decide +kernel
theorem dX10_clear_33 : decode cX10_clear 33 = .ok (.aload_n 0, 1) := by decide +kernel
theorem dX10_clear_34 : decode cX10_clear 34 = .ok (.getfield 13, 3) := by decide +kernel
theorem dX10_clear_37 : decode cX10_clear 37 = .ok (.bipush 84, 2) := by decide +kernel
theorem dX10_clear_39 : decode cX10_clear 39 = .ok (.bipush 10, 2) := by decide +kernel
theorem dX10_clear_41 : decode cX10_clear 41 = .ok (.iload_n 1, 1) := by decide +kernel
theorem dX10_clear_42 : decode cX10_clear 42 = .ok (.imul, 1) := by decide +kernel
theorem dX10_clear_43 : decode cX10_clear 43 = .ok (.iadd, 1) := by decide +kernel
theorem dX10_clear_44 : decode cX10_clear 44 = .ok (.iaload, 1) := by decide +kernel
theorem dX10_clear_45 : decode cX10_clear 45 = .ok (.invokevirtual 187, 3) := by decide +kernel
theorem dX10_clear_48 : decode cX10_clear 48 = .ok (.istore_n 3, 1) := by decide +kernel
theorem dX10_clear_49 : decode cX10_clear 49 = .ok (.iload_n 3, 1) := by decide +kernel
theorem dX10_clear_50 : decode cX10_clear 50 = .ok (.bipush (-4), 2) := by decide +kernel
theorem dX10_clear_52 : decode cX10_clear 52 = .ok (.if_icmp .eq 9, 3) := by decide +kernel
theorem dX10_clear_55 : decode cX10_clear 55 = .ok (.iload_n 2, 1) := by decide +kernel
theorem dX10_clear_56 : decode cX10_clear 56 = .ok (.bipush 9, 2) := by decide +kernel
theorem dX10_clear_58 : decode cX10_clear 58 = .ok (.if_icmp .ne 5, 3) := by decide +kernel
theorem dX10_clear_61 : decode cX10_clear 61 = .ok (.iconst 0, 1) := by decide +kernel
theorem dX10_clear_62 : decode cX10_clear 62 = .ok (.ireturn, 1) := by decide +kernel
theorem dX10_clear_63 : decode cX10_clear 63 = .ok (.aload_n 0, 1) := by decide +kernel
theorem dX10_clear_64 : decode cX10_clear 64 = .ok (.getfield 37, 3) := by decide +kernel
theorem dX10_clear_67 : decode cX10_clear 67 = .ok (.iload_n 2, 1) := by decide +kernel
theorem dX10_clear_68 : decode cX10_clear 68 = .ok (.iload_n 3, 1) := by decide +kernel
theorem dX10_clear_69 : decode cX10_clear 69 = .ok (.iastore, 1) := by decide +kernel
theorem dX10_clear_70 : decode cX10_clear 70 = .ok (.aload_n 0, 1) := by decide +kernel
theorem dX10_clear_71 : decode cX10_clear 71 = .ok (.aload_n 0, 1) := by decide +kernel
theorem dX10_clear_72 : decode cX10_clear 72 = .ok (.getfield 37, 3) := by decide +kernel
theorem dX10_clear_75 : decode cX10_clear 75 = .ok (.iconst 0, 1) := by decide +kernel
theorem dX10_clear_76 : decode cX10_clear 76 = .ok (.iload_n 2, 1) := by decide +kernel
theorem dX10_clear_77 : decode cX10_clear 77 = .ok (.iconst 1, 1) := by decide +kernel
theorem dX10_clear_78 : decode cX10_clear 78 = .ok (.iadd, 1) := by decide +kernel
theorem dX10_clear_79 : decode cX10_clear 79 = .ok (.invokevirtual 183, 3) := by decide +kernel
theorem dX10_clear_82 : decode cX10_clear 82 = .ok (.iconst 1, 1) := by decide +kernel
theorem dX10_clear_83 : decode cX10_clear 83 = .ok (.iload_n 1, 1) := by decide +kernel
theorem dX10_clear_84 : decode cX10_clear 84 = .ok (.ishl, 1) := by decide +kernel
theorem dX10_clear_85 : decode cX10_clear 85 = .ok (.if_icmp .ne 7, 3) := by decide +kernel
theorem dX10_clear_88 : decode cX10_clear 88 = .ok (.iconst 2, 1) := by decide +kernel
theorem dX10_clear_89 : decode cX10_clear 89 = .ok (.goto 4, 3) := by decide +kernel
theorem dX10_clear_92 : decode cX10_clear 92 = .ok (.iconst 0, 1) := by decide +kernel
theorem dX10_clear_93 : decode cX10_clear 93 = .ok (.ireturn, 1) := by decide +kernel
theorem dX10_areMixed_0 : decode cX10_areMixed 0 = .ok (.aload_n 0, 1) := by decide +kernel
theorem dX10_areMixed_1 : decode cX10_areMixed 1 = .ok (.iload_n 1, 1) := by decide +kernel
theorem dX10_areMixed_2 : decode cX10_areMixed 2 = .ok (.invokevirtual 180, 3) := by decide +kernel
theorem dX10_areMixed_5 : decode cX10_areMixed 5 = .ok (.istore_n 3, 1) := by decide +kernel
theorem dX10_areMixed_6 : decode cX10_areMixed 6 = .ok (.iconst 0, 1) := by decide +kernel
theorem dX10_areMixed_7 : decode cX10_areMixed 7 = .ok (.istore 4, 2) := by decide +kernel
theorem dX10_areMixed_9 : decode cX10_areMixed 9 = .ok (.iload 4, 2) := by decide +kernel
theorem dX10_areMixed_11 : decode cX10_areMixed 11 = .ok (.bipush 10, 2) := by decide +kernel
theorem dX10_areMixed_13 : decode cX10_areMixed 13 = .ok (.if_icmp .ge 23, 3) := by decide +kernel
theorem dX10_areMixed_16 : decode cX10_areMixed 16 = .ok (.aload_n 0, 1) := by decide +kernel
theorem dX10_areMixed_17 : decode cX10_areMixed 17 = .ok (.getfield 40, 3) := by decide +kernel
theorem dX10_areMixed_20 : decode cX10_areMixed 20 = .ok (.iload 4, 2) := by decide +kernel
theorem dX10_areMixed_22 : decode cX10_areMixed 22 = .ok (.aload_n 0, 1) := by decide +kernel
theorem dX10_areMixed_23 : decode cX10_areMixed 23 = .ok (.getfield 37, 3) := by decide +kernel
theorem dX10_areMixed_26 : decode cX10_areMixed 26 = .ok (.iload 4, 2) := by decide +kernel
theorem dX10_areMixed_28 : decode cX10_areMixed 28 = .ok (.iaload, 1) := by decide +kernel
theorem dX10_areMixed_29 : decode cX10_areMixed 29 = .ok (.iastore, 1) := by decide +kernel
theorem dX10_areMixed_30 : decode cX10_areMixed 30 = .ok (.iinc 4 1, 3) := by decide +kernel
theorem dX10_areMixed_33 : decode cX10_areMixed 33 = .ok (.goto (-24), 3) := by decide +kernel
theorem dX10_areMixed_36 : decode cX10_areMixed 36 = .ok (.aload_n 0, 1) := by decide +kernel
theorem dX10_areMixed_37 : decode cX10_areMixed 37 = .ok (.iload_n 2, 1) := by decide +kernel
theorem dX10_areMixed_38 : decode cX10_areMixed 38 = .ok (.invokevirtual 180, 3) := by decide +kernel
theorem dX10_areMixed_41 : decode cX10_areMixed 41 = .ok (.istore 4, 2) := by decide +kernel
theorem dX10_areMixed_43 : decode cX10_areMixed 43 = .ok (.iload_n 3, 1) := by decide +kernel
theorem dX10_areMixed_44 : decode cX10_areMixed 44 = .ok (.bipush (-4), 2) := by decide +kernel
theorem dX10_areMixed_46 : decode cX10_areMixed 46 = .ok (.if_icmp .eq 13, 3) := by decide +kernel
theorem dX10_areMixed_49 : decode cX10_areMixed 49 = .ok (.iload_n 3, 1) := by decide +kernel
theorem dX10_areMixed_50 : decode cX10_areMixed 50 = .ok (.iload 4, 2) := by decide +kernel
theorem dX10_areMixed_52 : decode cX10_areMixed 52 = .ok (.if_icmp .ne 7, 3) := by decide +kernel
theorem dX10_areMixed_55 : decode cX10_areMixed 55 = .ok (.iconst 1, 1) := by decide +kernel
theorem dX10_areMixed_56 : decode cX10_areMixed 56 = .ok (.goto 4, 3) := by decide +kernel
theorem dX10_areMixed_59 : decode cX10_areMixed 59 = .ok (.iconst 0, 1) := by decide +kernel
theorem dX10_areMixed_60 : decode cX10_areMixed 60 = .ok (.istore 5, 2) := by decide +kernel
theorem dX10_areMixed_62 : decode cX10_areMixed 62 = .ok (.iconst 0, 1) := by decide +kernel
theorem dX10_areMixed_63 : decode cX10_areMixed 63 = .ok (.istore 6, 2) := by decide +kernel
theorem dX10_areMixed_65 : decode cX10_areMixed 65 = .ok (.iload 6, 2) := by decide +kernel
theorem dX10_areMixed_67 : decode cX10_areMixed 67 = .ok (.iload_n 3, 1) := by decide +kernel
theorem dX10_areMixed_68 : decode cX10_areMixed 68 = .ok (.if_icmp .ge 38, 3) := by decide +kernel
theorem dX10_areMixed_71 : decode cX10_areMixed 71 = .ok (.iload 5, 2) := by decide +kernel
theorem dX10_areMixed_73 : decode cX10_areMixed 73 = .ok (.ifCond .eq 33, 3) := by decide +kernel
theorem dX10_areMixed_76 : decode cX10_areMixed 76 = .ok (.aload_n 0, 1) := by decide +kernel
theorem dX10_areMixed_77 : decode cX10_areMixed 77 = .ok (.getfield 40, 3) := by decide +kernel
theorem dX10_areMixed_80 : decode cX10_areMixed 80 = .ok (.iload 6, 2) := by decide +kernel
theorem dX10_areMixed_82 : decode cX10_areMixed 82 = .ok (.iaload, 1) := by decide +kernel
theorem dX10_areMixed_83 : decode cX10_areMixed 83 = .ok (.aload_n 0, 1) := by decide +kernel
theorem dX10_areMixed_84 : decode cX10_areMixed 84 = .ok (.getfield 37, 3) := by decide +kernel
theorem dX10_areMixed_87 : decode cX10_areMixed 87 = .ok (.iload 6, 2) := by decide +kernel
theorem dX10_areMixed_89 : decode cX10_areMixed 89 = .ok (.iaload, 1) := by decide +kernel
theorem dX10_areMixed_90 : decode cX10_areMixed 90 = .ok (.if_icmp .ne 7, 3) := by decide +kernel
theorem dX10_areMixed_93 : decode cX10_areMixed 93 = .ok (.iconst 1, 1) := by decide +kernel
theorem dX10_areMixed_94 : decode cX10_areMixed 94 = .ok (.goto 4, 3) := by decide +kernel
theorem dX10_areMixed_97 : decode cX10_areMixed 97 = .ok (.iconst 0, 1) := by decide +kernel
theorem dX10_areMixed_98 : decode cX10_areMixed 98 = .ok (.istore 5, 2) := by decide +kernel
theorem dX10_areMixed_100 : decode cX10_areMixed 100 = .ok (.iinc 6 1, 3) := by decide +kernel
theorem dX10_areMixed_103 : decode cX10_areMixed 103 = .ok (.goto (-38), 3) := by decide +kernel
theorem dX10_areMixed_106 : decode cX10_areMixed 106 = .ok (.iload 5, 2) := by decide +kernel
theorem dX10_areMixed_108 : decode cX10_areMixed 108 = .ok (.ireturn, 1) := by decide +kernel
theorem dX10_mixed_0 : decode cX10_mixed 0 = .ok (.iconst 0, 1) := by decide +kernel
theorem dX10_mixed_1 : decode cX10_mixed 1 = .ok (.istore_n 2, 1) := by decide +kernel
theorem dX10_mixed_2 : decode cX10_mixed 2 = .ok (.iconst 0, 1) := by decide +kernel
theorem dX10_mixed_3 : decode cX10_mixed 3 = .ok (.istore_n 3, 1) := by decide +kernel
theorem dX10_mixed_4 : decode cX10_mixed 4 = .ok (.iload_n 3, 1) := by decide +kernel
theorem dX10_mixed_5 : decode cX10_mixed 5 = .ok (.aload_n 0, 1) := by decide +kernel
theorem dX10_mixed_6 : decode cX10_mixed 6 = .ok (.getfield 13, 3) := by decide +kernel
theorem dX10_mixed_9 : decode cX10_mixed 9 = .ok (.sipush 165, 3) := by decide +kernel
theorem dX10_mixed_12 : decode cX10_mixed 12 = .ok (.iaload, 1) := by decide +kernel
theorem dX10_mixed_13 : decode cX10_mixed 13 = .ok (.if_icmp .ge 31, 3) := by decide +kernel
theorem dX10_mixed_16 : decode cX10_mixed 16 = .ok (.iload_n 2, 1) := by decide +kernel
theorem dX10_mixed_17 : decode cX10_mixed 17 = .ok (.iload_n 3, 1) := by decide +kernel
theorem dX10_mixed_18 : decode cX10_mixed 18 = .ok (.iload_n 1, 1) := by decide +kernel
theorem dX10_mixed_19 : decode cX10_mixed 19 = .ok (.if_icmp .eq 16, 3) := by decide +kernel
theorem dX10_mixed_22 : decode cX10_mixed 22 = .ok (.aload_n 0, 1) := by decide +kernel
theorem dX10_mixed_23 : decode cX10_mixed 23 = .ok (.iload_n 1, 1) := by decide +kernel
theorem dX10_mixed_24 : decode cX10_mixed 24 = .ok (.iload_n 3, 1) := by decide +kernel
theorem dX10_mixed_25 : decode cX10_mixed 25 = .ok (.invokevirtual 190, 3) := by decide +kernel
theorem dX10_mixed_28 : decode cX10_mixed 28 = .ok (.ifCond .eq 7, 3) := by decide +kernel
theorem dX10_mixed_31 : decode cX10_mixed 31 = .ok (.iconst 1, 1) := by decide +kernel
theorem dX10_mixed_32 : decode cX10_mixed 32 = .ok (.goto 4, 3) := by decide +kernel
theorem dX10_mixed_35 : decode cX10_mixed 35 = .ok (.iconst 0, 1) := by decide +kernel
theorem dX10_mixed_36 : decode cX10_mixed 36 = .ok (.iadd, 1) := by decide +kernel
theorem dX10_mixed_37 : decode cX10_mixed 37 = .ok (.istore_n 2, 1) := by decide +kernel
theorem dX10_mixed_38 : decode cX10_mixed 38 = .ok (.iinc 3 1, 3) := by decide +kernel
theorem dX10_mixed_41 : decode cX10_mixed 41 = .ok (.goto (-37), 3) := by decide +kernel
theorem dX10_mixed_44 : decode cX10_mixed 44 = .ok (.iload_n 2, 1) := by decide +kernel
theorem dX10_mixed_45 : decode cX10_mixed 45 = .ok (.ireturn, 1) := by decide +kernel
theorem dX10_leastWith_0 : decode cX10_leastWith 0 = .ok (.iconst 0, 1) := by decide +kernel
theorem dX10_leastWith_1 : decode cX10_leastWith 1 = .ok (.istore_n 2, 1) := by decide +kernel
theorem dX10_leastWith_2 : decode cX10_leastWith 2 = .ok (.iconst 0, 1) := by decide +kernel
theorem dX10_leastWith_3 : decode cX10_leastWith 3 = .ok (.istore_n 3, 1) := by decide +kernel
theorem dX10_leastWith_4 : decode cX10_leastWith 4 = .ok (.iload_n 3, 1) := by decide +kernel
theorem dX10_leastWith_5 : decode cX10_leastWith 5 = .ok (.aload_n 0, 1) := by decide +kernel
theorem dX10_leastWith_6 : decode cX10_leastWith 6 = .ok (.getfield 13, 3) := by decide +kernel
theorem dX10_leastWith_9 : decode cX10_leastWith 9 = .ok (.sipush 165, 3) := by decide +kernel
theorem dX10_leastWith_12 : decode cX10_leastWith 12 = .ok (.iaload, 1) := by decide +kernel
theorem dX10_leastWith_13 : decode cX10_leastWith 13 = .ok (.if_icmp .ge 71, 3) := by decide +kernel
theorem dX10_leastWith_16 : decode cX10_leastWith 16 = .ok (.aload_n 0, 1) := by decide +kernel
theorem dX10_leastWith_17 : decode cX10_leastWith 17 = .ok (.iload_n 3, 1) := by decide +kernel
theorem dX10_leastWith_18 : decode cX10_leastWith 18 = .ok (.invokevirtual 180, 3) := by decide +kernel
theorem dX10_leastWith_21 : decode cX10_leastWith 21 = .ok (.istore 4, 2) := by decide +kernel
theorem dX10_leastWith_23 : decode cX10_leastWith 23 = .ok (.iconst 0, 1) := by decide +kernel
theorem dX10_leastWith_24 : decode cX10_leastWith 24 = .ok (.istore 5, 2) := by decide +kernel
theorem dX10_leastWith_26 : decode cX10_leastWith 26 = .ok (.iconst 0, 1) := by decide +kernel
theorem dX10_leastWith_27 : decode cX10_leastWith 27 = .ok (.istore 6, 2) := by decide +kernel
theorem dX10_leastWith_29 : decode cX10_leastWith 29 = .ok (.iload 6, 2) := by decide +kernel
theorem dX10_leastWith_31 : decode cX10_leastWith 31 = .ok (.iload 4, 2) := by decide +kernel
theorem dX10_leastWith_33 : decode cX10_leastWith 33 = .ok (.if_icmp .ge 32, 3) := by decide +kernel
theorem dX10_leastWith_36 : decode cX10_leastWith 36 = .ok (.iload 5, 2) := by decide +kernel
theorem dX10_leastWith_38 : decode cX10_leastWith 38 = .ok (.ifCond .ne 14, 3) := by decide +kernel
theorem dX10_leastWith_41 : decode cX10_leastWith 41 = .ok (.aload_n 0, 1) := by decide +kernel
theorem dX10_leastWith_42 : decode cX10_leastWith 42 = .ok (.getfield 37, 3) := by decide +kernel
theorem dX10_leastWith_45 : decode cX10_leastWith 45 = .ok (.iload 6, 2) := by decide +kernel
theorem dX10_leastWith_47 : decode cX10_leastWith 47 = .ok (.iaload, 1) := by decide +kernel
theorem dX10_leastWith_48 : decode cX10_leastWith 48 = .ok (.iload_n 1, 1) := by decide +kernel
theorem dX10_leastWith_49 : decode cX10_leastWith 49 = .ok (.if_icmp .ne 7, 3) := by decide +kernel
theorem dX10_leastWith_52 : decode cX10_leastWith 52 = .ok (.iconst 1, 1) := by decide +kernel
theorem dX10_leastWith_53 : decode cX10_leastWith 53 = .ok (.goto 4, 3) := by decide +kernel
theorem dX10_leastWith_56 : decode cX10_leastWith 56 = .ok (.iconst 0, 1) := by decide +kernel
theorem dX10_leastWith_57 : decode cX10_leastWith 57 = .ok (.istore 5, 2) := by decide +kernel
theorem dX10_leastWith_59 : decode cX10_leastWith 59 = .ok (.iinc 6 1, 3) := by decide +kernel
theorem dX10_leastWith_62 : decode cX10_leastWith 62 = .ok (.goto (-33), 3) := by decide +kernel
theorem dX10_leastWith_65 : decode cX10_leastWith 65 = .ok (.iload_n 2, 1) := by decide +kernel
theorem dX10_leastWith_66 : decode cX10_leastWith 66 = .ok (.iload 5, 2) := by decide +kernel
theorem dX10_leastWith_68 : decode cX10_leastWith 68 = .ok (.ifCond .eq 7, 3) := by decide +kernel
theorem dX10_leastWith_71 : decode cX10_leastWith 71 = .ok (.iconst 1, 1) := by decide +kernel
theorem dX10_leastWith_72 : decode cX10_leastWith 72 = .ok (.goto 4, 3) := by decide +kernel
theorem dX10_leastWith_75 : decode cX10_leastWith 75 = .ok (.iconst 0, 1) := by decide +kernel
theorem dX10_leastWith_76 : decode cX10_leastWith 76 = .ok (.iadd, 1) := by decide +kernel
theorem dX10_leastWith_77 : decode cX10_leastWith 77 = .ok (.istore_n 2, 1) := by decide +kernel
theorem dX10_leastWith_78 : decode cX10_leastWith 78 = .ok (.iinc 3 1, 3) := by decide +kernel
theorem dX10_leastWith_81 : decode cX10_leastWith 81 = .ok (.goto (-77), 3) := by decide +kernel
theorem dX10_leastWith_84 : decode cX10_leastWith 84 = .ok (.iload_n 2, 1) := by decide +kernel
theorem dX10_leastWith_85 : decode cX10_leastWith 85 = .ok (.ireturn, 1) := by decide +kernel
theorem dX10_sign_0 : decode cX10_sign 0 = .ok (.aload_n 0, 1) := by decide +kernel
theorem dX10_sign_1 : decode cX10_sign 1 = .ok (.iload_n 1, 1) := by decide +kernel
theorem dX10_sign_2 : decode cX10_sign 2 = .ok (.invokevirtual 118, 3) := by decide +kernel
theorem dX10_sign_5 : decode cX10_sign 5 = .ok (.ifCond .eq 15, 3) := by decide +kernel
theorem dX10_sign_8 : decode cX10_sign 8 = .ok (.iload_n 2, 1) := by decide +kernel
theorem dX10_sign_9 : decode cX10_sign 9 = .ok (.i2l, 1) := by decide +kernel
theorem dX10_sign_10 : decode cX10_sign 10 = .ok (.lconst 0, 1) := by decide +kernel
theorem dX10_sign_11 : decode cX10_sign 11 = .ok (.ldc2_w 193, 3) := by decide +kernel
theorem dX10_sign_14 : decode cX10_sign 14 = .ok (.invokestatic 75, 3) := by decide +kernel
theorem dX10_sign_17 : decode cX10_sign 17 = .ok (.ifCond .ne 5, 3) := by decide +kernel
theorem dX10_sign_20 : decode cX10_sign 20 = .ok (.iconst (-1), 1) := by decide +kernel
theorem dX10_sign_21 : decode cX10_sign 21 = .ok (.ireturn, 1) := by decide +kernel
theorem dX10_sign_22 : decode cX10_sign 22 = .ok (.iload_n 2, 1) := by decide +kernel
theorem dX10_sign_23 : decode cX10_sign 23 = .ok (.iconst 3, 1) := by decide +kernel
theorem dX10_sign_24 : decode cX10_sign 24 = .ok (.if_icmp .ge 17, 3) := by decide +kernel
theorem dX10_sign_27 : decode cX10_sign 27 = .ok (.aload_n 0, 1) := by decide +kernel
theorem dX10_sign_28 : decode cX10_sign 28 = .ok (.getfield 13, 3) := by decide +kernel
theorem dX10_sign_31 : decode cX10_sign 31 = .ok (.bipush 7, 2) := by decide +kernel
theorem dX10_sign_33 : decode cX10_sign 33 = .ok (.iload_n 1, 1) := by decide +kernel
theorem dX10_sign_34 : decode cX10_sign 34 = .ok (.imul, 1) := by decide +kernel
theorem dX10_sign_35 : decode cX10_sign 35 = .ok (.iload_n 2, 1) := by decide +kernel
theorem dX10_sign_36 : decode cX10_sign 36 = .ok (.iadd, 1) := by decide +kernel
theorem dX10_sign_37 : decode cX10_sign 37 = .ok (.iaload, 1) := by decide +kernel
theorem dX10_sign_38 : decode cX10_sign 38 = .ok (.goto 29, 3) := by decide +kernel
theorem dX10_sign_41 : decode cX10_sign 41 = .ok (.iload_n 2, 1) := by decide +kernel
theorem dX10_sign_42 : decode cX10_sign 42 = .ok (.iconst 3, 1) := by decide +kernel
theorem dX10_sign_43 : decode cX10_sign 43 = .ok (.if_icmp .ne 19, 3) := by decide +kernel
theorem dX10_sign_46 : decode cX10_sign 46 = .ok (.aload_n 0, 1) := by decide +kernel
theorem dX10_sign_47 : decode cX10_sign 47 = .ok (.iload_n 1, 1) := by decide +kernel
theorem dX10_sign_48 : decode cX10_sign 48 = .ok (.invokevirtual 121, 3) := by decide +kernel
theorem dX10_sign_51 : decode cX10_sign 51 = .ok (.ifCond .eq 7, 3) := by decide +kernel
theorem dX10_sign_54 : decode cX10_sign 54 = .ok (.iconst 1, 1) := by decide +kernel
theorem dX10_sign_55 : decode cX10_sign 55 = .ok (.goto 12, 3) := by decide +kernel
theorem dX10_sign_58 : decode cX10_sign 58 = .ok (.iconst 0, 1) := by decide +kernel
theorem dX10_sign_59 : decode cX10_sign 59 = .ok (.goto 8, 3) := by decide +kernel
theorem dX10_sign_62 : decode cX10_sign 62 = .ok (.aload_n 0, 1) := by decide +kernel
theorem dX10_sign_63 : decode cX10_sign 63 = .ok (.iload_n 1, 1) := by decide +kernel
theorem dX10_sign_64 : decode cX10_sign 64 = .ok (.invokevirtual 195, 3) := by decide +kernel
theorem dX10_sign_67 : decode cX10_sign 67 = .ok (.ireturn, 1) := by decide +kernel
theorem dX10_word_0 : decode cX10_word 0 = .ok (.aload_n 0, 1) := by decide +kernel
theorem dX10_word_1 : decode cX10_word 1 = .ok (.iload_n 1, 1) := by decide +kernel
theorem dX10_word_2 : decode cX10_word 2 = .ok (.invokevirtual 198, 3) := by decide +kernel
theorem dX10_word_5 : decode cX10_word 5 = .ok (.ifCond .eq 15, 3) := by decide +kernel
theorem dX10_word_8 : decode cX10_word 8 = .ok (.iload_n 2, 1) := by decide +kernel
theorem dX10_word_9 : decode cX10_word 9 = .ok (.i2l, 1) := by decide +kernel
theorem dX10_word_10 : decode cX10_word 10 = .ok (.lconst 0, 1) := by decide +kernel
theorem dX10_word_11 : decode cX10_word 11 = .ok (.ldc2_w 193, 3) := by decide +kernel
theorem dX10_word_14 : decode cX10_word 14 = .ok (.invokestatic 75, 3) := by decide +kernel
theorem dX10_word_17 : decode cX10_word 17 = .ok (.ifCond .ne 5, 3) := by decide +kernel
theorem dX10_word_20 : decode cX10_word 20 = .ok (.iconst (-1), 1) := by decide +kernel
theorem dX10_word_21 : decode cX10_word 21 = .ok (.ireturn, 1) := by decide +kernel
theorem dX10_word_22 : decode cX10_word 22 = .ok (.iconst 0, 1) := by decide +kernel
theorem dX10_word_23 : decode cX10_word 23 = .ok (.istore_n 3, 1) := by decide +kernel
theorem dX10_word_24 : decode cX10_word 24 = .ok (.iconst 0, 1) := by decide +kernel
theorem dX10_word_25 : decode cX10_word 25 = .ok (.istore 4, 2) := by decide +kernel
theorem dX10_word_27 : decode cX10_word 27 = .ok (.iload 4, 2) := by decide +kernel
theorem dX10_word_29 : decode cX10_word 29 = .ok (.aload_n 0, 1) := by decide +kernel
theorem dX10_word_30 : decode cX10_word 30 = .ok (.iload_n 1, 1) := by decide +kernel
theorem dX10_word_31 : decode cX10_word 31 = .ok (.invokevirtual 137, 3) := by decide +kernel
theorem dX10_word_34 : decode cX10_word 34 = .ok (.if_icmp .ge 27, 3) := by decide +kernel
theorem dX10_word_37 : decode cX10_word 37 = .ok (.iload_n 3, 1) := by decide +kernel
theorem dX10_word_38 : decode cX10_word 38 = .ok (.aload_n 0, 1) := by decide +kernel
theorem dX10_word_39 : decode cX10_word 39 = .ok (.iload_n 1, 1) := by decide +kernel
theorem dX10_word_40 : decode cX10_word 40 = .ok (.iload 4, 2) := by decide +kernel
theorem dX10_word_42 : decode cX10_word 42 = .ok (.invokevirtual 140, 3) := by decide +kernel
theorem dX10_word_45 : decode cX10_word 45 = .ok (.ifCond .eq 7, 3) := by decide +kernel
theorem dX10_word_48 : decode cX10_word 48 = .ok (.iconst 1, 1) := by decide +kernel
theorem dX10_word_49 : decode cX10_word 49 = .ok (.goto 4, 3) := by decide +kernel
theorem dX10_word_52 : decode cX10_word 52 = .ok (.iconst 0, 1) := by decide +kernel
theorem dX10_word_53 : decode cX10_word 53 = .ok (.iadd, 1) := by decide +kernel
theorem dX10_word_54 : decode cX10_word 54 = .ok (.istore_n 3, 1) := by decide +kernel
theorem dX10_word_55 : decode cX10_word 55 = .ok (.iinc 4 1, 3) := by decide +kernel
theorem dX10_word_58 : decode cX10_word 58 = .ok (.goto (-31), 3) := by decide +kernel
theorem dX10_word_61 : decode cX10_word 61 = .ok (.iload_n 2, 1) := by decide +kernel
theorem dX10_word_62 : decode cX10_word 62 = .ok (.iconst 2, 1) := by decide +kernel
theorem dX10_word_63 : decode cX10_word 63 = .ok (.if_icmp .ge 20, 3) := by decide +kernel
theorem dX10_word_66 : decode cX10_word 66 = .ok (.aload_n 0, 1) := by decide +kernel
theorem dX10_word_67 : decode cX10_word 67 = .ok (.getfield 13, 3) := by decide +kernel
theorem dX10_word_70 : decode cX10_word 70 = .ok (.bipush 84, 2) := by decide +kernel
theorem dX10_word_72 : decode cX10_word 72 = .ok (.bipush 10, 2) := by decide +kernel
theorem dX10_word_74 : decode cX10_word 74 = .ok (.iload_n 1, 1) := by decide +kernel
theorem dX10_word_75 : decode cX10_word 75 = .ok (.imul, 1) := by decide +kernel
theorem dX10_word_76 : decode cX10_word 76 = .ok (.iadd, 1) := by decide +kernel
theorem dX10_word_77 : decode cX10_word 77 = .ok (.iload_n 2, 1) := by decide +kernel
theorem dX10_word_78 : decode cX10_word 78 = .ok (.iadd, 1) := by decide +kernel
theorem dX10_word_79 : decode cX10_word 79 = .ok (.iaload, 1) := by decide +kernel
theorem dX10_word_80 : decode cX10_word 80 = .ok (.goto 30, 3) := by decide +kernel
theorem dX10_word_83 : decode cX10_word 83 = .ok (.iload_n 2, 1) := by decide +kernel
theorem dX10_word_84 : decode cX10_word 84 = .ok (.iconst 2, 1) := by decide +kernel
theorem dX10_word_85 : decode cX10_word 85 = .ok (.if_icmp .ne 7, 3) := by decide +kernel
theorem dX10_word_88 : decode cX10_word 88 = .ok (.iload_n 3, 1) := by decide +kernel
theorem dX10_word_89 : decode cX10_word 89 = .ok (.goto 21, 3) := by decide +kernel
theorem dX10_word_92 : decode cX10_word 92 = .ok (.iload_n 2, 1) := by decide +kernel
theorem dX10_word_93 : decode cX10_word 93 = .ok (.iconst 3, 1) := by decide +kernel
theorem dX10_word_94 : decode cX10_word 94 = .ok (.if_icmp .ne 11, 3) := by decide +kernel
theorem dX10_word_97 : decode cX10_word 97 = .ok (.aload_n 0, 1) := by decide +kernel
theorem dX10_word_98 : decode cX10_word 98 = .ok (.iload_n 1, 1) := by decide +kernel
theorem dX10_word_99 : decode cX10_word 99 = .ok (.invokevirtual 201, 3) := by decide +kernel
theorem dX10_word_102 : decode cX10_word 102 = .ok (.goto 8, 3) := by decide +kernel
theorem dX10_word_105 : decode cX10_word 105 = .ok (.aload_n 0, 1) := by decide +kernel
theorem dX10_word_106 : decode cX10_word 106 = .ok (.iload_n 1, 1) := by decide +kernel
theorem dX10_word_107 : decode cX10_word 107 = .ok (.invokevirtual 204, 3) := by decide +kernel
theorem dX10_word_110 : decode cX10_word 110 = .ok (.ireturn, 1) := by decide +kernel
theorem dX10_least_0 : decode cX10_least 0 = .ok (.aload_n 0, 1) := by decide +kernel
theorem dX10_least_1 : decode cX10_least 1 = .ok (.iload_n 1, 1) := by decide +kernel
theorem dX10_least_2 : decode cX10_least 2 = .ok (.invokevirtual 198, 3) := by decide +kernel
theorem dX10_least_5 : decode cX10_least 5 = .ok (.ifCond .eq 9, 3) := by decide +kernel
theorem dX10_least_8 : decode cX10_least 8 = .ok (.iload_n 2, 1) := by decide +kernel
theorem dX10_least_9 : decode cX10_least 9 = .ok (.bipush (-2), 2) := by decide +kernel
theorem dX10_least_11 : decode cX10_least 11 = .ok (.if_icmp .ge 5, 3) := by decide +kernel
theorem dX10_least_14 : decode cX10_least 14 = .ok (.iconst (-1), 1) := by decide +kernel
theorem dX10_least_15 : decode cX10_least 15 = .ok (.ireturn, 1) := by decide +kernel
theorem dX10_least_16 : decode cX10_least 16 = .ok (.aload_n 0, 1) := by decide +kernel
theorem dX10_least_17 : decode cX10_least 17 = .ok (.iload_n 1, 1) := by decide +kernel
theorem dX10_least_18 : decode cX10_least 18 = .ok (.invokevirtual 180, 3) := by decide +kernel
theorem dX10_least_21 : decode cX10_least 21 = .ok (.istore_n 3, 1) := by decide +kernel
theorem dX10_least_22 : decode cX10_least 22 = .ok (.iload_n 3, 1) := by decide +kernel
theorem dX10_least_23 : decode cX10_least 23 = .ok (.bipush (-4), 2) := by decide +kernel
theorem dX10_least_25 : decode cX10_least 25 = .ok (.if_icmp .eq 8, 3) := by decide +kernel
theorem dX10_least_28 : decode cX10_least 28 = .ok (.iload_n 2, 1) := by decide +kernel
theorem dX10_least_29 : decode cX10_least 29 = .ok (.iload_n 3, 1) := by decide +kernel
theorem dX10_least_30 : decode cX10_least 30 = .ok (.if_icmp .lt 6, 3) := by decide +kernel
theorem dX10_least_33 : decode cX10_least 33 = .ok (.bipush (-4), 2) := by decide +kernel
theorem dX10_least_35 : decode cX10_least 35 = .ok (.ireturn, 1) := by decide +kernel
theorem dX10_least_36 : decode cX10_least 36 = .ok (.iload_n 2, 1) := by decide +kernel
theorem dX10_least_37 : decode cX10_least 37 = .ok (.iconst (-1), 1) := by decide +kernel
theorem dX10_least_38 : decode cX10_least 38 = .ok (.if_icmp .ne 7, 3) := by decide +kernel
theorem dX10_least_41 : decode cX10_least 41 = .ok (.iload_n 3, 1) := by decide +kernel
theorem dX10_least_42 : decode cX10_least 42 = .ok (.goto 22, 3) := by decide +kernel
theorem dX10_least_45 : decode cX10_least 45 = .ok (.iload_n 2, 1) := by decide +kernel
theorem dX10_least_46 : decode cX10_least 46 = .ok (.bipush (-2), 2) := by decide +kernel
theorem dX10_least_48 : decode cX10_least 48 = .ok (.if_icmp .ne 10, 3) := by decide +kernel
theorem dX10_least_51 : decode cX10_least 51 = .ok (.aload_n 0, 1) := by decide +kernel
theorem dX10_least_52 : decode cX10_least 52 = .ok (.getfield 177, 3) := by decide +kernel
theorem dX10_least_55 : decode cX10_least 55 = .ok (.goto 9, 3) := by decide +kernel
theorem dX10_least_58 : decode cX10_least 58 = .ok (.aload_n 0, 1) := by decide +kernel
theorem dX10_least_59 : decode cX10_least 59 = .ok (.getfield 37, 3) := by decide +kernel
theorem dX10_least_62 : decode cX10_least 62 = .ok (.iload_n 2, 1) := by decide +kernel
theorem dX10_least_63 : decode cX10_least 63 = .ok (.iaload, 1) := by decide +kernel
theorem dX10_least_64 : decode cX10_least 64 = .ok (.ireturn, 1) := by decide +kernel
theorem dX10_mark_0 : decode cX10_mark 0 = .ok (.aload_n 0, 1) := by decide +kernel
theorem dX10_mark_1 : decode cX10_mark 1 = .ok (.iload_n 1, 1) := by decide +kernel
theorem dX10_mark_2 : decode cX10_mark 2 = .ok (.invokevirtual 198, 3) := by decide +kernel
theorem dX10_mark_5 : decode cX10_mark 5 = .ok (.ifCond .ne 5, 3) := by decide +kernel
theorem dX10_mark_8 : decode cX10_mark 8 = .ok (.iconst (-1), 1) := by decide +kernel
theorem dX10_mark_9 : decode cX10_mark 9 = .ok (.ireturn, 1) := by decide +kernel
theorem dX10_mark_10 : decode cX10_mark 10 = .ok (.aload_n 0, 1) := by decide +kernel
theorem dX10_mark_11 : decode cX10_mark 11 = .ok (.iload_n 1, 1) := by decide +kernel
theorem dX10_mark_12 : decode cX10_mark 12 = .ok (.invokevirtual 201, 3) := by decide +kernel
theorem dX10_mark_15 : decode cX10_mark 15 = .ok (.iconst 2, 1) := by decide +kernel
theorem dX10_mark_16 : decode cX10_mark 16 = .ok (.if_icmp .ne 22, 3) := by decide +kernel
theorem dX10_mark_19 : decode cX10_mark 19 = .ok (.aload_n 0, 1) := by decide +kernel
theorem dX10_mark_20 : decode cX10_mark 20 = .ok (.aload_n 0, 1) := by decide +kernel
theorem dX10_mark_21 : decode cX10_mark 21 = .ok (.getfield 13, 3) := by decide +kernel
theorem dX10_mark_24 : decode cX10_mark 24 = .ok (.bipush 84, 2) := by decide +kernel
theorem dX10_mark_26 : decode cX10_mark 26 = .ok (.bipush 10, 2) := by decide +kernel
theorem dX10_mark_28 : decode cX10_mark 28 = .ok (.iload_n 1, 1) := by decide +kernel
theorem dX10_mark_29 : decode cX10_mark 29 = .ok (.imul, 1) := by decide +kernel
theorem dX10_mark_30 : decode cX10_mark 30 = .ok (.iadd, 1) := by decide +kernel
theorem dX10_mark_31 : decode cX10_mark 31 = .ok (.iaload, 1) := by decide +kernel
theorem dX10_mark_32 : decode cX10_mark 32 = .ok (.invokevirtual 187, 3) := by decide +kernel
theorem dX10_mark_35 : decode cX10_mark 35 = .ok (.goto 5, 3) := by decide +kernel
theorem dX10_mark_38 : decode cX10_mark 38 = .ok (.bipush (-4), 2) := by decide +kernel
theorem dX10_mark_40 : decode cX10_mark 40 = .ok (.ireturn, 1) := by decide +kernel
theorem dX10_writings_0 : decode cX10_writings 0 = .ok (.aload_n 0, 1) := by decide +kernel
theorem dX10_writings_1 : decode cX10_writings 1 = .ok (.iload_n 1, 1) := by decide +kernel
theorem dX10_writings_2 : decode cX10_writings 2 = .ok (.invokevirtual 198, 3) := by decide +kernel
theorem dX10_writings_5 : decode cX10_writings 5 = .ok (.ifCond .ne 7, 3) := by decide +kernel
theorem dX10_writings_8 : decode cX10_writings 8 = .ok (.ldc2_w 207, 3) := by decide +kernel
theorem dX10_writings_11 : decode cX10_writings 11 = .ok (.lreturn, 1) := by decide +kernel
theorem dX10_writings_12 : decode cX10_writings 12 = .ok (.iconst 0, 1) := by decide +kernel
theorem dX10_writings_13 : decode cX10_writings 13 = .ok (.istore_n 2, 1) := by decide +kernel
theorem dX10_writings_14 : decode cX10_writings 14 = .ok (.iconst 0, 1) := by decide +kernel
theorem dX10_writings_15 : decode cX10_writings 15 = .ok (.istore_n 3, 1) := by decide +kernel
theorem dX10_writings_16 : decode cX10_writings 16 = .ok (.iload_n 3, 1) := by decide +kernel
theorem dX10_writings_17 : decode cX10_writings 17 = .ok (.aload_n 0, 1) := by decide +kernel
theorem dX10_writings_18 : decode cX10_writings 18 = .ok (.getfield 13, 3) := by decide +kernel
theorem dX10_writings_21 : decode cX10_writings 21 = .ok (.sipush 164, 3) := by decide +kernel
theorem dX10_writings_24 : decode cX10_writings 24 = .ok (.iaload, 1) := by decide +kernel
theorem dX10_writings_25 : decode cX10_writings 25 = .ok (.if_icmp .ge 64, 3) := by decide +kernel
theorem dX10_writings_28 : decode cX10_writings 28 = .ok (.iload_n 2, 1) := by decide +kernel
theorem dX10_writings_29 : decode cX10_writings 29 = .ok (.aload_n 0, 1) := by decide +kernel
theorem dX10_writings_30 : decode cX10_writings 30 = .ok (.getfield 13, 3) := by decide +kernel
theorem dX10_writings_33 : decode cX10_writings 33 = .ok (.bipush 7, 2) := by decide +kernel
theorem dX10_writings_35 : decode cX10_writings 35 = .ok (.iload_n 3, 1) := by decide +kernel
theorem dX10_writings_36 : decode cX10_writings 36 = .ok (.imul, 1) := by decide +kernel
theorem dX10_writings_37 : decode cX10_writings 37 = .ok (.iaload, 1) := by decide +kernel
theorem dX10_writings_38 : decode cX10_writings 38 = .ok (.iconst 2, 1) := by decide +kernel
theorem dX10_writings_39 : decode cX10_writings 39 = .ok (.if_icmp .ne 41, 3) := by decide +kernel
theorem dX10_writings_42 : decode cX10_writings 42 = .ok (.aload_n 0, 1) := by decide +kernel
theorem dX10_writings_43 : decode cX10_writings 43 = .ok (.getfield 13, 3) := by decide +kernel
theorem dX10_writings_46 : decode cX10_writings 46 = .ok (.bipush 7, 2) := by decide +kernel
theorem dX10_writings_48 : decode cX10_writings 48 = .ok (.iload_n 3, 1) := by decide +kernel
theorem dX10_writings_49 : decode cX10_writings 49 = .ok (.imul, 1) := by decide +kernel
theorem dX10_writings_50 : decode cX10_writings 50 = .ok (.iconst 1, 1) := by decide +kernel
theorem dX10_writings_51 : decode cX10_writings 51 = .ok (.iadd, 1) := by decide +kernel
theorem dX10_writings_52 : decode cX10_writings 52 = .ok (.iaload, 1) := by decide +kernel
theorem dX10_writings_53 : decode cX10_writings 53 = .ok (.aload_n 0, 1) := by decide +kernel
theorem dX10_writings_54 : decode cX10_writings 54 = .ok (.getfield 13, 3) := by decide +kernel
theorem dX10_writings_57 : decode cX10_writings 57 = .ok (.bipush 84, 2) := by decide +kernel
theorem dX10_writings_59 : decode cX10_writings 59 = .ok (.bipush 10, 2) := by decide +kernel
theorem dX10_writings_61 : decode cX10_writings 61 = .ok (.iload_n 1, 1) := by decide +kernel
theorem dX10_writings_62 : decode cX10_writings 62 = .ok (.imul, 1) := by decide +kernel
theorem dX10_writings_63 : decode cX10_writings 63 = .ok (.iadd, 1) := by decide +kernel
theorem dX10_writings_64 : decode cX10_writings 64 = .ok (.iaload, 1) := by decide +kernel
theorem dX10_writings_65 : decode cX10_writings 65 = .ok (.if_icmp .ne 15, 3) := by decide +kernel
theorem dX10_writings_68 : decode cX10_writings 68 = .ok (.aload_n 0, 1) := by decide +kernel
theorem dX10_writings_69 : decode cX10_writings 69 = .ok (.iload_n 3, 1) := by decide +kernel
theorem dX10_writings_70 : decode cX10_writings 70 = .ok (.invokevirtual 121, 3) := by decide +kernel
theorem dX10_writings_73 : decode cX10_writings 73 = .ok (.ifCond .ne 7, 3) := by decide +kernel
theorem dX10_writings_76 : decode cX10_writings 76 = .ok (.iconst 1, 1) := by decide +kernel
theorem dX10_writings_77 : decode cX10_writings 77 = .ok (.goto 4, 3) := by decide +kernel
theorem dX10_writings_80 : decode cX10_writings 80 = .ok (.iconst 0, 1) := by decide +kernel
theorem dX10_writings_81 : decode cX10_writings 81 = .ok (.iadd, 1) := by decide +kernel
theorem dX10_writings_82 : decode cX10_writings 82 = .ok (.istore_n 2, 1) := by decide +kernel
theorem dX10_writings_83 : decode cX10_writings 83 = .ok (.iinc 3 1, 3) := by decide +kernel
theorem dX10_writings_86 : decode cX10_writings 86 = .ok (.goto (-70), 3) := by decide +kernel
theorem dX10_writings_89 : decode cX10_writings 89 = .ok (.aload_n 0, 1) := by decide +kernel
theorem dX10_writings_90 : decode cX10_writings 90 = .ok (.iload_n 1, 1) := by decide +kernel
theorem dX10_writings_91 : decode cX10_writings 91 = .ok (.invokevirtual 170, 3) := by decide +kernel
theorem dX10_writings_94 : decode cX10_writings 94 = .ok (.iconst 0, 1) := by decide +kernel
theorem dX10_writings_95 : decode cX10_writings 95 = .ok (.istore_n 3, 1) := by decide +kernel
theorem dX10_writings_96 : decode cX10_writings 96 = .ok (.iload_n 3, 1) := by decide +kernel
theorem dX10_writings_97 : decode cX10_writings 97 = .ok (.sipush 512, 3) := by decide +kernel
theorem dX10_writings_100 : decode cX10_writings 100 = .ok (.if_icmp .ge 24, 3) := by decide +kernel
theorem dX10_writings_103 : decode cX10_writings 103 = .ok (.aload_n 0, 1) := by decide +kernel
theorem dX10_writings_104 : decode cX10_writings 104 = .ok (.getfield 43, 3) := by decide +kernel
theorem dX10_writings_107 : decode cX10_writings 107 = .ok (.iload_n 3, 1) := by decide +kernel
theorem dX10_writings_108 : decode cX10_writings 108 = .ok (.iload_n 3, 1) := by decide +kernel
theorem dX10_writings_109 : decode cX10_writings 109 = .ok (.ifCond .ne 7, 3) := by decide +kernel
theorem dX10_writings_112 : decode cX10_writings 112 = .ok (.lconst 1, 1) := by decide +kernel
theorem dX10_writings_113 : decode cX10_writings 113 = .ok (.goto 4, 3) := by decide +kernel
theorem dX10_writings_116 : decode cX10_writings 116 = .ok (.lconst 0, 1) := by decide +kernel
theorem dX10_writings_117 : decode cX10_writings 117 = .ok (.lastore, 1) := by decide +kernel
theorem dX10_writings_118 : decode cX10_writings 118 = .ok (.iinc 3 1, 3) := by decide +kernel
theorem dX10_writings_121 : decode cX10_writings 121 = .ok (.goto (-25), 3) := by decide +kernel
theorem dX10_writings_124 : decode cX10_writings 124 = .ok (.lconst 0, 1) := by decide +kernel
theorem dX10_writings_125 : decode cX10_writings 125 = .ok (.lstore_n 3, 1) := by decide +kernel
theorem dX10_writings_126 : decode cX10_writings 126 = .ok (.iconst 1, 1) := by decide +kernel
theorem dX10_writings_127 : decode cX10_writings 127 = .ok (.istore 5, 2) := by decide +kernel
theorem dX10_writings_129 : decode cX10_writings 129 = .ok (.iload 5, 2) := by decide +kernel
theorem dX10_writings_131 : decode cX10_writings 131 = .ok (.bipush 10, 2) := by decide +kernel
theorem dX10_writings_133 : decode cX10_writings 133 = .ok (.if_icmp .ge 219, 3) := by decide +kernel
theorem dX10_writings_136 : decode cX10_writings 136 = .ok (.iload 5, 2) := by decide +kernel
theorem dX10_writings_138 : decode cX10_writings 138 = .ok (.iconst 2, 1) := by decide +kernel
theorem dX10_writings_139 : decode cX10_writings 139 = .ok (.irem, 1) := by decide +kernel
theorem dX10_writings_140 : decode cX10_writings 140 = .ok (.iconst 1, 1) := by decide +kernel
theorem dX10_writings_141 : decode cX10_writings 141 = .ok (.if_icmp .ne 7, 3) := by decide +kernel
theorem dX10_writings_144 : decode cX10_writings 144 = .ok (.iconst 0, 1) := by decide +kernel
theorem dX10_writings_145 : decode cX10_writings 145 = .ok (.goto 6, 3) := by decide +kernel
theorem dX10_writings_148 : decode cX10_writings 148 = .ok (.sipush 512, 3) := by decide +kernel
theorem dX10_writings_151 : decode cX10_writings 151 = .ok (.istore 6, 2) := by decide +kernel
theorem dX10_writings_153 : decode cX10_writings 153 = .ok (.sipush 512, 3) := by decide +kernel
theorem dX10_writings_156 : decode cX10_writings 156 = .ok (.iload 6, 2) := by decide +kernel
theorem dX10_writings_158 : decode cX10_writings 158 = .ok (.isub, 1) := by decide +kernel
theorem dX10_writings_159 : decode cX10_writings 159 = .ok (.istore 7, 2) := by decide +kernel
theorem dX10_writings_161 : decode cX10_writings 161 = .ok (.iconst 0, 1) := by decide +kernel
theorem dX10_writings_162 : decode cX10_writings 162 = .ok (.istore 8, 2) := by decide +kernel
theorem dX10_writings_164 : decode cX10_writings 164 = .ok (.iload 8, 2) := by decide +kernel
theorem dX10_writings_166 : decode cX10_writings 166 = .ok (.aload_n 0, 1) := by decide +kernel
theorem dX10_writings_167 : decode cX10_writings 167 = .ok (.getfield 164, 3) := by decide +kernel
theorem dX10_writings_170 : decode cX10_writings 170 = .ok (.if_icmp .ge 20, 3) := by decide +kernel
theorem dX10_writings_173 : decode cX10_writings 173 = .ok (.aload_n 0, 1) := by decide +kernel
theorem dX10_writings_174 : decode cX10_writings 174 = .ok (.getfield 43, 3) := by decide +kernel
theorem dX10_writings_177 : decode cX10_writings 177 = .ok (.iload 7, 2) := by decide +kernel
theorem dX10_writings_179 : decode cX10_writings 179 = .ok (.iload 8, 2) := by decide +kernel
theorem dX10_writings_181 : decode cX10_writings 181 = .ok (.iadd, 1) := by decide +kernel
theorem dX10_writings_182 : decode cX10_writings 182 = .ok (.lconst 0, 1) := by decide +kernel
theorem dX10_writings_183 : decode cX10_writings 183 = .ok (.lastore, 1) := by decide +kernel
theorem dX10_writings_184 : decode cX10_writings 184 = .ok (.iinc 8 1, 3) := by decide +kernel
theorem dX10_writings_187 : decode cX10_writings 187 = .ok (.goto (-23), 3) := by decide +kernel
theorem dX10_writings_190 : decode cX10_writings 190 = .ok (.iconst 0, 1) := by decide +kernel
theorem dX10_writings_191 : decode cX10_writings 191 = .ok (.istore 8, 2) := by decide +kernel
theorem dX10_writings_193 : decode cX10_writings 193 = .ok (.iload 8, 2) := by decide +kernel
theorem dX10_writings_195 : decode cX10_writings 195 = .ok (.aload_n 0, 1) := by decide +kernel
theorem dX10_writings_196 : decode cX10_writings 196 = .ok (.getfield 164, 3) := by decide +kernel
theorem dX10_writings_199 : decode cX10_writings 199 = .ok (.if_icmp .ge 81, 3) := by decide +kernel
theorem dX10_writings_202 : decode cX10_writings 202 = .ok (.iconst 0, 1) := by decide +kernel
theorem dX10_writings_203 : decode cX10_writings 203 = .ok (.istore 9, 2) := by decide +kernel
theorem dX10_writings_205 : decode cX10_writings 205 = .ok (.iload 9, 2) := by decide +kernel
theorem dX10_writings_207 : decode cX10_writings 207 = .ok (.aload_n 0, 1) := by decide +kernel
theorem dX10_writings_208 : decode cX10_writings 208 = .ok (.getfield 13, 3) := by decide +kernel
theorem dX10_writings_211 : decode cX10_writings 211 = .ok (.sipush 164, 3) := by decide +kernel
theorem dX10_writings_214 : decode cX10_writings 214 = .ok (.iaload, 1) := by decide +kernel
theorem dX10_writings_215 : decode cX10_writings 215 = .ok (.if_icmp .ge 59, 3) := by decide +kernel
theorem dX10_writings_218 : decode cX10_writings 218 = .ok (.aload_n 0, 1) := by decide +kernel
theorem dX10_writings_219 : decode cX10_writings 219 = .ok (.getfield 31, 3) := by decide +kernel
theorem dX10_writings_222 : decode cX10_writings 222 = .ok (.bipush 12, 2) := by decide +kernel
theorem dX10_writings_224 : decode cX10_writings 224 = .ok (.iload 8, 2) := by decide +kernel
theorem dX10_writings_226 : decode cX10_writings 226 = .ok (.imul, 1) := by decide +kernel
theorem dX10_writings_227 : decode cX10_writings 227 = .ok (.iload 9, 2) := by decide +kernel
theorem dX10_writings_229 : decode cX10_writings 229 = .ok (.iadd, 1) := by decide +kernel
theorem dX10_writings_230 : decode cX10_writings 230 = .ok (.iaload, 1) := by decide +kernel
theorem dX10_writings_231 : decode cX10_writings 231 = .ok (.ifCond .lt 37, 3) := by decide +kernel
theorem dX10_writings_234 : decode cX10_writings 234 = .ok (.aload_n 0, 1) := by decide +kernel
theorem dX10_writings_235 : decode cX10_writings 235 = .ok (.getfield 43, 3) := by decide +kernel
theorem dX10_writings_238 : decode cX10_writings 238 = .ok (.iload 7, 2) := by decide +kernel
theorem dX10_writings_240 : decode cX10_writings 240 = .ok (.aload_n 0, 1) := by decide +kernel
theorem dX10_writings_241 : decode cX10_writings 241 = .ok (.getfield 31, 3) := by decide +kernel
theorem dX10_writings_244 : decode cX10_writings 244 = .ok (.bipush 12, 2) := by decide +kernel
theorem dX10_writings_246 : decode cX10_writings 246 = .ok (.iload 8, 2) := by decide +kernel
theorem dX10_writings_248 : decode cX10_writings 248 = .ok (.imul, 1) := by decide +kernel
theorem dX10_writings_249 : decode cX10_writings 249 = .ok (.iload 9, 2) := by decide +kernel
theorem dX10_writings_251 : decode cX10_writings 251 = .ok (.iadd, 1) := by decide +kernel
theorem dX10_writings_252 : decode cX10_writings 252 = .ok (.iaload, 1) := by decide +kernel
theorem dX10_writings_253 : decode cX10_writings 253 = .ok (.iadd, 1) := by decide +kernel
theorem dX10_writings_254 : decode cX10_writings 254 = .ok (.dup2, 1) := by decide +kernel
theorem dX10_writings_255 : decode cX10_writings 255 = .ok (.laload, 1) := by decide +kernel
theorem dX10_writings_256 : decode cX10_writings 256 = .ok (.aload_n 0, 1) := by decide +kernel
theorem dX10_writings_257 : decode cX10_writings 257 = .ok (.getfield 43, 3) := by decide +kernel
theorem dX10_writings_260 : decode cX10_writings 260 = .ok (.iload 6, 2) := by decide +kernel
theorem dX10_writings_262 : decode cX10_writings 262 = .ok (.iload 8, 2) := by decide +kernel
theorem dX10_writings_264 : decode cX10_writings 264 = .ok (.iadd, 1) := by decide +kernel
theorem dX10_writings_265 : decode cX10_writings 265 = .ok (.laload, 1) := by decide +kernel
theorem dX10_writings_266 : decode cX10_writings 266 = .ok (.ladd, 1) := by decide +kernel
theorem dX10_writings_267 : decode cX10_writings 267 = .ok (.lastore, 1) := by decide +kernel
theorem dX10_writings_268 : decode cX10_writings 268 = .ok (.iinc 9 1, 3) := by decide +kernel
theorem dX10_writings_271 : decode cX10_writings 271 = .ok (.goto (-66), 3) := by decide +kernel
theorem dX10_writings_274 : decode cX10_writings 274 = .ok (.iinc 8 1, 3) := by decide +kernel
theorem dX10_writings_277 : decode cX10_writings 277 = .ok (.goto (-84), 3) := by decide +kernel
theorem dX10_writings_280 : decode cX10_writings 280 = .ok (.iconst 0, 1) := by decide +kernel
theorem dX10_writings_281 : decode cX10_writings 281 = .ok (.istore 8, 2) := by decide +kernel
theorem dX10_writings_283 : decode cX10_writings 283 = .ok (.iload 8, 2) := by decide +kernel
theorem dX10_writings_285 : decode cX10_writings 285 = .ok (.aload_n 0, 1) := by decide +kernel
theorem dX10_writings_286 : decode cX10_writings 286 = .ok (.getfield 164, 3) := by decide +kernel
theorem dX10_writings_289 : decode cX10_writings 289 = .ok (.if_icmp .ge 57, 3) := by decide +kernel
theorem dX10_writings_292 : decode cX10_writings 292 = .ok (.lload_n 3, 1) := by decide +kernel
theorem dX10_writings_293 : decode cX10_writings 293 = .ok (.aload_n 0, 1) := by decide +kernel
theorem dX10_writings_294 : decode cX10_writings 294 = .ok (.iload_n 1, 1) := by decide +kernel
theorem dX10_writings_295 : decode cX10_writings 295 = .ok (.aload_n 0, 1) := by decide +kernel
theorem dX10_writings_296 : decode cX10_writings 296 = .ok (.getfield 25, 3) := by decide +kernel
theorem dX10_writings_299 : decode cX10_writings 299 = .ok (.iload 8, 2) := by decide +kernel
theorem dX10_writings_301 : decode cX10_writings 301 = .ok (.iaload, 1) := by decide +kernel
theorem dX10_writings_302 : decode cX10_writings 302 = .ok (.invokevirtual 157, 3) := by decide +kernel
theorem dX10_writings_305 : decode cX10_writings 305 = .ok (.ifCond .eq 32, 3) := by decide +kernel
theorem dX10_writings_308 : decode cX10_writings 308 = .ok (.aload_n 0, 1) := by decide +kernel
theorem dX10_writings_309 : decode cX10_writings 309 = .ok (.getfield 43, 3) := by decide +kernel
theorem dX10_writings_312 : decode cX10_writings 312 = .ok (.iload 7, 2) := by decide +kernel
theorem dX10_writings_314 : decode cX10_writings 314 = .ok (.iload 8, 2) := by decide +kernel
theorem dX10_writings_316 : decode cX10_writings 316 = .ok (.iadd, 1) := by decide +kernel
theorem dX10_writings_317 : decode cX10_writings 317 = .ok (.laload, 1) := by decide +kernel
theorem dX10_writings_318 : decode cX10_writings 318 = .ok (.iload 5, 2) := by decide +kernel
theorem dX10_writings_320 : decode cX10_writings 320 = .ok (.bipush 9, 2) := by decide +kernel
theorem dX10_writings_322 : decode cX10_writings 322 = .ok (.if_icmp .ge 9, 3) := by decide +kernel
theorem dX10_writings_325 : decode cX10_writings 325 = .ok (.iconst 1, 1) := by decide +kernel
theorem dX10_writings_326 : decode cX10_writings 326 = .ok (.iload_n 2, 1) := by decide +kernel
theorem dX10_writings_327 : decode cX10_writings 327 = .ok (.iadd, 1) := by decide +kernel
theorem dX10_writings_328 : decode cX10_writings 328 = .ok (.goto 4, 3) := by decide +kernel
theorem dX10_writings_331 : decode cX10_writings 331 = .ok (.iconst 1, 1) := by decide +kernel
theorem dX10_writings_332 : decode cX10_writings 332 = .ok (.i2l, 1) := by decide +kernel
theorem dX10_writings_333 : decode cX10_writings 333 = .ok (.lmul, 1) := by decide +kernel
theorem dX10_writings_334 : decode cX10_writings 334 = .ok (.goto 4, 3) := by decide +kernel
theorem dX10_writings_337 : decode cX10_writings 337 = .ok (.lconst 0, 1) := by decide +kernel
theorem dX10_writings_338 : decode cX10_writings 338 = .ok (.ladd, 1) := by decide +kernel
theorem dX10_writings_339 : decode cX10_writings 339 = .ok (.lstore_n 3, 1) := by decide +kernel
theorem dX10_writings_340 : decode cX10_writings 340 = .ok (.iinc 8 1, 3) := by decide +kernel
theorem dX10_writings_343 : decode cX10_writings 343 = .ok (.goto (-60), 3) := by decide +kernel
theorem dX10_writings_346 : decode cX10_writings 346 = .ok (.iinc 5 1, 3) := by decide +kernel
theorem dX10_writings_349 : decode cX10_writings 349 = .ok (.goto (-220), 3) := by decide +kernel
theorem dX10_writings_352 : decode cX10_writings 352 = .ok (.lload_n 3, 1) := by decide +kernel
theorem dX10_writings_353 : decode cX10_writings 353 = .ok (.lreturn, 1) := by decide +kernel
end
section
theorem dX10_reckons_0 : decode cX10_reckons 0 = .ok (.aload_n 0, 1) := by decide +kernel
theorem dX10_reckons_1 : decode cX10_reckons 1 = .ok (.getfield 19, 3) := by decide +kernel
theorem dX10_reckons_4 : decode cX10_reckons 4 = .ok (.iconst 2, 1) := by decide +kernel
theorem dX10_reckons_5 : decode cX10_reckons 5 = .ok (.iaload, 1) := by decide +kernel
theorem dX10_reckons_6 : decode cX10_reckons 6 = .ok (.istore_n 1, 1) := by decide +kernel
theorem dX10_reckons_7 : decode cX10_reckons 7 = .ok (.aload_n 0, 1) := by decide +kernel
theorem dX10_reckons_8 : decode cX10_reckons 8 = .ok (.getfield 47, 3) := by decide +kernel
theorem dX10_reckons_11 : decode cX10_reckons 11 = .ok (.iload_n 1, 1) := by decide +kernel
theorem dX10_reckons_12 : decode cX10_reckons 12 = .ok (.iconst 0, 1) := by decide +kernel
theorem dX10_reckons_13 : decode cX10_reckons 13 = .ok (.iastore, 1) := by decide +kernel
theorem dX10_reckons_14 : decode cX10_reckons 14 = .ok (.aload_n 0, 1) := by decide +kernel
theorem dX10_reckons_15 : decode cX10_reckons 15 = .ok (.getfield 50, 3) := by decide +kernel
theorem dX10_reckons_18 : decode cX10_reckons 18 = .ok (.iload_n 1, 1) := by decide +kernel
theorem dX10_reckons_19 : decode cX10_reckons 19 = .ok (.lconst 1, 1) := by decide +kernel
theorem dX10_reckons_20 : decode cX10_reckons 20 = .ok (.lastore, 1) := by decide +kernel
theorem dX10_reckons_21 : decode cX10_reckons 21 = .ok (.iload_n 1, 1) := by decide +kernel
theorem dX10_reckons_22 : decode cX10_reckons 22 = .ok (.iconst 1, 1) := by decide +kernel
theorem dX10_reckons_23 : decode cX10_reckons 23 = .ok (.isub, 1) := by decide +kernel
theorem dX10_reckons_24 : decode cX10_reckons 24 = .ok (.istore_n 2, 1) := by decide +kernel
theorem dX10_reckons_25 : decode cX10_reckons 25 = .ok (.iload_n 2, 1) := by decide +kernel
theorem dX10_reckons_26 : decode cX10_reckons 26 = .ok (.ifCond .lt 146, 3) := by decide +kernel
theorem dX10_reckons_29 : decode cX10_reckons 29 = .ok (.aload_n 0, 1) := by decide +kernel
theorem dX10_reckons_30 : decode cX10_reckons 30 = .ok (.getfield 47, 3) := by decide +kernel
theorem dX10_reckons_33 : decode cX10_reckons 33 = .ok (.iload_n 2, 1) := by decide +kernel
theorem dX10_reckons_34 : decode cX10_reckons 34 = .ok (.sipush 1000, 3) := by decide +kernel
theorem dX10_reckons_37 : decode cX10_reckons 37 = .ok (.iastore, 1) := by decide +kernel
theorem dX10_reckons_38 : decode cX10_reckons 38 = .ok (.aload_n 0, 1) := by decide +kernel
theorem dX10_reckons_39 : decode cX10_reckons 39 = .ok (.getfield 50, 3) := by decide +kernel
theorem dX10_reckons_42 : decode cX10_reckons 42 = .ok (.iload_n 2, 1) := by decide +kernel
theorem dX10_reckons_43 : decode cX10_reckons 43 = .ok (.lconst 0, 1) := by decide +kernel
theorem dX10_reckons_44 : decode cX10_reckons 44 = .ok (.lastore, 1) := by decide +kernel
theorem dX10_reckons_45 : decode cX10_reckons 45 = .ok (.iconst 1, 1) := by decide +kernel
theorem dX10_reckons_46 : decode cX10_reckons 46 = .ok (.istore_n 3, 1) := by decide +kernel
theorem dX10_reckons_47 : decode cX10_reckons 47 = .ok (.iload_n 3, 1) := by decide +kernel
theorem dX10_reckons_48 : decode cX10_reckons 48 = .ok (.bipush 10, 2) := by decide +kernel
theorem dX10_reckons_50 : decode cX10_reckons 50 = .ok (.if_icmp .ge 116, 3) := by decide +kernel
theorem dX10_reckons_53 : decode cX10_reckons 53 = .ok (.iload_n 2, 1) := by decide +kernel
theorem dX10_reckons_54 : decode cX10_reckons 54 = .ok (.iload_n 3, 1) := by decide +kernel
theorem dX10_reckons_55 : decode cX10_reckons 55 = .ok (.iadd, 1) := by decide +kernel
theorem dX10_reckons_56 : decode cX10_reckons 56 = .ok (.iload_n 1, 1) := by decide +kernel
theorem dX10_reckons_57 : decode cX10_reckons 57 = .ok (.if_icmp .gt 109, 3) := by decide +kernel
theorem dX10_reckons_60 : decode cX10_reckons 60 = .ok (.aload_n 0, 1) := by decide +kernel
theorem dX10_reckons_61 : decode cX10_reckons 61 = .ok (.aload_n 0, 1) := by decide +kernel
theorem dX10_reckons_62 : decode cX10_reckons 62 = .ok (.getfield 19, 3) := by decide +kernel
theorem dX10_reckons_65 : decode cX10_reckons 65 = .ok (.iconst 3, 1) := by decide +kernel
theorem dX10_reckons_66 : decode cX10_reckons 66 = .ok (.iload_n 2, 1) := by decide +kernel
theorem dX10_reckons_67 : decode cX10_reckons 67 = .ok (.iadd, 1) := by decide +kernel
theorem dX10_reckons_68 : decode cX10_reckons 68 = .ok (.iload_n 3, 1) := by decide +kernel
theorem dX10_reckons_69 : decode cX10_reckons 69 = .ok (.invokevirtual 183, 3) := by decide +kernel
theorem dX10_reckons_72 : decode cX10_reckons 72 = .ok (.istore 4, 2) := by decide +kernel
theorem dX10_reckons_74 : decode cX10_reckons 74 = .ok (.aload_n 0, 1) := by decide +kernel
theorem dX10_reckons_75 : decode cX10_reckons 75 = .ok (.getfield 53, 3) := by decide +kernel
theorem dX10_reckons_78 : decode cX10_reckons 78 = .ok (.bipush 10, 2) := by decide +kernel
theorem dX10_reckons_80 : decode cX10_reckons 80 = .ok (.iload_n 2, 1) := by decide +kernel
theorem dX10_reckons_81 : decode cX10_reckons 81 = .ok (.imul, 1) := by decide +kernel
theorem dX10_reckons_82 : decode cX10_reckons 82 = .ok (.iload_n 3, 1) := by decide +kernel
theorem dX10_reckons_83 : decode cX10_reckons 83 = .ok (.iadd, 1) := by decide +kernel
theorem dX10_reckons_84 : decode cX10_reckons 84 = .ok (.iload 4, 2) := by decide +kernel
theorem dX10_reckons_86 : decode cX10_reckons 86 = .ok (.iastore, 1) := by decide +kernel
theorem dX10_reckons_87 : decode cX10_reckons 87 = .ok (.aload_n 0, 1) := by decide +kernel
theorem dX10_reckons_88 : decode cX10_reckons 88 = .ok (.getfield 50, 3) := by decide +kernel
theorem dX10_reckons_91 : decode cX10_reckons 91 = .ok (.iload_n 2, 1) := by decide +kernel
theorem dX10_reckons_92 : decode cX10_reckons 92 = .ok (.dup2, 1) := by decide +kernel
theorem dX10_reckons_93 : decode cX10_reckons 93 = .ok (.laload, 1) := by decide +kernel
theorem dX10_reckons_94 : decode cX10_reckons 94 = .ok (.aload_n 0, 1) := by decide +kernel
theorem dX10_reckons_95 : decode cX10_reckons 95 = .ok (.getfield 50, 3) := by decide +kernel
theorem dX10_reckons_98 : decode cX10_reckons 98 = .ok (.iload_n 2, 1) := by decide +kernel
theorem dX10_reckons_99 : decode cX10_reckons 99 = .ok (.iload_n 3, 1) := by decide +kernel
theorem dX10_reckons_100 : decode cX10_reckons 100 = .ok (.iadd, 1) := by decide +kernel
theorem dX10_reckons_101 : decode cX10_reckons 101 = .ok (.laload, 1) := by decide +kernel
theorem dX10_reckons_102 : decode cX10_reckons 102 = .ok (.iload 4, 2) := by decide +kernel
theorem dX10_reckons_104 : decode cX10_reckons 104 = .ok (.invokestatic 127, 3) := by decide +kernel
theorem dX10_reckons_107 : decode cX10_reckons 107 = .ok (.i2l, 1) := by decide +kernel
theorem dX10_reckons_108 : decode cX10_reckons 108 = .ok (.lmul, 1) := by decide +kernel
theorem dX10_reckons_109 : decode cX10_reckons 109 = .ok (.ladd, 1) := by decide +kernel
theorem dX10_reckons_110 : decode cX10_reckons 110 = .ok (.lastore, 1) := by decide +kernel
theorem dX10_reckons_111 : decode cX10_reckons 111 = .ok (.aload_n 0, 1) := by decide +kernel
theorem dX10_reckons_112 : decode cX10_reckons 112 = .ok (.getfield 47, 3) := by decide +kernel
theorem dX10_reckons_115 : decode cX10_reckons 115 = .ok (.iload_n 2, 1) := by decide +kernel
theorem dX10_reckons_116 : decode cX10_reckons 116 = .ok (.iload 4, 2) := by decide +kernel
theorem dX10_reckons_118 : decode cX10_reckons 118 = .ok (.ifCond .le 35, 3) := by decide +kernel
theorem dX10_reckons_121 : decode cX10_reckons 121 = .ok (.aload_n 0, 1) := by decide +kernel
theorem dX10_reckons_122 : decode cX10_reckons 122 = .ok (.getfield 47, 3) := by decide +kernel
theorem dX10_reckons_125 : decode cX10_reckons 125 = .ok (.iload_n 2, 1) := by decide +kernel
theorem dX10_reckons_126 : decode cX10_reckons 126 = .ok (.iload_n 3, 1) := by decide +kernel
theorem dX10_reckons_127 : decode cX10_reckons 127 = .ok (.iadd, 1) := by decide +kernel
theorem dX10_reckons_128 : decode cX10_reckons 128 = .ok (.iaload, 1) := by decide +kernel
theorem dX10_reckons_129 : decode cX10_reckons 129 = .ok (.iconst 1, 1) := by decide +kernel
theorem dX10_reckons_130 : decode cX10_reckons 130 = .ok (.iadd, 1) := by decide +kernel
theorem dX10_reckons_131 : decode cX10_reckons 131 = .ok (.aload_n 0, 1) := by decide +kernel
theorem dX10_reckons_132 : decode cX10_reckons 132 = .ok (.getfield 47, 3) := by decide +kernel
theorem dX10_reckons_135 : decode cX10_reckons 135 = .ok (.iload_n 2, 1) := by decide +kernel
theorem dX10_reckons_136 : decode cX10_reckons 136 = .ok (.iaload, 1) := by decide +kernel
theorem dX10_reckons_137 : decode cX10_reckons 137 = .ok (.if_icmp .ge 16, 3) := by decide +kernel
theorem dX10_reckons_140 : decode cX10_reckons 140 = .ok (.aload_n 0, 1) := by decide +kernel
theorem dX10_reckons_141 : decode cX10_reckons 141 = .ok (.getfield 47, 3) := by decide +kernel
theorem dX10_reckons_144 : decode cX10_reckons 144 = .ok (.iload_n 2, 1) := by decide +kernel
theorem dX10_reckons_145 : decode cX10_reckons 145 = .ok (.iload_n 3, 1) := by decide +kernel
theorem dX10_reckons_146 : decode cX10_reckons 146 = .ok (.iadd, 1) := by decide +kernel
theorem dX10_reckons_147 : decode cX10_reckons 147 = .ok (.iaload, 1) := by decide +kernel
theorem dX10_reckons_148 : decode cX10_reckons 148 = .ok (.iconst 1, 1) := by decide +kernel
theorem dX10_reckons_149 : decode cX10_reckons 149 = .ok (.iadd, 1) := by decide +kernel
theorem dX10_reckons_150 : decode cX10_reckons 150 = .ok (.goto 9, 3) := by decide +kernel
theorem dX10_reckons_153 : decode cX10_reckons 153 = .ok (.aload_n 0, 1) := by decide +kernel
theorem dX10_reckons_154 : decode cX10_reckons 154 = .ok (.getfield 47, 3) := by decide +kernel
theorem dX10_reckons_157 : decode cX10_reckons 157 = .ok (.iload_n 2, 1) := by decide +kernel
theorem dX10_reckons_158 : decode cX10_reckons 158 = .ok (.iaload, 1) := by decide +kernel
theorem dX10_reckons_159 : decode cX10_reckons 159 = .ok (.iastore, 1) := by decide +kernel
theorem dX10_reckons_160 : decode cX10_reckons 160 = .ok (.iinc 3 1, 3) := by decide +kernel
theorem dX10_reckons_163 : decode cX10_reckons 163 = .ok (.goto (-116), 3) := by decide +kernel
theorem dX10_reckons_166 : decode cX10_reckons 166 = .ok (.iinc 2 (-1), 3) := by decide +kernel
theorem dX10_reckons_169 : decode cX10_reckons 169 = .ok (.goto (-144), 3) := by decide +kernel
theorem dX10_reckons_172 : decode cX10_reckons 172 = .ok (.return_, 1) := by decide +kernel
theorem dX10_rowFrom_0 : decode cX10_rowFrom 0 = .ok (.iconst 1, 1) := by decide +kernel
theorem dX10_rowFrom_1 : decode cX10_rowFrom 1 = .ok (.istore_n 2, 1) := by decide +kernel
theorem dX10_rowFrom_2 : decode cX10_rowFrom 2 = .ok (.aload_n 0, 1) := by decide +kernel
theorem dX10_rowFrom_3 : decode cX10_rowFrom 3 = .ok (.getfield 53, 3) := by decide +kernel
theorem dX10_rowFrom_6 : decode cX10_rowFrom 6 = .ok (.bipush 10, 2) := by decide +kernel
theorem dX10_rowFrom_8 : decode cX10_rowFrom 8 = .ok (.iload_n 1, 1) := by decide +kernel
theorem dX10_rowFrom_9 : decode cX10_rowFrom 9 = .ok (.imul, 1) := by decide +kernel
theorem dX10_rowFrom_10 : decode cX10_rowFrom 10 = .ok (.iload_n 2, 1) := by decide +kernel
theorem dX10_rowFrom_11 : decode cX10_rowFrom 11 = .ok (.iadd, 1) := by decide +kernel
theorem dX10_rowFrom_12 : decode cX10_rowFrom 12 = .ok (.iaload, 1) := by decide +kernel
theorem dX10_rowFrom_13 : decode cX10_rowFrom 13 = .ok (.ifCond .eq 22, 3) := by decide +kernel
theorem dX10_rowFrom_16 : decode cX10_rowFrom 16 = .ok (.aload_n 0, 1) := by decide +kernel
theorem dX10_rowFrom_17 : decode cX10_rowFrom 17 = .ok (.getfield 47, 3) := by decide +kernel
theorem dX10_rowFrom_20 : decode cX10_rowFrom 20 = .ok (.iload_n 1, 1) := by decide +kernel
theorem dX10_rowFrom_21 : decode cX10_rowFrom 21 = .ok (.iload_n 2, 1) := by decide +kernel
theorem dX10_rowFrom_22 : decode cX10_rowFrom 22 = .ok (.iadd, 1) := by decide +kernel
theorem dX10_rowFrom_23 : decode cX10_rowFrom 23 = .ok (.iaload, 1) := by decide +kernel
theorem dX10_rowFrom_24 : decode cX10_rowFrom 24 = .ok (.iconst 1, 1) := by decide +kernel
theorem dX10_rowFrom_25 : decode cX10_rowFrom 25 = .ok (.iadd, 1) := by decide +kernel
theorem dX10_rowFrom_26 : decode cX10_rowFrom 26 = .ok (.aload_n 0, 1) := by decide +kernel
theorem dX10_rowFrom_27 : decode cX10_rowFrom 27 = .ok (.getfield 47, 3) := by decide +kernel
theorem dX10_rowFrom_30 : decode cX10_rowFrom 30 = .ok (.iload_n 1, 1) := by decide +kernel
theorem dX10_rowFrom_31 : decode cX10_rowFrom 31 = .ok (.iaload, 1) := by decide +kernel
theorem dX10_rowFrom_32 : decode cX10_rowFrom 32 = .ok (.if_icmp .eq 9, 3) := by decide +kernel
theorem dX10_rowFrom_35 : decode cX10_rowFrom 35 = .ok (.iinc 2 1, 3) := by decide +kernel
theorem dX10_rowFrom_38 : decode cX10_rowFrom 38 = .ok (.goto (-36), 3) := by decide +kernel
theorem dX10_rowFrom_41 : decode cX10_rowFrom 41 = .ok (.iload_n 2, 1) := by decide +kernel
theorem dX10_rowFrom_42 : decode cX10_rowFrom 42 = .ok (.ireturn, 1) := by decide +kernel
theorem dX10_carved_0 : decode cX10_carved 0 = .ok (.iload_n 1, 1) := by decide +kernel
theorem dX10_carved_1 : decode cX10_carved 1 = .ok (.ifCond .ge 7, 3) := by decide +kernel
theorem dX10_carved_4 : decode cX10_carved 4 = .ok (.iconst (-1), 1) := by decide +kernel
theorem dX10_carved_5 : decode cX10_carved 5 = .ok (.goto 26, 3) := by decide +kernel
theorem dX10_carved_8 : decode cX10_carved 8 = .ok (.iload_n 1, 1) := by decide +kernel
theorem dX10_carved_9 : decode cX10_carved 9 = .ok (.aload_n 0, 1) := by decide +kernel
theorem dX10_carved_10 : decode cX10_carved 10 = .ok (.getfield 19, 3) := by decide +kernel
theorem dX10_carved_13 : decode cX10_carved 13 = .ok (.iconst 2, 1) := by decide +kernel
theorem dX10_carved_14 : decode cX10_carved 14 = .ok (.iaload, 1) := by decide +kernel
theorem dX10_carved_15 : decode cX10_carved 15 = .ok (.if_icmp .ge 14, 3) := by decide +kernel
theorem dX10_carved_18 : decode cX10_carved 18 = .ok (.aload_n 0, 1) := by decide +kernel
theorem dX10_carved_19 : decode cX10_carved 19 = .ok (.getfield 19, 3) := by decide +kernel
theorem dX10_carved_22 : decode cX10_carved 22 = .ok (.iconst 3, 1) := by decide +kernel
theorem dX10_carved_23 : decode cX10_carved 23 = .ok (.iload_n 1, 1) := by decide +kernel
theorem dX10_carved_24 : decode cX10_carved 24 = .ok (.iadd, 1) := by decide +kernel
theorem dX10_carved_25 : decode cX10_carved 25 = .ok (.iaload, 1) := by decide +kernel
theorem dX10_carved_26 : decode cX10_carved 26 = .ok (.goto 5, 3) := by decide +kernel
theorem dX10_carved_29 : decode cX10_carved 29 = .ok (.bipush (-4), 2) := by decide +kernel
theorem dX10_carved_31 : decode cX10_carved 31 = .ok (.ireturn, 1) := by decide +kernel
theorem dX10_read_0 : decode cX10_read 0 = .ok (.iload_n 1, 1) := by decide +kernel
theorem dX10_read_1 : decode cX10_read 1 = .ok (.ifCond .lt 15, 3) := by decide +kernel
theorem dX10_read_4 : decode cX10_read 4 = .ok (.iload_n 2, 1) := by decide +kernel
theorem dX10_read_5 : decode cX10_read 5 = .ok (.i2l, 1) := by decide +kernel
theorem dX10_read_6 : decode cX10_read 6 = .ok (.lconst 1, 1) := by decide +kernel
theorem dX10_read_7 : decode cX10_read 7 = .ok (.ldc2_w 209, 3) := by decide +kernel
theorem dX10_read_10 : decode cX10_read 10 = .ok (.invokestatic 75, 3) := by decide +kernel
theorem dX10_read_13 : decode cX10_read 13 = .ok (.ifCond .ne 5, 3) := by decide +kernel
theorem dX10_read_16 : decode cX10_read 16 = .ok (.iconst (-1), 1) := by decide +kernel
theorem dX10_read_17 : decode cX10_read 17 = .ok (.ireturn, 1) := by decide +kernel
theorem dX10_read_18 : decode cX10_read 18 = .ok (.iload_n 1, 1) := by decide +kernel
theorem dX10_read_19 : decode cX10_read 19 = .ok (.iload_n 2, 1) := by decide +kernel
theorem dX10_read_20 : decode cX10_read 20 = .ok (.iadd, 1) := by decide +kernel
theorem dX10_read_21 : decode cX10_read 21 = .ok (.aload_n 0, 1) := by decide +kernel
theorem dX10_read_22 : decode cX10_read 22 = .ok (.getfield 19, 3) := by decide +kernel
theorem dX10_read_25 : decode cX10_read 25 = .ok (.iconst 2, 1) := by decide +kernel
theorem dX10_read_26 : decode cX10_read 26 = .ok (.iaload, 1) := by decide +kernel
theorem dX10_read_27 : decode cX10_read 27 = .ok (.if_icmp .gt 9, 3) := by decide +kernel
theorem dX10_read_30 : decode cX10_read 30 = .ok (.iload_n 1, 1) := by decide +kernel
theorem dX10_read_31 : decode cX10_read 31 = .ok (.bipush 16, 2) := by decide +kernel
theorem dX10_read_33 : decode cX10_read 33 = .ok (.if_icmp .le 8, 3) := by decide +kernel
theorem dX10_read_36 : decode cX10_read 36 = .ok (.bipush (-2), 2) := by decide +kernel
theorem dX10_read_38 : decode cX10_read 38 = .ok (.goto 15, 3) := by decide +kernel
theorem dX10_read_41 : decode cX10_read 41 = .ok (.aload_n 0, 1) := by decide +kernel
theorem dX10_read_42 : decode cX10_read 42 = .ok (.aload_n 0, 1) := by decide +kernel
theorem dX10_read_43 : decode cX10_read 43 = .ok (.getfield 19, 3) := by decide +kernel
theorem dX10_read_46 : decode cX10_read 46 = .ok (.iconst 3, 1) := by decide +kernel
theorem dX10_read_47 : decode cX10_read 47 = .ok (.iload_n 1, 1) := by decide +kernel
theorem dX10_read_48 : decode cX10_read 48 = .ok (.iadd, 1) := by decide +kernel
theorem dX10_read_49 : decode cX10_read 49 = .ok (.iload_n 2, 1) := by decide +kernel
theorem dX10_read_50 : decode cX10_read 50 = .ok (.invokevirtual 183, 3) := by decide +kernel
theorem dX10_read_53 : decode cX10_read 53 = .ok (.ireturn, 1) := by decide +kernel
theorem dX10_readings_0 : decode cX10_readings 0 = .ok (.aload_n 0, 1) := by decide +kernel
theorem dX10_readings_1 : decode cX10_readings 1 = .ok (.invokevirtual 211, 3) := by decide +kernel
theorem dX10_readings_4 : decode cX10_readings 4 = .ok (.aload_n 0, 1) := by decide +kernel
theorem dX10_readings_5 : decode cX10_readings 5 = .ok (.getfield 50, 3) := by decide +kernel
theorem dX10_readings_8 : decode cX10_readings 8 = .ok (.iconst 0, 1) := by decide +kernel
theorem dX10_readings_9 : decode cX10_readings 9 = .ok (.laload, 1) := by decide +kernel
theorem dX10_readings_10 : decode cX10_readings 10 = .ok (.lreturn, 1) := by decide +kernel
theorem dX10_begins_0 : decode cX10_begins 0 = .ok (.aload_n 0, 1) := by decide +kernel
theorem dX10_begins_1 : decode cX10_begins 1 = .ok (.invokevirtual 211, 3) := by decide +kernel
theorem dX10_begins_4 : decode cX10_begins 4 = .ok (.aload_n 0, 1) := by decide +kernel
theorem dX10_begins_5 : decode cX10_begins 5 = .ok (.getfield 47, 3) := by decide +kernel
theorem dX10_begins_8 : decode cX10_begins 8 = .ok (.iconst 0, 1) := by decide +kernel
theorem dX10_begins_9 : decode cX10_begins 9 = .ok (.iaload, 1) := by decide +kernel
theorem dX10_begins_10 : decode cX10_begins 10 = .ok (.sipush 999, 3) := by decide +kernel
theorem dX10_begins_13 : decode cX10_begins 13 = .ok (.if_icmp .gt 13, 3) := by decide +kernel
theorem dX10_begins_16 : decode cX10_begins 16 = .ok (.iload_n 1, 1) := by decide +kernel
theorem dX10_begins_17 : decode cX10_begins 17 = .ok (.aload_n 0, 1) := by decide +kernel
theorem dX10_begins_18 : decode cX10_begins 18 = .ok (.getfield 47, 3) := by decide +kernel
theorem dX10_begins_21 : decode cX10_begins 21 = .ok (.iconst 0, 1) := by decide +kernel
theorem dX10_begins_22 : decode cX10_begins 22 = .ok (.iaload, 1) := by decide +kernel
theorem dX10_begins_23 : decode cX10_begins 23 = .ok (.if_icmp .lt 6, 3) := by decide +kernel
theorem dX10_begins_26 : decode cX10_begins 26 = .ok (.bipush (-4), 2) := by decide +kernel
theorem dX10_begins_28 : decode cX10_begins 28 = .ok (.ireturn, 1) := by decide +kernel
theorem dX10_begins_29 : decode cX10_begins 29 = .ok (.iconst 0, 1) := by decide +kernel
theorem dX10_begins_30 : decode cX10_begins 30 = .ok (.istore_n 2, 1) := by decide +kernel
theorem dX10_begins_31 : decode cX10_begins 31 = .ok (.iconst 0, 1) := by decide +kernel
theorem dX10_begins_32 : decode cX10_begins 32 = .ok (.istore_n 3, 1) := by decide +kernel
theorem dX10_begins_33 : decode cX10_begins 33 = .ok (.iload_n 3, 1) := by decide +kernel
theorem dX10_begins_34 : decode cX10_begins 34 = .ok (.iload_n 1, 1) := by decide +kernel
theorem dX10_begins_35 : decode cX10_begins 35 = .ok (.if_icmp .ge 17, 3) := by decide +kernel
theorem dX10_begins_38 : decode cX10_begins 38 = .ok (.iload_n 2, 1) := by decide +kernel
theorem dX10_begins_39 : decode cX10_begins 39 = .ok (.aload_n 0, 1) := by decide +kernel
theorem dX10_begins_40 : decode cX10_begins 40 = .ok (.iload_n 2, 1) := by decide +kernel
theorem dX10_begins_41 : decode cX10_begins 41 = .ok (.invokevirtual 214, 3) := by decide +kernel
theorem dX10_begins_44 : decode cX10_begins 44 = .ok (.iadd, 1) := by decide +kernel
theorem dX10_begins_45 : decode cX10_begins 45 = .ok (.istore_n 2, 1) := by decide +kernel
theorem dX10_begins_46 : decode cX10_begins 46 = .ok (.iinc 3 1, 3) := by decide +kernel
theorem dX10_begins_49 : decode cX10_begins 49 = .ok (.goto (-16), 3) := by decide +kernel
theorem dX10_begins_52 : decode cX10_begins 52 = .ok (.iload_n 2, 1) := by decide +kernel
theorem dX10_begins_53 : decode cX10_begins 53 = .ok (.ireturn, 1) := by decide +kernel
theorem dX10_reading_0 : decode cX10_reading 0 = .ok (.iload_n 1, 1) := by decide +kernel
theorem dX10_reading_1 : decode cX10_reading 1 = .ok (.iconst (-1), 1) := by decide +kernel
theorem dX10_reading_2 : decode cX10_reading 2 = .ok (.if_icmp .ge 5, 3) := by decide +kernel
theorem dX10_reading_5 : decode cX10_reading 5 = .ok (.iconst (-1), 1) := by decide +kernel
theorem dX10_reading_6 : decode cX10_reading 6 = .ok (.ireturn, 1) := by decide +kernel
theorem dX10_reading_7 : decode cX10_reading 7 = .ok (.aload_n 0, 1) := by decide +kernel
theorem dX10_reading_8 : decode cX10_reading 8 = .ok (.iload_n 1, 1) := by decide +kernel
theorem dX10_reading_9 : decode cX10_reading 9 = .ok (.invokevirtual 217, 3) := by decide +kernel
theorem dX10_reading_12 : decode cX10_reading 12 = .ok (.istore_n 2, 1) := by decide +kernel
theorem dX10_reading_13 : decode cX10_reading 13 = .ok (.iload_n 1, 1) := by decide +kernel
theorem dX10_reading_14 : decode cX10_reading 14 = .ok (.iconst (-1), 1) := by decide +kernel
theorem dX10_reading_15 : decode cX10_reading 15 = .ok (.if_icmp .ne 27, 3) := by decide +kernel
theorem dX10_reading_18 : decode cX10_reading 18 = .ok (.aload_n 0, 1) := by decide +kernel
theorem dX10_reading_19 : decode cX10_reading 19 = .ok (.getfield 47, 3) := by decide +kernel
theorem dX10_reading_22 : decode cX10_reading 22 = .ok (.iconst 0, 1) := by decide +kernel
theorem dX10_reading_23 : decode cX10_reading 23 = .ok (.iaload, 1) := by decide +kernel
theorem dX10_reading_24 : decode cX10_reading 24 = .ok (.sipush 999, 3) := by decide +kernel
theorem dX10_reading_27 : decode cX10_reading 27 = .ok (.if_icmp .le 8, 3) := by decide +kernel
theorem dX10_reading_30 : decode cX10_reading 30 = .ok (.bipush (-4), 2) := by decide +kernel
theorem dX10_reading_32 : decode cX10_reading 32 = .ok (.goto 9, 3) := by decide +kernel
theorem dX10_reading_35 : decode cX10_reading 35 = .ok (.aload_n 0, 1) := by decide +kernel
theorem dX10_reading_36 : decode cX10_reading 36 = .ok (.getfield 47, 3) := by decide +kernel
theorem dX10_reading_39 : decode cX10_reading 39 = .ok (.iconst 0, 1) := by decide +kernel
theorem dX10_reading_40 : decode cX10_reading 40 = .ok (.iaload, 1) := by decide +kernel
theorem dX10_reading_41 : decode cX10_reading 41 = .ok (.ireturn, 1) := by decide +kernel
theorem dX10_reading_42 : decode cX10_reading 42 = .ok (.iload_n 2, 1) := by decide +kernel
theorem dX10_reading_43 : decode cX10_reading 43 = .ok (.bipush (-4), 2) := by decide +kernel
theorem dX10_reading_45 : decode cX10_reading 45 = .ok (.if_icmp .ne 6, 3) := by decide +kernel
theorem dX10_reading_48 : decode cX10_reading 48 = .ok (.bipush (-4), 2) := by decide +kernel
theorem dX10_reading_50 : decode cX10_reading 50 = .ok (.ireturn, 1) := by decide +kernel
theorem dX10_reading_51 : decode cX10_reading 51 = .ok (.aload_n 0, 1) := by decide +kernel
theorem dX10_reading_52 : decode cX10_reading 52 = .ok (.getfield 53, 3) := by decide +kernel
theorem dX10_reading_55 : decode cX10_reading 55 = .ok (.bipush 10, 2) := by decide +kernel
theorem dX10_reading_57 : decode cX10_reading 57 = .ok (.iload_n 2, 1) := by decide +kernel
theorem dX10_reading_58 : decode cX10_reading 58 = .ok (.imul, 1) := by decide +kernel
theorem dX10_reading_59 : decode cX10_reading 59 = .ok (.aload_n 0, 1) := by decide +kernel
theorem dX10_reading_60 : decode cX10_reading 60 = .ok (.iload_n 2, 1) := by decide +kernel
theorem dX10_reading_61 : decode cX10_reading 61 = .ok (.invokevirtual 214, 3) := by decide +kernel
theorem dX10_reading_64 : decode cX10_reading 64 = .ok (.iadd, 1) := by decide +kernel
theorem dX10_reading_65 : decode cX10_reading 65 = .ok (.iaload, 1) := by decide +kernel
theorem dX10_reading_66 : decode cX10_reading 66 = .ok (.istore_n 3, 1) := by decide +kernel
theorem dX10_reading_67 : decode cX10_reading 67 = .ok (.iconst 0, 1) := by decide +kernel
theorem dX10_reading_68 : decode cX10_reading 68 = .ok (.istore 4, 2) := by decide +kernel
theorem dX10_reading_70 : decode cX10_reading 70 = .ok (.iload_n 3, 1) := by decide +kernel
theorem dX10_reading_71 : decode cX10_reading 71 = .ok (.iload 4, 2) := by decide +kernel
theorem dX10_reading_73 : decode cX10_reading 73 = .ok (.ishr, 1) := by decide +kernel
theorem dX10_reading_74 : decode cX10_reading 74 = .ok (.iconst 1, 1) := by decide +kernel
theorem dX10_reading_75 : decode cX10_reading 75 = .ok (.iand, 1) := by decide +kernel
theorem dX10_reading_76 : decode cX10_reading 76 = .ok (.ifCond .ne 9, 3) := by decide +kernel
theorem dX10_reading_79 : decode cX10_reading 79 = .ok (.iinc 4 1, 3) := by decide +kernel
theorem dX10_reading_82 : decode cX10_reading 82 = .ok (.goto (-12), 3) := by decide +kernel
theorem dX10_reading_85 : decode cX10_reading 85 = .ok (.iload 4, 2) := by decide +kernel
theorem dX10_reading_87 : decode cX10_reading 87 = .ok (.ireturn, 1) := by decide +kernel
theorem dX10_cut_0 : decode cX10_cut 0 = .ok (.iload_n 1, 1) := by decide +kernel
theorem dX10_cut_1 : decode cX10_cut 1 = .ok (.ifCond .ge 5, 3) := by decide +kernel
theorem dX10_cut_4 : decode cX10_cut 4 = .ok (.iconst (-1), 1) := by decide +kernel
theorem dX10_cut_5 : decode cX10_cut 5 = .ok (.ireturn, 1) := by decide +kernel
theorem dX10_cut_6 : decode cX10_cut 6 = .ok (.aload_n 0, 1) := by decide +kernel
theorem dX10_cut_7 : decode cX10_cut 7 = .ok (.iload_n 1, 1) := by decide +kernel
theorem dX10_cut_8 : decode cX10_cut 8 = .ok (.invokevirtual 217, 3) := by decide +kernel
theorem dX10_cut_11 : decode cX10_cut 11 = .ok (.istore_n 2, 1) := by decide +kernel
theorem dX10_cut_12 : decode cX10_cut 12 = .ok (.iload_n 2, 1) := by decide +kernel
theorem dX10_cut_13 : decode cX10_cut 13 = .ok (.bipush (-4), 2) := by decide +kernel
theorem dX10_cut_15 : decode cX10_cut 15 = .ok (.if_icmp .ne 8, 3) := by decide +kernel
theorem dX10_cut_18 : decode cX10_cut 18 = .ok (.bipush (-4), 2) := by decide +kernel
theorem dX10_cut_20 : decode cX10_cut 20 = .ok (.goto 8, 3) := by decide +kernel
theorem dX10_cut_23 : decode cX10_cut 23 = .ok (.aload_n 0, 1) := by decide +kernel
theorem dX10_cut_24 : decode cX10_cut 24 = .ok (.iload_n 2, 1) := by decide +kernel
theorem dX10_cut_25 : decode cX10_cut 25 = .ok (.invokevirtual 214, 3) := by decide +kernel
theorem dX10_cut_28 : decode cX10_cut 28 = .ok (.ireturn, 1) := by decide +kernel
theorem dX10_count_0 : decode cX10_count 0 = .ok (.iconst 0, 1) := by decide +kernel
theorem dX10_count_1 : decode cX10_count 1 = .ok (.istore_n 2, 1) := by decide +kernel
theorem dX10_count_2 : decode cX10_count 2 = .ok (.iconst 0, 1) := by decide +kernel
theorem dX10_count_3 : decode cX10_count 3 = .ok (.istore_n 3, 1) := by decide +kernel
theorem dX10_count_4 : decode cX10_count 4 = .ok (.iconst 0, 1) := by decide +kernel
theorem dX10_count_5 : decode cX10_count 5 = .ok (.istore 4, 2) := by decide +kernel
theorem dX10_count_7 : decode cX10_count 7 = .ok (.iconst 0, 1) := by decide +kernel
theorem dX10_count_8 : decode cX10_count 8 = .ok (.istore 5, 2) := by decide +kernel
theorem dX10_count_10 : decode cX10_count 10 = .ok (.iload 5, 2) := by decide +kernel
theorem dX10_count_12 : decode cX10_count 12 = .ok (.aload_n 0, 1) := by decide +kernel
theorem dX10_count_13 : decode cX10_count 13 = .ok (.getfield 13, 3) := by decide +kernel
theorem dX10_count_16 : decode cX10_count 16 = .ok (.sipush 165, 3) := by decide +kernel
theorem dX10_count_19 : decode cX10_count 19 = .ok (.iaload, 1) := by decide +kernel
theorem dX10_count_20 : decode cX10_count 20 = .ok (.if_icmp .ge 96, 3) := by decide +kernel
theorem dX10_count_23 : decode cX10_count 23 = .ok (.iload_n 1, 1) := by decide +kernel
theorem dX10_count_24 : decode cX10_count 24 = .ok (.i2l, 1) := by decide +kernel
theorem dX10_count_25 : decode cX10_count 25 = .ok (.ldc2_w 220, 3) := by decide +kernel
theorem dX10_count_28 : decode cX10_count 28 = .ok (.ldc2_w 222, 3) := by decide +kernel
theorem dX10_count_31 : decode cX10_count 31 = .ok (.invokestatic 75, 3) := by decide +kernel
theorem dX10_count_34 : decode cX10_count 34 = .ok (.ifCond .eq 82, 3) := by decide +kernel
theorem dX10_count_37 : decode cX10_count 37 = .ok (.iload_n 2, 1) := by decide +kernel
theorem dX10_count_38 : decode cX10_count 38 = .ok (.aload_n 0, 1) := by decide +kernel
theorem dX10_count_39 : decode cX10_count 39 = .ok (.iload 5, 2) := by decide +kernel
theorem dX10_count_41 : decode cX10_count 41 = .ok (.invokevirtual 180, 3) := by decide +kernel
theorem dX10_count_44 : decode cX10_count 44 = .ok (.bipush (-4), 2) := by decide +kernel
theorem dX10_count_46 : decode cX10_count 46 = .ok (.if_icmp .eq 7, 3) := by decide +kernel
theorem dX10_count_49 : decode cX10_count 49 = .ok (.iconst 1, 1) := by decide +kernel
theorem dX10_count_50 : decode cX10_count 50 = .ok (.goto 4, 3) := by decide +kernel
theorem dX10_count_53 : decode cX10_count 53 = .ok (.iconst 0, 1) := by decide +kernel
theorem dX10_count_54 : decode cX10_count 54 = .ok (.iadd, 1) := by decide +kernel
theorem dX10_count_55 : decode cX10_count 55 = .ok (.istore_n 2, 1) := by decide +kernel
theorem dX10_count_56 : decode cX10_count 56 = .ok (.iload_n 3, 1) := by decide +kernel
theorem dX10_count_57 : decode cX10_count 57 = .ok (.aload_n 0, 1) := by decide +kernel
theorem dX10_count_58 : decode cX10_count 58 = .ok (.iload 5, 2) := by decide +kernel
theorem dX10_count_60 : decode cX10_count 60 = .ok (.invokevirtual 201, 3) := by decide +kernel
theorem dX10_count_63 : decode cX10_count 63 = .ok (.ifCond .le 7, 3) := by decide +kernel
theorem dX10_count_66 : decode cX10_count 66 = .ok (.iconst 1, 1) := by decide +kernel
theorem dX10_count_67 : decode cX10_count 67 = .ok (.goto 4, 3) := by decide +kernel
theorem dX10_count_70 : decode cX10_count 70 = .ok (.iconst 0, 1) := by decide +kernel
theorem dX10_count_71 : decode cX10_count 71 = .ok (.iadd, 1) := by decide +kernel
theorem dX10_count_72 : decode cX10_count 72 = .ok (.istore_n 3, 1) := by decide +kernel
theorem dX10_count_73 : decode cX10_count 73 = .ok (.iconst 0, 1) := by decide +kernel
theorem dX10_count_74 : decode cX10_count 74 = .ok (.istore 6, 2) := by decide +kernel
theorem dX10_count_76 : decode cX10_count 76 = .ok (.iload 6, 2) := by decide +kernel
theorem dX10_count_78 : decode cX10_count 78 = .ok (.iload 5, 2) := by decide +kernel
theorem dX10_count_80 : decode cX10_count 80 = .ok (.if_icmp .ge 30, 3) := by decide +kernel
theorem dX10_count_83 : decode cX10_count 83 = .ok (.iload 4, 2) := by decide +kernel
theorem dX10_count_85 : decode cX10_count 85 = .ok (.aload_n 0, 1) := by decide +kernel
theorem dX10_count_86 : decode cX10_count 86 = .ok (.iload 6, 2) := by decide +kernel
theorem dX10_count_88 : decode cX10_count 88 = .ok (.iload 5, 2) := by decide +kernel
theorem dX10_count_90 : decode cX10_count 90 = .ok (.invokevirtual 190, 3) := by decide +kernel
theorem dX10_count_93 : decode cX10_count 93 = .ok (.ifCond .eq 7, 3) := by decide +kernel
theorem dX10_count_96 : decode cX10_count 96 = .ok (.iconst 1, 1) := by decide +kernel
theorem dX10_count_97 : decode cX10_count 97 = .ok (.goto 4, 3) := by decide +kernel
theorem dX10_count_100 : decode cX10_count 100 = .ok (.iconst 0, 1) := by decide +kernel
theorem dX10_count_101 : decode cX10_count 101 = .ok (.iadd, 1) := by decide +kernel
theorem dX10_count_102 : decode cX10_count 102 = .ok (.istore 4, 2) := by decide +kernel
theorem dX10_count_104 : decode cX10_count 104 = .ok (.iinc 6 1, 3) := by decide +kernel
theorem dX10_count_107 : decode cX10_count 107 = .ok (.goto (-31), 3) := by decide +kernel
theorem dX10_count_110 : decode cX10_count 110 = .ok (.iinc 5 1, 3) := by decide +kernel
theorem dX10_count_113 : decode cX10_count 113 = .ok (.goto (-103), 3) := by decide +kernel
theorem dX10_count_116 : decode cX10_count 116 = .ok (.iload_n 1, 1) := by decide +kernel
theorem dX10_count_117 : decode cX10_count 117 = .ok (.tableswitch 114 0 9 #[55, 64, 73, 80, 90, 97, 99, 101, 104, 109], 55) := by decide +kernel
theorem dX10_count_172 : decode cX10_count 172 = .ok (.aload_n 0, 1) := by decide +kernel
theorem dX10_count_173 : decode cX10_count 173 = .ok (.getfield 13, 3) := by decide +kernel
theorem dX10_count_176 : decode cX10_count 176 = .ok (.sipush 164, 3) := by decide +kernel
theorem dX10_count_179 : decode cX10_count 179 = .ok (.iaload, 1) := by decide +kernel
theorem dX10_count_180 : decode cX10_count 180 = .ok (.ireturn, 1) := by decide +kernel
theorem dX10_count_181 : decode cX10_count 181 = .ok (.aload_n 0, 1) := by decide +kernel
theorem dX10_count_182 : decode cX10_count 182 = .ok (.getfield 13, 3) := by decide +kernel
theorem dX10_count_185 : decode cX10_count 185 = .ok (.sipush 165, 3) := by decide +kernel
theorem dX10_count_188 : decode cX10_count 188 = .ok (.iaload, 1) := by decide +kernel
theorem dX10_count_189 : decode cX10_count 189 = .ok (.ireturn, 1) := by decide +kernel
theorem dX10_count_190 : decode cX10_count 190 = .ok (.aload_n 0, 1) := by decide +kernel
theorem dX10_count_191 : decode cX10_count 191 = .ok (.getfield 19, 3) := by decide +kernel
theorem dX10_count_194 : decode cX10_count 194 = .ok (.iconst 0, 1) := by decide +kernel
theorem dX10_count_195 : decode cX10_count 195 = .ok (.iaload, 1) := by decide +kernel
theorem dX10_count_196 : decode cX10_count 196 = .ok (.ireturn, 1) := by decide +kernel
theorem dX10_count_197 : decode cX10_count 197 = .ok (.aload_n 0, 1) := by decide +kernel
theorem dX10_count_198 : decode cX10_count 198 = .ok (.getfield 19, 3) := by decide +kernel
theorem dX10_count_201 : decode cX10_count 201 = .ok (.iconst 1, 1) := by decide +kernel
theorem dX10_count_202 : decode cX10_count 202 = .ok (.iaload, 1) := by decide +kernel
theorem dX10_count_203 : decode cX10_count 203 = .ok (.invokestatic 127, 3) := by decide +kernel
theorem dX10_count_206 : decode cX10_count 206 = .ok (.ireturn, 1) := by decide +kernel
theorem dX10_count_207 : decode cX10_count 207 = .ok (.aload_n 0, 1) := by decide +kernel
theorem dX10_count_208 : decode cX10_count 208 = .ok (.getfield 19, 3) := by decide +kernel
theorem dX10_count_211 : decode cX10_count 211 = .ok (.iconst 2, 1) := by decide +kernel
theorem dX10_count_212 : decode cX10_count 212 = .ok (.iaload, 1) := by decide +kernel
theorem dX10_count_213 : decode cX10_count 213 = .ok (.ireturn, 1) := by decide +kernel
theorem dX10_count_214 : decode cX10_count 214 = .ok (.iload_n 2, 1) := by decide +kernel
theorem dX10_count_215 : decode cX10_count 215 = .ok (.ireturn, 1) := by decide +kernel
theorem dX10_count_216 : decode cX10_count 216 = .ok (.iload_n 3, 1) := by decide +kernel
theorem dX10_count_217 : decode cX10_count 217 = .ok (.ireturn, 1) := by decide +kernel
theorem dX10_count_218 : decode cX10_count 218 = .ok (.iload 4, 2) := by decide +kernel
theorem dX10_count_220 : decode cX10_count 220 = .ok (.ireturn, 1) := by decide +kernel
theorem dX10_count_221 : decode cX10_count 221 = .ok (.aload_n 0, 1) := by decide +kernel
theorem dX10_count_222 : decode cX10_count 222 = .ok (.getfield 67, 3) := by decide +kernel
theorem dX10_count_225 : decode cX10_count 225 = .ok (.ireturn, 1) := by decide +kernel
theorem dX10_count_226 : decode cX10_count 226 = .ok (.aload_n 0, 1) := by decide +kernel
theorem dX10_count_227 : decode cX10_count 227 = .ok (.getfield 79, 3) := by decide +kernel
theorem dX10_count_230 : decode cX10_count 230 = .ok (.ireturn, 1) := by decide +kernel
theorem dX10_count_231 : decode cX10_count 231 = .ok (.iconst (-1), 1) := by decide +kernel
theorem dX10_count_232 : decode cX10_count 232 = .ok (.ireturn, 1) := by decide +kernel
theorem dJ6_bitCount_0f7a4_0 : decode cJ6_bitCount_0f7a4 0 = .ok (.iload_n 0, 1) := by decide +kernel
theorem dJ6_bitCount_0f7a4_1 : decode cJ6_bitCount_0f7a4 1 = .ok (.iload_n 0, 1) := by decide +kernel
theorem dJ6_bitCount_0f7a4_2 : decode cJ6_bitCount_0f7a4 2 = .ok (.iconst 1, 1) := by decide +kernel
theorem dJ6_bitCount_0f7a4_3 : decode cJ6_bitCount_0f7a4 3 = .ok (.iushr, 1) := by decide +kernel
theorem dJ6_bitCount_0f7a4_4 : decode cJ6_bitCount_0f7a4 4 = .ok (.ldc_w 265, 3) := by decide +kernel
theorem dJ6_bitCount_0f7a4_7 : decode cJ6_bitCount_0f7a4 7 = .ok (.iand, 1) := by decide +kernel
theorem dJ6_bitCount_0f7a4_8 : decode cJ6_bitCount_0f7a4 8 = .ok (.isub, 1) := by decide +kernel
theorem dJ6_bitCount_0f7a4_9 : decode cJ6_bitCount_0f7a4 9 = .ok (.istore_n 0, 1) := by decide +kernel
theorem dJ6_bitCount_0f7a4_10 : decode cJ6_bitCount_0f7a4 10 = .ok (.iload_n 0, 1) := by decide +kernel
theorem dJ6_bitCount_0f7a4_11 : decode cJ6_bitCount_0f7a4 11 = .ok (.ldc_w 266, 3) := by decide +kernel
theorem dJ6_bitCount_0f7a4_14 : decode cJ6_bitCount_0f7a4 14 = .ok (.iand, 1) := by decide +kernel
theorem dJ6_bitCount_0f7a4_15 : decode cJ6_bitCount_0f7a4 15 = .ok (.iload_n 0, 1) := by decide +kernel
theorem dJ6_bitCount_0f7a4_16 : decode cJ6_bitCount_0f7a4 16 = .ok (.iconst 2, 1) := by decide +kernel
theorem dJ6_bitCount_0f7a4_17 : decode cJ6_bitCount_0f7a4 17 = .ok (.iushr, 1) := by decide +kernel
theorem dJ6_bitCount_0f7a4_18 : decode cJ6_bitCount_0f7a4 18 = .ok (.ldc_w 266, 3) := by decide +kernel
theorem dJ6_bitCount_0f7a4_21 : decode cJ6_bitCount_0f7a4 21 = .ok (.iand, 1) := by decide +kernel
theorem dJ6_bitCount_0f7a4_22 : decode cJ6_bitCount_0f7a4 22 = .ok (.iadd, 1) := by decide +kernel
theorem dJ6_bitCount_0f7a4_23 : decode cJ6_bitCount_0f7a4 23 = .ok (.istore_n 0, 1) := by decide +kernel
theorem dJ6_bitCount_0f7a4_24 : decode cJ6_bitCount_0f7a4 24 = .ok (.iload_n 0, 1) := by decide +kernel
theorem dJ6_bitCount_0f7a4_25 : decode cJ6_bitCount_0f7a4 25 = .ok (.iload_n 0, 1) := by decide +kernel
theorem dJ6_bitCount_0f7a4_26 : decode cJ6_bitCount_0f7a4 26 = .ok (.iconst 4, 1) := by decide +kernel
theorem dJ6_bitCount_0f7a4_27 : decode cJ6_bitCount_0f7a4 27 = .ok (.iushr, 1) := by decide +kernel
theorem dJ6_bitCount_0f7a4_28 : decode cJ6_bitCount_0f7a4 28 = .ok (.iadd, 1) := by decide +kernel
theorem dJ6_bitCount_0f7a4_29 : decode cJ6_bitCount_0f7a4 29 = .ok (.ldc_w 267, 3) := by decide +kernel
theorem dJ6_bitCount_0f7a4_32 : decode cJ6_bitCount_0f7a4 32 = .ok (.iand, 1) := by decide +kernel
theorem dJ6_bitCount_0f7a4_33 : decode cJ6_bitCount_0f7a4 33 = .ok (.istore_n 0, 1) := by decide +kernel
theorem dJ6_bitCount_0f7a4_34 : decode cJ6_bitCount_0f7a4 34 = .ok (.iload_n 0, 1) := by decide +kernel
theorem dJ6_bitCount_0f7a4_35 : decode cJ6_bitCount_0f7a4 35 = .ok (.iload_n 0, 1) := by decide +kernel
theorem dJ6_bitCount_0f7a4_36 : decode cJ6_bitCount_0f7a4 36 = .ok (.bipush 8, 2) := by decide +kernel
theorem dJ6_bitCount_0f7a4_38 : decode cJ6_bitCount_0f7a4 38 = .ok (.iushr, 1) := by decide +kernel
theorem dJ6_bitCount_0f7a4_39 : decode cJ6_bitCount_0f7a4 39 = .ok (.iadd, 1) := by decide +kernel
theorem dJ6_bitCount_0f7a4_40 : decode cJ6_bitCount_0f7a4 40 = .ok (.istore_n 0, 1) := by decide +kernel
theorem dJ6_bitCount_0f7a4_41 : decode cJ6_bitCount_0f7a4 41 = .ok (.iload_n 0, 1) := by decide +kernel
theorem dJ6_bitCount_0f7a4_42 : decode cJ6_bitCount_0f7a4 42 = .ok (.iload_n 0, 1) := by decide +kernel
theorem dJ6_bitCount_0f7a4_43 : decode cJ6_bitCount_0f7a4 43 = .ok (.bipush 16, 2) := by decide +kernel
theorem dJ6_bitCount_0f7a4_45 : decode cJ6_bitCount_0f7a4 45 = .ok (.iushr, 1) := by decide +kernel
theorem dJ6_bitCount_0f7a4_46 : decode cJ6_bitCount_0f7a4 46 = .ok (.iadd, 1) := by decide +kernel
theorem dJ6_bitCount_0f7a4_47 : decode cJ6_bitCount_0f7a4 47 = .ok (.istore_n 0, 1) := by decide +kernel
theorem dJ6_bitCount_0f7a4_48 : decode cJ6_bitCount_0f7a4 48 = .ok (.iload_n 0, 1) := by decide +kernel
theorem dJ6_bitCount_0f7a4_49 : decode cJ6_bitCount_0f7a4 49 = .ok (.bipush 63, 2) := by decide +kernel
theorem dJ6_bitCount_0f7a4_51 : decode cJ6_bitCount_0f7a4 51 = .ok (.iand, 1) := by decide +kernel
theorem dJ6_bitCount_0f7a4_52 : decode cJ6_bitCount_0f7a4 52 = .ok (.ireturn, 1) := by decide +kernel
theorem dJ9_max_7cf53_0 : decode cJ9_max_7cf53 0 = .ok (.iload_n 0, 1) := by decide +kernel
theorem dJ9_max_7cf53_1 : decode cJ9_max_7cf53 1 = .ok (.iload_n 1, 1) := by decide +kernel
theorem dJ9_max_7cf53_2 : decode cJ9_max_7cf53 2 = .ok (.if_icmp .lt 7, 3) := by decide +kernel
theorem dJ9_max_7cf53_5 : decode cJ9_max_7cf53 5 = .ok (.iload_n 0, 1) := by decide +kernel
theorem dJ9_max_7cf53_6 : decode cJ9_max_7cf53 6 = .ok (.goto 4, 3) := by decide +kernel
theorem dJ9_max_7cf53_9 : decode cJ9_max_7cf53 9 = .ok (.iload_n 1, 1) := by decide +kernel
theorem dJ9_max_7cf53_10 : decode cJ9_max_7cf53 10 = .ok (.ireturn, 1) := by decide +kernel
theorem dJ9_min_7cf53_0 : decode cJ9_min_7cf53 0 = .ok (.iload_n 0, 1) := by decide +kernel
theorem dJ9_min_7cf53_1 : decode cJ9_min_7cf53 1 = .ok (.iload_n 1, 1) := by decide +kernel
theorem dJ9_min_7cf53_2 : decode cJ9_min_7cf53 2 = .ok (.if_icmp .gt 7, 3) := by decide +kernel
theorem dJ9_min_7cf53_5 : decode cJ9_min_7cf53 5 = .ok (.iload_n 0, 1) := by decide +kernel
theorem dJ9_min_7cf53_6 : decode cJ9_min_7cf53 6 = .ok (.goto 4, 3) := by decide +kernel
theorem dJ9_min_7cf53_9 : decode cJ9_min_7cf53 9 = .ok (.iload_n 1, 1) := by decide +kernel
theorem dJ9_min_7cf53_10 : decode cJ9_min_7cf53 10 = .ok (.ireturn, 1) := by decide +kernel
theorem dJ0_length_8abf5_0 : decode cJ0_length_8abf5 0 = .ok (.aload_n 0, 1) := by decide +kernel
theorem dJ0_length_8abf5_1 : decode cJ0_length_8abf5 1 = .ok (.getfield 9, 3) := by decide +kernel
theorem dJ0_length_8abf5_4 : decode cJ0_length_8abf5 4 = .ok (.arraylength, 1) := by decide +kernel
theorem dJ0_length_8abf5_5 : decode cJ0_length_8abf5 5 = .ok (.aload_n 0, 1) := by decide +kernel
theorem dJ0_length_8abf5_6 : decode cJ0_length_8abf5 6 = .ok (.invokevirtual 335, 3) := by decide +kernel
theorem dJ0_length_8abf5_9 : decode cJ0_length_8abf5 9 = .ok (.ishr, 1) := by decide +kernel
theorem dJ0_length_8abf5_10 : decode cJ0_length_8abf5 10 = .ok (.ireturn, 1) := by decide +kernel
theorem dJ0_charAt_5068e_0 : decode cJ0_charAt_5068e 0 = .ok (.aload_n 0, 1) := by decide +kernel
theorem dJ0_charAt_5068e_1 : decode cJ0_charAt_5068e 1 = .ok (.invokevirtual 492, 3) := by decide +kernel
theorem dJ0_charAt_5068e_4 : decode cJ0_charAt_5068e 4 = .ok (.ifCond .eq 12, 3) := by decide +kernel
theorem dJ0_charAt_5068e_7 : decode cJ0_charAt_5068e 7 = .ok (.aload_n 0, 1) := by decide +kernel
theorem dJ0_charAt_5068e_8 : decode cJ0_charAt_5068e 8 = .ok (.getfield 9, 3) := by decide +kernel
theorem dJ0_charAt_5068e_11 : decode cJ0_charAt_5068e 11 = .ok (.iload_n 1, 1) := by decide +kernel
theorem dJ0_charAt_5068e_12 : decode cJ0_charAt_5068e 12 = .ok (.invokestatic 495, 3) := by decide +kernel
theorem dJ0_charAt_5068e_15 : decode cJ0_charAt_5068e 15 = .ok (.ireturn, 1) := by decide +kernel
theorem dJ0_charAt_5068e_16 : decode cJ0_charAt_5068e 16 = .ok (.aload_n 0, 1) := by decide +kernel
theorem dJ0_charAt_5068e_17 : decode cJ0_charAt_5068e 17 = .ok (.getfield 9, 3) := by decide +kernel
theorem dJ0_charAt_5068e_20 : decode cJ0_charAt_5068e 20 = .ok (.iload_n 1, 1) := by decide +kernel
theorem dJ0_charAt_5068e_21 : decode cJ0_charAt_5068e 21 = .ok (.invokestatic 498, 3) := by decide +kernel
theorem dJ0_charAt_5068e_24 : decode cJ0_charAt_5068e 24 = .ok (.ireturn, 1) := by decide +kernel
theorem dJ0_coder_7d493_0 : decode cJ0_coder_7d493 0 = .ok (.getstatic 38, 3) := by decide +kernel
theorem dJ0_coder_7d493_3 : decode cJ0_coder_7d493 3 = .ok (.ifCond .eq 10, 3) := by decide +kernel
theorem dJ0_coder_7d493_6 : decode cJ0_coder_7d493 6 = .ok (.aload_n 0, 1) := by decide +kernel
theorem dJ0_coder_7d493_7 : decode cJ0_coder_7d493 7 = .ok (.getfield 15, 3) := by decide +kernel
theorem dJ0_coder_7d493_10 : decode cJ0_coder_7d493 10 = .ok (.goto 4, 3) := by decide +kernel
theorem dJ0_coder_7d493_13 : decode cJ0_coder_7d493 13 = .ok (.iconst 1, 1) := by decide +kernel
theorem dJ0_coder_7d493_14 : decode cJ0_coder_7d493 14 = .ok (.ireturn, 1) := by decide +kernel
theorem dJ0_isLatin1_aae02_0 : decode cJ0_isLatin1_aae02 0 = .ok (.getstatic 38, 3) := by decide +kernel
theorem dJ0_isLatin1_aae02_3 : decode cJ0_isLatin1_aae02 3 = .ok (.ifCond .eq 14, 3) := by decide +kernel
theorem dJ0_isLatin1_aae02_6 : decode cJ0_isLatin1_aae02 6 = .ok (.aload_n 0, 1) := by decide +kernel
theorem dJ0_isLatin1_aae02_7 : decode cJ0_isLatin1_aae02 7 = .ok (.getfield 15, 3) := by decide +kernel
theorem dJ0_isLatin1_aae02_10 : decode cJ0_isLatin1_aae02 10 = .ok (.ifCond .ne 7, 3) := by decide +kernel
theorem dJ0_isLatin1_aae02_13 : decode cJ0_isLatin1_aae02 13 = .ok (.iconst 1, 1) := by decide +kernel
theorem dJ0_isLatin1_aae02_14 : decode cJ0_isLatin1_aae02 14 = .ok (.goto 4, 3) := by decide +kernel
theorem dJ0_isLatin1_aae02_17 : decode cJ0_isLatin1_aae02 17 = .ok (.iconst 0, 1) := by decide +kernel
theorem dJ0_isLatin1_aae02_18 : decode cJ0_isLatin1_aae02 18 = .ok (.ireturn, 1) := by decide +kernel
theorem dJ0_checkIndex_df160_0 : decode cJ0_checkIndex_df160 0 = .ok (.iload_n 0, 1) := by decide +kernel
theorem dJ0_checkIndex_df160_1 : decode cJ0_checkIndex_df160 1 = .ok (.iload_n 1, 1) := by decide +kernel
theorem dJ0_checkIndex_df160_2 : decode cJ0_checkIndex_df160 2 = .ok (.getstatic 1053, 3) := by decide +kernel
theorem dJ0_checkIndex_df160_5 : decode cJ0_checkIndex_df160 5 = .ok (.invokestatic 1059, 3) := by decide +kernel
theorem dJ0_checkIndex_df160_8 : decode cJ0_checkIndex_df160 8 = .ok (.pop, 1) := by decide +kernel
theorem dJ0_checkIndex_df160_9 : decode cJ0_checkIndex_df160 9 = .ok (.return_, 1) := by decide +kernel
theorem dJ1_charAt_3b067_0 : decode cJ1_charAt_3b067 0 = .ok (.iload_n 1, 1) := by decide +kernel
theorem dJ1_charAt_3b067_1 : decode cJ1_charAt_3b067 1 = .ok (.aload_n 0, 1) := by decide +kernel
theorem dJ1_charAt_3b067_2 : decode cJ1_charAt_3b067 2 = .ok (.arraylength, 1) := by decide +kernel
theorem dJ1_charAt_3b067_3 : decode cJ1_charAt_3b067 3 = .ok (.invokestatic 9, 3) := by decide +kernel
theorem dJ1_charAt_3b067_6 : decode cJ1_charAt_3b067 6 = .ok (.aload_n 0, 1) := by decide +kernel
theorem dJ1_charAt_3b067_7 : decode cJ1_charAt_3b067 7 = .ok (.iload_n 1, 1) := by decide +kernel
theorem dJ1_charAt_3b067_8 : decode cJ1_charAt_3b067 8 = .ok (.baload, 1) := by decide +kernel
theorem dJ1_charAt_3b067_9 : decode cJ1_charAt_3b067 9 = .ok (.sipush 255, 3) := by decide +kernel
theorem dJ1_charAt_3b067_12 : decode cJ1_charAt_3b067 12 = .ok (.iand, 1) := by decide +kernel
theorem dJ1_charAt_3b067_13 : decode cJ1_charAt_3b067 13 = .ok (.i2c, 1) := by decide +kernel
theorem dJ1_charAt_3b067_14 : decode cJ1_charAt_3b067 14 = .ok (.ireturn, 1) := by decide +kernel
theorem dJ2_getChar_3b067_0 : decode cJ2_getChar_3b067 0 = .ok (.getstatic 44, 3) := by decide +kernel
theorem dJ2_getChar_3b067_3 : decode cJ2_getChar_3b067 3 = .ok (.ifCond .ne 25, 3) := by decide +kernel
theorem dJ2_getChar_3b067_6 : decode cJ2_getChar_3b067 6 = .ok (.iload_n 1, 1) := by decide +kernel
theorem dJ2_getChar_3b067_7 : decode cJ2_getChar_3b067 7 = .ok (.ifCond .lt 11, 3) := by decide +kernel
theorem dJ2_getChar_3b067_10 : decode cJ2_getChar_3b067 10 = .ok (.iload_n 1, 1) := by decide +kernel
theorem dJ2_getChar_3b067_11 : decode cJ2_getChar_3b067 11 = .ok (.aload_n 0, 1) := by decide +kernel
theorem dJ2_getChar_3b067_12 : decode cJ2_getChar_3b067 12 = .ok (.invokestatic 48, 3) := by decide +kernel
theorem dJ2_getChar_3b067_15 : decode cJ2_getChar_3b067 15 = .ok (.if_icmp .lt 13, 3) := by decide +kernel
theorem dJ2_getChar_3b067_18 : decode cJ2_getChar_3b067 18 = .ok (.new 52, 3) := by decide +kernel
theorem dJ2_getChar_3b067_21 : decode cJ2_getChar_3b067 21 = .ok (.dup, 1) := by decide +kernel
theorem dJ2_getChar_3b067_22 : decode cJ2_getChar_3b067 22 = .ok (.ldc 54, 2) := by decide +kernel
theorem dJ2_getChar_3b067_24 : decode cJ2_getChar_3b067 24 = .ok (.invokespecial 56, 3) := by decide +kernel
theorem dJ2_getChar_3b067_27 : decode cJ2_getChar_3b067 27 = .ok (.athrow, 1) := by decide +kernel
theorem dJ2_getChar_3b067_28 : decode cJ2_getChar_3b067 28 = .ok (.iload_n 1, 1) := by decide +kernel
theorem dJ2_getChar_3b067_29 : decode cJ2_getChar_3b067 29 = .ok (.iconst 1, 1) := by decide +kernel
theorem dJ2_getChar_3b067_30 : decode cJ2_getChar_3b067 30 = .ok (.ishl, 1) := by decide +kernel
theorem dJ2_getChar_3b067_31 : decode cJ2_getChar_3b067 31 = .ok (.istore_n 1, 1) := by decide +kernel
theorem dJ2_getChar_3b067_32 : decode cJ2_getChar_3b067 32 = .ok (.aload_n 0, 1) := by decide +kernel
theorem dJ2_getChar_3b067_33 : decode cJ2_getChar_3b067 33 = .ok (.iload_n 1, 1) := by decide +kernel
theorem dJ2_getChar_3b067_34 : decode cJ2_getChar_3b067 34 = .ok (.iinc 1 1, 3) := by decide +kernel
theorem dJ2_getChar_3b067_37 : decode cJ2_getChar_3b067 37 = .ok (.baload, 1) := by decide +kernel
theorem dJ2_getChar_3b067_38 : decode cJ2_getChar_3b067 38 = .ok (.sipush 255, 3) := by decide +kernel
theorem dJ2_getChar_3b067_41 : decode cJ2_getChar_3b067 41 = .ok (.iand, 1) := by decide +kernel
theorem dJ2_getChar_3b067_42 : decode cJ2_getChar_3b067 42 = .ok (.getstatic 59, 3) := by decide +kernel
theorem dJ2_getChar_3b067_45 : decode cJ2_getChar_3b067 45 = .ok (.ishl, 1) := by decide +kernel
theorem dJ2_getChar_3b067_46 : decode cJ2_getChar_3b067 46 = .ok (.aload_n 0, 1) := by decide +kernel
theorem dJ2_getChar_3b067_47 : decode cJ2_getChar_3b067 47 = .ok (.iload_n 1, 1) := by decide +kernel
theorem dJ2_getChar_3b067_48 : decode cJ2_getChar_3b067 48 = .ok (.baload, 1) := by decide +kernel
theorem dJ2_getChar_3b067_49 : decode cJ2_getChar_3b067 49 = .ok (.sipush 255, 3) := by decide +kernel
theorem dJ2_getChar_3b067_52 : decode cJ2_getChar_3b067 52 = .ok (.iand, 1) := by decide +kernel
theorem dJ2_getChar_3b067_53 : decode cJ2_getChar_3b067 53 = .ok (.getstatic 63, 3) := by decide +kernel
theorem dJ2_getChar_3b067_56 : decode cJ2_getChar_3b067 56 = .ok (.ishl, 1) := by decide +kernel
theorem dJ2_getChar_3b067_57 : decode cJ2_getChar_3b067 57 = .ok (.ior, 1) := by decide +kernel
theorem dJ2_getChar_3b067_58 : decode cJ2_getChar_3b067 58 = .ok (.i2c, 1) := by decide +kernel
theorem dJ2_getChar_3b067_59 : decode cJ2_getChar_3b067 59 = .ok (.ireturn, 1) := by decide +kernel
theorem dJ2_length_9d52b_0 : decode cJ2_length_9d52b 0 = .ok (.aload_n 0, 1) := by decide +kernel
theorem dJ2_length_9d52b_1 : decode cJ2_length_9d52b 1 = .ok (.arraylength, 1) := by decide +kernel
theorem dJ2_length_9d52b_2 : decode cJ2_length_9d52b 2 = .ok (.iconst 1, 1) := by decide +kernel
theorem dJ2_length_9d52b_3 : decode cJ2_length_9d52b 3 = .ok (.ishr, 1) := by decide +kernel
theorem dJ2_length_9d52b_4 : decode cJ2_length_9d52b 4 = .ok (.ireturn, 1) := by decide +kernel
theorem dJ2_charAt_3b067_0 : decode cJ2_charAt_3b067 0 = .ok (.iload_n 1, 1) := by decide +kernel
theorem dJ2_charAt_3b067_1 : decode cJ2_charAt_3b067 1 = .ok (.aload_n 0, 1) := by decide +kernel
theorem dJ2_charAt_3b067_2 : decode cJ2_charAt_3b067 2 = .ok (.invokestatic 67, 3) := by decide +kernel
theorem dJ2_charAt_3b067_5 : decode cJ2_charAt_3b067 5 = .ok (.aload_n 0, 1) := by decide +kernel
theorem dJ2_charAt_3b067_6 : decode cJ2_charAt_3b067 6 = .ok (.iload_n 1, 1) := by decide +kernel
theorem dJ2_charAt_3b067_7 : decode cJ2_charAt_3b067 7 = .ok (.invokestatic 71, 3) := by decide +kernel
theorem dJ2_charAt_3b067_10 : decode cJ2_charAt_3b067 10 = .ok (.ireturn, 1) := by decide +kernel
theorem dJ2_checkIndex_2214a_0 : decode cJ2_checkIndex_2214a 0 = .ok (.iload_n 0, 1) := by decide +kernel
theorem dJ2_checkIndex_2214a_1 : decode cJ2_checkIndex_2214a 1 = .ok (.aload_n 1, 1) := by decide +kernel
theorem dJ2_checkIndex_2214a_2 : decode cJ2_checkIndex_2214a 2 = .ok (.invokestatic 48, 3) := by decide +kernel
theorem dJ2_checkIndex_2214a_5 : decode cJ2_checkIndex_2214a 5 = .ok (.invokestatic 414, 3) := by decide +kernel
theorem dJ2_checkIndex_2214a_8 : decode cJ2_checkIndex_2214a 8 = .ok (.return_, 1) := by decide +kernel
theorem dJ7_fill_d0a16_0 : decode cJ7_fill_d0a16 0 = .ok (.iconst 0, 1) := by decide +kernel
theorem dJ7_fill_d0a16_1 : decode cJ7_fill_d0a16 1 = .ok (.istore_n 3, 1) := by decide +kernel
theorem dJ7_fill_d0a16_2 : decode cJ7_fill_d0a16 2 = .ok (.aload_n 0, 1) := by decide +kernel
theorem dJ7_fill_d0a16_3 : decode cJ7_fill_d0a16 3 = .ok (.arraylength, 1) := by decide +kernel
theorem dJ7_fill_d0a16_4 : decode cJ7_fill_d0a16 4 = .ok (.istore 4, 2) := by decide +kernel
theorem dJ7_fill_d0a16_6 : decode cJ7_fill_d0a16 6 = .ok (.iload_n 3, 1) := by decide +kernel
theorem dJ7_fill_d0a16_7 : decode cJ7_fill_d0a16 7 = .ok (.iload 4, 2) := by decide +kernel
theorem dJ7_fill_d0a16_9 : decode cJ7_fill_d0a16 9 = .ok (.if_icmp .ge 13, 3) := by decide +kernel
theorem dJ7_fill_d0a16_12 : decode cJ7_fill_d0a16 12 = .ok (.aload_n 0, 1) := by decide +kernel
theorem dJ7_fill_d0a16_13 : decode cJ7_fill_d0a16 13 = .ok (.iload_n 3, 1) := by decide +kernel
theorem dJ7_fill_d0a16_14 : decode cJ7_fill_d0a16 14 = .ok (.lload_n 1, 1) := by decide +kernel
theorem dJ7_fill_d0a16_15 : decode cJ7_fill_d0a16 15 = .ok (.lastore, 1) := by decide +kernel
theorem dJ7_fill_d0a16_16 : decode cJ7_fill_d0a16 16 = .ok (.iinc 3 1, 3) := by decide +kernel
theorem dJ7_fill_d0a16_19 : decode cJ7_fill_d0a16 19 = .ok (.goto (-13), 3) := by decide +kernel
theorem dJ7_fill_d0a16_22 : decode cJ7_fill_d0a16 22 = .ok (.return_, 1) := by decide +kernel
theorem dJ7_fill_53178_0 : decode cJ7_fill_53178 0 = .ok (.iconst 0, 1) := by decide +kernel
theorem dJ7_fill_53178_1 : decode cJ7_fill_53178 1 = .ok (.istore_n 2, 1) := by decide +kernel
theorem dJ7_fill_53178_2 : decode cJ7_fill_53178 2 = .ok (.aload_n 0, 1) := by decide +kernel
theorem dJ7_fill_53178_3 : decode cJ7_fill_53178 3 = .ok (.arraylength, 1) := by decide +kernel
theorem dJ7_fill_53178_4 : decode cJ7_fill_53178 4 = .ok (.istore_n 3, 1) := by decide +kernel
theorem dJ7_fill_53178_5 : decode cJ7_fill_53178 5 = .ok (.iload_n 2, 1) := by decide +kernel
theorem dJ7_fill_53178_6 : decode cJ7_fill_53178 6 = .ok (.iload_n 3, 1) := by decide +kernel
theorem dJ7_fill_53178_7 : decode cJ7_fill_53178 7 = .ok (.if_icmp .ge 13, 3) := by decide +kernel
theorem dJ7_fill_53178_10 : decode cJ7_fill_53178 10 = .ok (.aload_n 0, 1) := by decide +kernel
theorem dJ7_fill_53178_11 : decode cJ7_fill_53178 11 = .ok (.iload_n 2, 1) := by decide +kernel
theorem dJ7_fill_53178_12 : decode cJ7_fill_53178 12 = .ok (.iload_n 1, 1) := by decide +kernel
theorem dJ7_fill_53178_13 : decode cJ7_fill_53178 13 = .ok (.iastore, 1) := by decide +kernel
theorem dJ7_fill_53178_14 : decode cJ7_fill_53178 14 = .ok (.iinc 2 1, 3) := by decide +kernel
theorem dJ7_fill_53178_17 : decode cJ7_fill_53178 17 = .ok (.goto (-12), 3) := by decide +kernel
theorem dJ7_fill_53178_20 : decode cJ7_fill_53178 20 = .ok (.return_, 1) := by decide +kernel
theorem dJ3_checkIndex_8e157_0 : decode cJ3_checkIndex_8e157 0 = .ok (.iload_n 0, 1) := by decide +kernel
theorem dJ3_checkIndex_8e157_1 : decode cJ3_checkIndex_8e157 1 = .ok (.ifCond .lt 8, 3) := by decide +kernel
theorem dJ3_checkIndex_8e157_4 : decode cJ3_checkIndex_8e157 4 = .ok (.iload_n 0, 1) := by decide +kernel
theorem dJ3_checkIndex_8e157_5 : decode cJ3_checkIndex_8e157 5 = .ok (.iload_n 1, 1) := by decide +kernel
theorem dJ3_checkIndex_8e157_6 : decode cJ3_checkIndex_8e157 6 = .ok (.if_icmp .lt 10, 3) := by decide +kernel
theorem dJ3_checkIndex_8e157_9 : decode cJ3_checkIndex_8e157 9 = .ok (.aload_n 2, 1) := by decide +kernel
theorem dJ3_checkIndex_8e157_10 : decode cJ3_checkIndex_8e157 10 = .ok (.iload_n 0, 1) := by decide +kernel
theorem dJ3_checkIndex_8e157_11 : decode cJ3_checkIndex_8e157 11 = .ok (.iload_n 1, 1) := by decide +kernel
theorem dJ3_checkIndex_8e157_12 : decode cJ3_checkIndex_8e157 12 = .ok (.invokestatic 95, 3) := by decide +kernel
theorem dJ3_checkIndex_8e157_15 : decode cJ3_checkIndex_8e157 15 = .ok (.athrow, 1) := by decide +kernel
theorem dJ3_checkIndex_8e157_16 : decode cJ3_checkIndex_8e157 16 = .ok (.iload_n 0, 1) := by decide +kernel
theorem dJ3_checkIndex_8e157_17 : decode cJ3_checkIndex_8e157 17 = .ok (.ireturn, 1) := by decide +kernel
theorem dL_law_0 : decode cL_law 0 = .ok (.new 7, 3) := by decide +kernel
theorem dL_law_3 : decode cL_law 3 = .ok (.dup, 1) := by decide +kernel
theorem dL_law_4 : decode cL_law 4 = .ok (.invokespecial 9, 3) := by decide +kernel
theorem dL_law_7 : decode cL_law 7 = .ok (.astore_n 1, 1) := by decide +kernel
theorem dL_law_8 : decode cL_law 8 = .ok (.new 10, 3) := by decide +kernel
theorem dL_law_11 : decode cL_law 11 = .ok (.dup, 1) := by decide +kernel
theorem dL_law_12 : decode cL_law 12 = .ok (.invokespecial 12, 3) := by decide +kernel
theorem dL_law_15 : decode cL_law 15 = .ok (.astore_n 2, 1) := by decide +kernel
theorem dL_law_16 : decode cL_law 16 = .ok (.iconst 0, 1) := by decide +kernel
theorem dL_law_17 : decode cL_law 17 = .ok (.istore_n 3, 1) := by decide +kernel
theorem dL_law_18 : decode cL_law 18 = .ok (.iload_n 3, 1) := by decide +kernel
theorem dL_law_19 : decode cL_law 19 = .ok (.aload_n 0, 1) := by decide +kernel
theorem dL_law_20 : decode cL_law 20 = .ok (.arraylength, 1) := by decide +kernel
theorem dL_law_21 : decode cL_law 21 = .ok (.iconst 3, 1) := by decide +kernel
theorem dL_law_22 : decode cL_law 22 = .ok (.isub, 1) := by decide +kernel
theorem dL_law_23 : decode cL_law 23 = .ok (.if_icmp .gt 563, 3) := by decide +kernel
theorem dL_law_26 : decode cL_law 26 = .ok (.aload_n 0, 1) := by decide +kernel
theorem dL_law_27 : decode cL_law 27 = .ok (.iload_n 3, 1) := by decide +kernel
theorem dL_law_28 : decode cL_law 28 = .ok (.iaload, 1) := by decide +kernel
theorem dL_law_29 : decode cL_law 29 = .ok (.bipush 31, 2) := by decide +kernel
theorem dL_law_31 : decode cL_law 31 = .ok (.iand, 1) := by decide +kernel
theorem dL_law_32 : decode cL_law 32 = .ok (.tableswitch 548 0 19 #[96, 119, 132, 145, 158, 191, 214, 237, 250, 263, 296, 329, 362, 385, 409, 432, 465, 479, 502, 525], 96) := by decide +kernel
theorem dL_law_128 : decode cL_law 128 = .ok (.aload_n 1, 1) := by decide +kernel
theorem dL_law_129 : decode cL_law 129 = .ok (.aload_n 0, 1) := by decide +kernel
theorem dL_law_130 : decode cL_law 130 = .ok (.iload_n 3, 1) := by decide +kernel
theorem dL_law_131 : decode cL_law 131 = .ok (.iconst 1, 1) := by decide +kernel
theorem dL_law_132 : decode cL_law 132 = .ok (.iadd, 1) := by decide +kernel
theorem dL_law_133 : decode cL_law 133 = .ok (.iaload, 1) := by decide +kernel
theorem dL_law_134 : decode cL_law 134 = .ok (.invokevirtual 13, 3) := by decide +kernel
theorem dL_law_137 : decode cL_law 137 = .ok (.aload_n 2, 1) := by decide +kernel
theorem dL_law_138 : decode cL_law 138 = .ok (.aload_n 0, 1) := by decide +kernel
theorem dL_law_139 : decode cL_law 139 = .ok (.iload_n 3, 1) := by decide +kernel
theorem dL_law_140 : decode cL_law 140 = .ok (.iconst 1, 1) := by decide +kernel
theorem dL_law_141 : decode cL_law 141 = .ok (.iadd, 1) := by decide +kernel
theorem dL_law_142 : decode cL_law 142 = .ok (.iaload, 1) := by decide +kernel
theorem dL_law_143 : decode cL_law 143 = .ok (.invokevirtual 17, 3) := by decide +kernel
theorem dL_law_146 : decode cL_law 146 = .ok (.if_icmp .eq 434, 3) := by decide +kernel
theorem dL_law_149 : decode cL_law 149 = .ok (.iconst 0, 1) := by decide +kernel
theorem dL_law_150 : decode cL_law 150 = .ok (.ireturn, 1) := by decide +kernel
theorem dL_law_151 : decode cL_law 151 = .ok (.aload_n 1, 1) := by decide +kernel
theorem dL_law_152 : decode cL_law 152 = .ok (.invokevirtual 18, 3) := by decide +kernel
theorem dL_law_155 : decode cL_law 155 = .ok (.aload_n 2, 1) := by decide +kernel
theorem dL_law_156 : decode cL_law 156 = .ok (.invokevirtual 22, 3) := by decide +kernel
theorem dL_law_159 : decode cL_law 159 = .ok (.if_icmp .eq 421, 3) := by decide +kernel
theorem dL_law_162 : decode cL_law 162 = .ok (.iconst 0, 1) := by decide +kernel
theorem dL_law_163 : decode cL_law 163 = .ok (.ireturn, 1) := by decide +kernel
theorem dL_law_164 : decode cL_law 164 = .ok (.aload_n 1, 1) := by decide +kernel
theorem dL_law_165 : decode cL_law 165 = .ok (.invokevirtual 23, 3) := by decide +kernel
theorem dL_law_168 : decode cL_law 168 = .ok (.aload_n 2, 1) := by decide +kernel
theorem dL_law_169 : decode cL_law 169 = .ok (.invokevirtual 26, 3) := by decide +kernel
theorem dL_law_172 : decode cL_law 172 = .ok (.if_icmp .eq 408, 3) := by decide +kernel
theorem dL_law_175 : decode cL_law 175 = .ok (.iconst 0, 1) := by decide +kernel
theorem dL_law_176 : decode cL_law 176 = .ok (.ireturn, 1) := by decide +kernel
theorem dL_law_177 : decode cL_law 177 = .ok (.aload_n 1, 1) := by decide +kernel
theorem dL_law_178 : decode cL_law 178 = .ok (.invokevirtual 27, 3) := by decide +kernel
theorem dL_law_181 : decode cL_law 181 = .ok (.aload_n 2, 1) := by decide +kernel
theorem dL_law_182 : decode cL_law 182 = .ok (.invokevirtual 30, 3) := by decide +kernel
theorem dL_law_185 : decode cL_law 185 = .ok (.if_icmp .eq 395, 3) := by decide +kernel
theorem dL_law_188 : decode cL_law 188 = .ok (.iconst 0, 1) := by decide +kernel
theorem dL_law_189 : decode cL_law 189 = .ok (.ireturn, 1) := by decide +kernel
theorem dL_law_190 : decode cL_law 190 = .ok (.aload_n 1, 1) := by decide +kernel
theorem dL_law_191 : decode cL_law 191 = .ok (.aload_n 0, 1) := by decide +kernel
theorem dL_law_192 : decode cL_law 192 = .ok (.iload_n 3, 1) := by decide +kernel
theorem dL_law_193 : decode cL_law 193 = .ok (.iconst 1, 1) := by decide +kernel
theorem dL_law_194 : decode cL_law 194 = .ok (.iadd, 1) := by decide +kernel
theorem dL_law_195 : decode cL_law 195 = .ok (.iaload, 1) := by decide +kernel
theorem dL_law_196 : decode cL_law 196 = .ok (.aload_n 0, 1) := by decide +kernel
theorem dL_law_197 : decode cL_law 197 = .ok (.iload_n 3, 1) := by decide +kernel
theorem dL_law_198 : decode cL_law 198 = .ok (.iconst 2, 1) := by decide +kernel
theorem dL_law_199 : decode cL_law 199 = .ok (.iadd, 1) := by decide +kernel
theorem dL_law_200 : decode cL_law 200 = .ok (.iaload, 1) := by decide +kernel
theorem dL_law_201 : decode cL_law 201 = .ok (.invokevirtual 31, 3) := by decide +kernel
theorem dL_law_204 : decode cL_law 204 = .ok (.aload_n 2, 1) := by decide +kernel
theorem dL_law_205 : decode cL_law 205 = .ok (.aload_n 0, 1) := by decide +kernel
theorem dL_law_206 : decode cL_law 206 = .ok (.iload_n 3, 1) := by decide +kernel
theorem dL_law_207 : decode cL_law 207 = .ok (.iconst 1, 1) := by decide +kernel
theorem dL_law_208 : decode cL_law 208 = .ok (.iadd, 1) := by decide +kernel
theorem dL_law_209 : decode cL_law 209 = .ok (.iaload, 1) := by decide +kernel
theorem dL_law_210 : decode cL_law 210 = .ok (.aload_n 0, 1) := by decide +kernel
theorem dL_law_211 : decode cL_law 211 = .ok (.iload_n 3, 1) := by decide +kernel
theorem dL_law_212 : decode cL_law 212 = .ok (.iconst 2, 1) := by decide +kernel
theorem dL_law_213 : decode cL_law 213 = .ok (.iadd, 1) := by decide +kernel
theorem dL_law_214 : decode cL_law 214 = .ok (.iaload, 1) := by decide +kernel
theorem dL_law_215 : decode cL_law 215 = .ok (.invokevirtual 35, 3) := by decide +kernel
theorem dL_law_218 : decode cL_law 218 = .ok (.if_icmp .eq 362, 3) := by decide +kernel
theorem dL_law_221 : decode cL_law 221 = .ok (.iconst 0, 1) := by decide +kernel
theorem dL_law_222 : decode cL_law 222 = .ok (.ireturn, 1) := by decide +kernel
theorem dL_law_223 : decode cL_law 223 = .ok (.aload_n 1, 1) := by decide +kernel
theorem dL_law_224 : decode cL_law 224 = .ok (.aload_n 0, 1) := by decide +kernel
theorem dL_law_225 : decode cL_law 225 = .ok (.iload_n 3, 1) := by decide +kernel
theorem dL_law_226 : decode cL_law 226 = .ok (.iconst 1, 1) := by decide +kernel
theorem dL_law_227 : decode cL_law 227 = .ok (.iadd, 1) := by decide +kernel
theorem dL_law_228 : decode cL_law 228 = .ok (.iaload, 1) := by decide +kernel
theorem dL_law_229 : decode cL_law 229 = .ok (.invokevirtual 36, 3) := by decide +kernel
theorem dL_law_232 : decode cL_law 232 = .ok (.aload_n 2, 1) := by decide +kernel
theorem dL_law_233 : decode cL_law 233 = .ok (.aload_n 0, 1) := by decide +kernel
theorem dL_law_234 : decode cL_law 234 = .ok (.iload_n 3, 1) := by decide +kernel
theorem dL_law_235 : decode cL_law 235 = .ok (.iconst 1, 1) := by decide +kernel
theorem dL_law_236 : decode cL_law 236 = .ok (.iadd, 1) := by decide +kernel
theorem dL_law_237 : decode cL_law 237 = .ok (.iaload, 1) := by decide +kernel
theorem dL_law_238 : decode cL_law 238 = .ok (.invokevirtual 39, 3) := by decide +kernel
theorem dL_law_241 : decode cL_law 241 = .ok (.if_icmp .eq 339, 3) := by decide +kernel
theorem dL_law_244 : decode cL_law 244 = .ok (.iconst 0, 1) := by decide +kernel
theorem dL_law_245 : decode cL_law 245 = .ok (.ireturn, 1) := by decide +kernel
theorem dL_law_246 : decode cL_law 246 = .ok (.aload_n 1, 1) := by decide +kernel
theorem dL_law_247 : decode cL_law 247 = .ok (.aload_n 0, 1) := by decide +kernel
theorem dL_law_248 : decode cL_law 248 = .ok (.iload_n 3, 1) := by decide +kernel
theorem dL_law_249 : decode cL_law 249 = .ok (.iconst 1, 1) := by decide +kernel
theorem dL_law_250 : decode cL_law 250 = .ok (.iadd, 1) := by decide +kernel
theorem dL_law_251 : decode cL_law 251 = .ok (.iaload, 1) := by decide +kernel
theorem dL_law_252 : decode cL_law 252 = .ok (.invokevirtual 40, 3) := by decide +kernel
theorem dL_law_255 : decode cL_law 255 = .ok (.aload_n 2, 1) := by decide +kernel
theorem dL_law_256 : decode cL_law 256 = .ok (.aload_n 0, 1) := by decide +kernel
theorem dL_law_257 : decode cL_law 257 = .ok (.iload_n 3, 1) := by decide +kernel
theorem dL_law_258 : decode cL_law 258 = .ok (.iconst 1, 1) := by decide +kernel
theorem dL_law_259 : decode cL_law 259 = .ok (.iadd, 1) := by decide +kernel
theorem dL_law_260 : decode cL_law 260 = .ok (.iaload, 1) := by decide +kernel
theorem dL_law_261 : decode cL_law 261 = .ok (.invokevirtual 43, 3) := by decide +kernel
theorem dL_law_264 : decode cL_law 264 = .ok (.if_icmp .eq 316, 3) := by decide +kernel
theorem dL_law_267 : decode cL_law 267 = .ok (.iconst 0, 1) := by decide +kernel
theorem dL_law_268 : decode cL_law 268 = .ok (.ireturn, 1) := by decide +kernel
theorem dL_law_269 : decode cL_law 269 = .ok (.aload_n 1, 1) := by decide +kernel
theorem dL_law_270 : decode cL_law 270 = .ok (.invokevirtual 44, 3) := by decide +kernel
theorem dL_law_273 : decode cL_law 273 = .ok (.aload_n 2, 1) := by decide +kernel
theorem dL_law_274 : decode cL_law 274 = .ok (.invokevirtual 47, 3) := by decide +kernel
theorem dL_law_277 : decode cL_law 277 = .ok (.if_icmp .eq 303, 3) := by decide +kernel
theorem dL_law_280 : decode cL_law 280 = .ok (.iconst 0, 1) := by decide +kernel
theorem dL_law_281 : decode cL_law 281 = .ok (.ireturn, 1) := by decide +kernel
theorem dL_law_282 : decode cL_law 282 = .ok (.aload_n 1, 1) := by decide +kernel
theorem dL_law_283 : decode cL_law 283 = .ok (.invokevirtual 48, 3) := by decide +kernel
theorem dL_law_286 : decode cL_law 286 = .ok (.aload_n 2, 1) := by decide +kernel
theorem dL_law_287 : decode cL_law 287 = .ok (.invokevirtual 51, 3) := by decide +kernel
theorem dL_law_290 : decode cL_law 290 = .ok (.if_icmp .eq 290, 3) := by decide +kernel
theorem dL_law_293 : decode cL_law 293 = .ok (.iconst 0, 1) := by decide +kernel
theorem dL_law_294 : decode cL_law 294 = .ok (.ireturn, 1) := by decide +kernel
theorem dL_law_295 : decode cL_law 295 = .ok (.aload_n 1, 1) := by decide +kernel
theorem dL_law_296 : decode cL_law 296 = .ok (.aload_n 0, 1) := by decide +kernel
theorem dL_law_297 : decode cL_law 297 = .ok (.iload_n 3, 1) := by decide +kernel
theorem dL_law_298 : decode cL_law 298 = .ok (.iconst 1, 1) := by decide +kernel
theorem dL_law_299 : decode cL_law 299 = .ok (.iadd, 1) := by decide +kernel
theorem dL_law_300 : decode cL_law 300 = .ok (.iaload, 1) := by decide +kernel
theorem dL_law_301 : decode cL_law 301 = .ok (.aload_n 0, 1) := by decide +kernel
theorem dL_law_302 : decode cL_law 302 = .ok (.iload_n 3, 1) := by decide +kernel
theorem dL_law_303 : decode cL_law 303 = .ok (.iconst 2, 1) := by decide +kernel
theorem dL_law_304 : decode cL_law 304 = .ok (.iadd, 1) := by decide +kernel
theorem dL_law_305 : decode cL_law 305 = .ok (.iaload, 1) := by decide +kernel
theorem dL_law_306 : decode cL_law 306 = .ok (.invokevirtual 52, 3) := by decide +kernel
theorem dL_law_309 : decode cL_law 309 = .ok (.aload_n 2, 1) := by decide +kernel
theorem dL_law_310 : decode cL_law 310 = .ok (.aload_n 0, 1) := by decide +kernel
theorem dL_law_311 : decode cL_law 311 = .ok (.iload_n 3, 1) := by decide +kernel
theorem dL_law_312 : decode cL_law 312 = .ok (.iconst 1, 1) := by decide +kernel
theorem dL_law_313 : decode cL_law 313 = .ok (.iadd, 1) := by decide +kernel
theorem dL_law_314 : decode cL_law 314 = .ok (.iaload, 1) := by decide +kernel
theorem dL_law_315 : decode cL_law 315 = .ok (.aload_n 0, 1) := by decide +kernel
theorem dL_law_316 : decode cL_law 316 = .ok (.iload_n 3, 1) := by decide +kernel
theorem dL_law_317 : decode cL_law 317 = .ok (.iconst 2, 1) := by decide +kernel
theorem dL_law_318 : decode cL_law 318 = .ok (.iadd, 1) := by decide +kernel
theorem dL_law_319 : decode cL_law 319 = .ok (.iaload, 1) := by decide +kernel
theorem dL_law_320 : decode cL_law 320 = .ok (.invokevirtual 55, 3) := by decide +kernel
theorem dL_law_323 : decode cL_law 323 = .ok (.if_icmp .eq 257, 3) := by decide +kernel
theorem dL_law_326 : decode cL_law 326 = .ok (.iconst 0, 1) := by decide +kernel
theorem dL_law_327 : decode cL_law 327 = .ok (.ireturn, 1) := by decide +kernel
theorem dL_law_328 : decode cL_law 328 = .ok (.aload_n 1, 1) := by decide +kernel
theorem dL_law_329 : decode cL_law 329 = .ok (.aload_n 0, 1) := by decide +kernel
theorem dL_law_330 : decode cL_law 330 = .ok (.iload_n 3, 1) := by decide +kernel
theorem dL_law_331 : decode cL_law 331 = .ok (.iconst 1, 1) := by decide +kernel
theorem dL_law_332 : decode cL_law 332 = .ok (.iadd, 1) := by decide +kernel
theorem dL_law_333 : decode cL_law 333 = .ok (.iaload, 1) := by decide +kernel
theorem dL_law_334 : decode cL_law 334 = .ok (.aload_n 0, 1) := by decide +kernel
theorem dL_law_335 : decode cL_law 335 = .ok (.iload_n 3, 1) := by decide +kernel
theorem dL_law_336 : decode cL_law 336 = .ok (.iconst 2, 1) := by decide +kernel
theorem dL_law_337 : decode cL_law 337 = .ok (.iadd, 1) := by decide +kernel
theorem dL_law_338 : decode cL_law 338 = .ok (.iaload, 1) := by decide +kernel
theorem dL_law_339 : decode cL_law 339 = .ok (.invokevirtual 56, 3) := by decide +kernel
theorem dL_law_342 : decode cL_law 342 = .ok (.aload_n 2, 1) := by decide +kernel
theorem dL_law_343 : decode cL_law 343 = .ok (.aload_n 0, 1) := by decide +kernel
theorem dL_law_344 : decode cL_law 344 = .ok (.iload_n 3, 1) := by decide +kernel
theorem dL_law_345 : decode cL_law 345 = .ok (.iconst 1, 1) := by decide +kernel
theorem dL_law_346 : decode cL_law 346 = .ok (.iadd, 1) := by decide +kernel
theorem dL_law_347 : decode cL_law 347 = .ok (.iaload, 1) := by decide +kernel
theorem dL_law_348 : decode cL_law 348 = .ok (.aload_n 0, 1) := by decide +kernel
theorem dL_law_349 : decode cL_law 349 = .ok (.iload_n 3, 1) := by decide +kernel
theorem dL_law_350 : decode cL_law 350 = .ok (.iconst 2, 1) := by decide +kernel
theorem dL_law_351 : decode cL_law 351 = .ok (.iadd, 1) := by decide +kernel
theorem dL_law_352 : decode cL_law 352 = .ok (.iaload, 1) := by decide +kernel
theorem dL_law_353 : decode cL_law 353 = .ok (.invokevirtual 59, 3) := by decide +kernel
theorem dL_law_356 : decode cL_law 356 = .ok (.if_icmp .eq 224, 3) := by decide +kernel
theorem dL_law_359 : decode cL_law 359 = .ok (.iconst 0, 1) := by decide +kernel
theorem dL_law_360 : decode cL_law 360 = .ok (.ireturn, 1) := by decide +kernel
theorem dL_law_361 : decode cL_law 361 = .ok (.aload_n 1, 1) := by decide +kernel
theorem dL_law_362 : decode cL_law 362 = .ok (.aload_n 0, 1) := by decide +kernel
theorem dL_law_363 : decode cL_law 363 = .ok (.iload_n 3, 1) := by decide +kernel
theorem dL_law_364 : decode cL_law 364 = .ok (.iconst 1, 1) := by decide +kernel
theorem dL_law_365 : decode cL_law 365 = .ok (.iadd, 1) := by decide +kernel
theorem dL_law_366 : decode cL_law 366 = .ok (.iaload, 1) := by decide +kernel
theorem dL_law_367 : decode cL_law 367 = .ok (.aload_n 0, 1) := by decide +kernel
theorem dL_law_368 : decode cL_law 368 = .ok (.iload_n 3, 1) := by decide +kernel
theorem dL_law_369 : decode cL_law 369 = .ok (.iconst 2, 1) := by decide +kernel
theorem dL_law_370 : decode cL_law 370 = .ok (.iadd, 1) := by decide +kernel
theorem dL_law_371 : decode cL_law 371 = .ok (.iaload, 1) := by decide +kernel
theorem dL_law_372 : decode cL_law 372 = .ok (.invokevirtual 60, 3) := by decide +kernel
theorem dL_law_375 : decode cL_law 375 = .ok (.aload_n 2, 1) := by decide +kernel
theorem dL_law_376 : decode cL_law 376 = .ok (.aload_n 0, 1) := by decide +kernel
theorem dL_law_377 : decode cL_law 377 = .ok (.iload_n 3, 1) := by decide +kernel
theorem dL_law_378 : decode cL_law 378 = .ok (.iconst 1, 1) := by decide +kernel
theorem dL_law_379 : decode cL_law 379 = .ok (.iadd, 1) := by decide +kernel
theorem dL_law_380 : decode cL_law 380 = .ok (.iaload, 1) := by decide +kernel
theorem dL_law_381 : decode cL_law 381 = .ok (.aload_n 0, 1) := by decide +kernel
theorem dL_law_382 : decode cL_law 382 = .ok (.iload_n 3, 1) := by decide +kernel
theorem dL_law_383 : decode cL_law 383 = .ok (.iconst 2, 1) := by decide +kernel
theorem dL_law_384 : decode cL_law 384 = .ok (.iadd, 1) := by decide +kernel
theorem dL_law_385 : decode cL_law 385 = .ok (.iaload, 1) := by decide +kernel
theorem dL_law_386 : decode cL_law 386 = .ok (.invokevirtual 63, 3) := by decide +kernel
theorem dL_law_389 : decode cL_law 389 = .ok (.if_icmp .eq 191, 3) := by decide +kernel
theorem dL_law_392 : decode cL_law 392 = .ok (.iconst 0, 1) := by decide +kernel
theorem dL_law_393 : decode cL_law 393 = .ok (.ireturn, 1) := by decide +kernel
theorem dL_law_394 : decode cL_law 394 = .ok (.aload_n 1, 1) := by decide +kernel
theorem dL_law_395 : decode cL_law 395 = .ok (.aload_n 0, 1) := by decide +kernel
theorem dL_law_396 : decode cL_law 396 = .ok (.iload_n 3, 1) := by decide +kernel
theorem dL_law_397 : decode cL_law 397 = .ok (.iconst 1, 1) := by decide +kernel
theorem dL_law_398 : decode cL_law 398 = .ok (.iadd, 1) := by decide +kernel
theorem dL_law_399 : decode cL_law 399 = .ok (.iaload, 1) := by decide +kernel
theorem dL_law_400 : decode cL_law 400 = .ok (.invokevirtual 64, 3) := by decide +kernel
theorem dL_law_403 : decode cL_law 403 = .ok (.aload_n 2, 1) := by decide +kernel
theorem dL_law_404 : decode cL_law 404 = .ok (.aload_n 0, 1) := by decide +kernel
theorem dL_law_405 : decode cL_law 405 = .ok (.iload_n 3, 1) := by decide +kernel
theorem dL_law_406 : decode cL_law 406 = .ok (.iconst 1, 1) := by decide +kernel
theorem dL_law_407 : decode cL_law 407 = .ok (.iadd, 1) := by decide +kernel
theorem dL_law_408 : decode cL_law 408 = .ok (.iaload, 1) := by decide +kernel
theorem dL_law_409 : decode cL_law 409 = .ok (.invokevirtual 67, 3) := by decide +kernel
theorem dL_law_412 : decode cL_law 412 = .ok (.if_icmp .eq 168, 3) := by decide +kernel
theorem dL_law_415 : decode cL_law 415 = .ok (.iconst 0, 1) := by decide +kernel
theorem dL_law_416 : decode cL_law 416 = .ok (.ireturn, 1) := by decide +kernel
theorem dL_law_417 : decode cL_law 417 = .ok (.aload_n 1, 1) := by decide +kernel
theorem dL_law_418 : decode cL_law 418 = .ok (.aload_n 0, 1) := by decide +kernel
theorem dL_law_419 : decode cL_law 419 = .ok (.iload_n 3, 1) := by decide +kernel
theorem dL_law_420 : decode cL_law 420 = .ok (.iconst 1, 1) := by decide +kernel
theorem dL_law_421 : decode cL_law 421 = .ok (.iadd, 1) := by decide +kernel
theorem dL_law_422 : decode cL_law 422 = .ok (.iaload, 1) := by decide +kernel
theorem dL_law_423 : decode cL_law 423 = .ok (.invokevirtual 68, 3) := by decide +kernel
theorem dL_law_426 : decode cL_law 426 = .ok (.aload_n 2, 1) := by decide +kernel
theorem dL_law_427 : decode cL_law 427 = .ok (.aload_n 0, 1) := by decide +kernel
theorem dL_law_428 : decode cL_law 428 = .ok (.iload_n 3, 1) := by decide +kernel
theorem dL_law_429 : decode cL_law 429 = .ok (.iconst 1, 1) := by decide +kernel
theorem dL_law_430 : decode cL_law 430 = .ok (.iadd, 1) := by decide +kernel
theorem dL_law_431 : decode cL_law 431 = .ok (.iaload, 1) := by decide +kernel
theorem dL_law_432 : decode cL_law 432 = .ok (.invokevirtual 72, 3) := by decide +kernel
theorem dL_law_435 : decode cL_law 435 = .ok (.lcmp, 1) := by decide +kernel
theorem dL_law_436 : decode cL_law 436 = .ok (.ifCond .eq 144, 3) := by decide +kernel
theorem dL_law_439 : decode cL_law 439 = .ok (.iconst 0, 1) := by decide +kernel
theorem dL_law_440 : decode cL_law 440 = .ok (.ireturn, 1) := by decide +kernel
theorem dL_law_441 : decode cL_law 441 = .ok (.aload_n 1, 1) := by decide +kernel
theorem dL_law_442 : decode cL_law 442 = .ok (.aload_n 0, 1) := by decide +kernel
theorem dL_law_443 : decode cL_law 443 = .ok (.iload_n 3, 1) := by decide +kernel
theorem dL_law_444 : decode cL_law 444 = .ok (.iconst 1, 1) := by decide +kernel
theorem dL_law_445 : decode cL_law 445 = .ok (.iadd, 1) := by decide +kernel
theorem dL_law_446 : decode cL_law 446 = .ok (.iaload, 1) := by decide +kernel
theorem dL_law_447 : decode cL_law 447 = .ok (.invokevirtual 73, 3) := by decide +kernel
theorem dL_law_450 : decode cL_law 450 = .ok (.aload_n 2, 1) := by decide +kernel
theorem dL_law_451 : decode cL_law 451 = .ok (.aload_n 0, 1) := by decide +kernel
theorem dL_law_452 : decode cL_law 452 = .ok (.iload_n 3, 1) := by decide +kernel
theorem dL_law_453 : decode cL_law 453 = .ok (.iconst 1, 1) := by decide +kernel
theorem dL_law_454 : decode cL_law 454 = .ok (.iadd, 1) := by decide +kernel
theorem dL_law_455 : decode cL_law 455 = .ok (.iaload, 1) := by decide +kernel
theorem dL_law_456 : decode cL_law 456 = .ok (.invokevirtual 76, 3) := by decide +kernel
theorem dL_law_459 : decode cL_law 459 = .ok (.if_icmp .eq 121, 3) := by decide +kernel
theorem dL_law_462 : decode cL_law 462 = .ok (.iconst 0, 1) := by decide +kernel
theorem dL_law_463 : decode cL_law 463 = .ok (.ireturn, 1) := by decide +kernel
theorem dL_law_464 : decode cL_law 464 = .ok (.aload_n 1, 1) := by decide +kernel
theorem dL_law_465 : decode cL_law 465 = .ok (.aload_n 0, 1) := by decide +kernel
theorem dL_law_466 : decode cL_law 466 = .ok (.iload_n 3, 1) := by decide +kernel
theorem dL_law_467 : decode cL_law 467 = .ok (.iconst 1, 1) := by decide +kernel
theorem dL_law_468 : decode cL_law 468 = .ok (.iadd, 1) := by decide +kernel
theorem dL_law_469 : decode cL_law 469 = .ok (.iaload, 1) := by decide +kernel
theorem dL_law_470 : decode cL_law 470 = .ok (.aload_n 0, 1) := by decide +kernel
theorem dL_law_471 : decode cL_law 471 = .ok (.iload_n 3, 1) := by decide +kernel
theorem dL_law_472 : decode cL_law 472 = .ok (.iconst 2, 1) := by decide +kernel
theorem dL_law_473 : decode cL_law 473 = .ok (.iadd, 1) := by decide +kernel
theorem dL_law_474 : decode cL_law 474 = .ok (.iaload, 1) := by decide +kernel
theorem dL_law_475 : decode cL_law 475 = .ok (.invokevirtual 77, 3) := by decide +kernel
theorem dL_law_478 : decode cL_law 478 = .ok (.aload_n 2, 1) := by decide +kernel
theorem dL_law_479 : decode cL_law 479 = .ok (.aload_n 0, 1) := by decide +kernel
theorem dL_law_480 : decode cL_law 480 = .ok (.iload_n 3, 1) := by decide +kernel
theorem dL_law_481 : decode cL_law 481 = .ok (.iconst 1, 1) := by decide +kernel
theorem dL_law_482 : decode cL_law 482 = .ok (.iadd, 1) := by decide +kernel
theorem dL_law_483 : decode cL_law 483 = .ok (.iaload, 1) := by decide +kernel
theorem dL_law_484 : decode cL_law 484 = .ok (.aload_n 0, 1) := by decide +kernel
theorem dL_law_485 : decode cL_law 485 = .ok (.iload_n 3, 1) := by decide +kernel
theorem dL_law_486 : decode cL_law 486 = .ok (.iconst 2, 1) := by decide +kernel
theorem dL_law_487 : decode cL_law 487 = .ok (.iadd, 1) := by decide +kernel
theorem dL_law_488 : decode cL_law 488 = .ok (.iaload, 1) := by decide +kernel
theorem dL_law_489 : decode cL_law 489 = .ok (.invokevirtual 80, 3) := by decide +kernel
theorem dL_law_492 : decode cL_law 492 = .ok (.if_icmp .eq 88, 3) := by decide +kernel
theorem dL_law_495 : decode cL_law 495 = .ok (.iconst 0, 1) := by decide +kernel
theorem dL_law_496 : decode cL_law 496 = .ok (.ireturn, 1) := by decide +kernel
theorem dL_law_497 : decode cL_law 497 = .ok (.aload_n 1, 1) := by decide +kernel
theorem dL_law_498 : decode cL_law 498 = .ok (.invokevirtual 81, 3) := by decide +kernel
theorem dL_law_501 : decode cL_law 501 = .ok (.aload_n 2, 1) := by decide +kernel
theorem dL_law_502 : decode cL_law 502 = .ok (.invokevirtual 85, 3) := by decide +kernel
theorem dL_law_505 : decode cL_law 505 = .ok (.lcmp, 1) := by decide +kernel
theorem dL_law_506 : decode cL_law 506 = .ok (.ifCond .eq 74, 3) := by decide +kernel
theorem dL_law_509 : decode cL_law 509 = .ok (.iconst 0, 1) := by decide +kernel
theorem dL_law_510 : decode cL_law 510 = .ok (.ireturn, 1) := by decide +kernel
theorem dL_law_511 : decode cL_law 511 = .ok (.aload_n 1, 1) := by decide +kernel
theorem dL_law_512 : decode cL_law 512 = .ok (.aload_n 0, 1) := by decide +kernel
theorem dL_law_513 : decode cL_law 513 = .ok (.iload_n 3, 1) := by decide +kernel
theorem dL_law_514 : decode cL_law 514 = .ok (.iconst 1, 1) := by decide +kernel
theorem dL_law_515 : decode cL_law 515 = .ok (.iadd, 1) := by decide +kernel
theorem dL_law_516 : decode cL_law 516 = .ok (.iaload, 1) := by decide +kernel
theorem dL_law_517 : decode cL_law 517 = .ok (.invokevirtual 86, 3) := by decide +kernel
theorem dL_law_520 : decode cL_law 520 = .ok (.aload_n 2, 1) := by decide +kernel
theorem dL_law_521 : decode cL_law 521 = .ok (.aload_n 0, 1) := by decide +kernel
theorem dL_law_522 : decode cL_law 522 = .ok (.iload_n 3, 1) := by decide +kernel
theorem dL_law_523 : decode cL_law 523 = .ok (.iconst 1, 1) := by decide +kernel
theorem dL_law_524 : decode cL_law 524 = .ok (.iadd, 1) := by decide +kernel
theorem dL_law_525 : decode cL_law 525 = .ok (.iaload, 1) := by decide +kernel
theorem dL_law_526 : decode cL_law 526 = .ok (.invokevirtual 89, 3) := by decide +kernel
theorem dL_law_529 : decode cL_law 529 = .ok (.if_icmp .eq 51, 3) := by decide +kernel
theorem dL_law_532 : decode cL_law 532 = .ok (.iconst 0, 1) := by decide +kernel
theorem dL_law_533 : decode cL_law 533 = .ok (.ireturn, 1) := by decide +kernel
theorem dL_law_534 : decode cL_law 534 = .ok (.aload_n 1, 1) := by decide +kernel
theorem dL_law_535 : decode cL_law 535 = .ok (.aload_n 0, 1) := by decide +kernel
theorem dL_law_536 : decode cL_law 536 = .ok (.iload_n 3, 1) := by decide +kernel
theorem dL_law_537 : decode cL_law 537 = .ok (.iconst 1, 1) := by decide +kernel
theorem dL_law_538 : decode cL_law 538 = .ok (.iadd, 1) := by decide +kernel
theorem dL_law_539 : decode cL_law 539 = .ok (.iaload, 1) := by decide +kernel
theorem dL_law_540 : decode cL_law 540 = .ok (.invokevirtual 90, 3) := by decide +kernel
theorem dL_law_543 : decode cL_law 543 = .ok (.aload_n 2, 1) := by decide +kernel
theorem dL_law_544 : decode cL_law 544 = .ok (.aload_n 0, 1) := by decide +kernel
theorem dL_law_545 : decode cL_law 545 = .ok (.iload_n 3, 1) := by decide +kernel
theorem dL_law_546 : decode cL_law 546 = .ok (.iconst 1, 1) := by decide +kernel
theorem dL_law_547 : decode cL_law 547 = .ok (.iadd, 1) := by decide +kernel
theorem dL_law_548 : decode cL_law 548 = .ok (.iaload, 1) := by decide +kernel
theorem dL_law_549 : decode cL_law 549 = .ok (.invokevirtual 93, 3) := by decide +kernel
theorem dL_law_552 : decode cL_law 552 = .ok (.if_icmp .eq 28, 3) := by decide +kernel
theorem dL_law_555 : decode cL_law 555 = .ok (.iconst 0, 1) := by decide +kernel
theorem dL_law_556 : decode cL_law 556 = .ok (.ireturn, 1) := by decide +kernel
theorem dL_law_557 : decode cL_law 557 = .ok (.aload_n 1, 1) := by decide +kernel
theorem dL_law_558 : decode cL_law 558 = .ok (.aload_n 0, 1) := by decide +kernel
theorem dL_law_559 : decode cL_law 559 = .ok (.iload_n 3, 1) := by decide +kernel
theorem dL_law_560 : decode cL_law 560 = .ok (.iconst 1, 1) := by decide +kernel
theorem dL_law_561 : decode cL_law 561 = .ok (.iadd, 1) := by decide +kernel
theorem dL_law_562 : decode cL_law 562 = .ok (.iaload, 1) := by decide +kernel
theorem dL_law_563 : decode cL_law 563 = .ok (.invokevirtual 94, 3) := by decide +kernel
theorem dL_law_566 : decode cL_law 566 = .ok (.aload_n 2, 1) := by decide +kernel
theorem dL_law_567 : decode cL_law 567 = .ok (.aload_n 0, 1) := by decide +kernel
theorem dL_law_568 : decode cL_law 568 = .ok (.iload_n 3, 1) := by decide +kernel
theorem dL_law_569 : decode cL_law 569 = .ok (.iconst 1, 1) := by decide +kernel
theorem dL_law_570 : decode cL_law 570 = .ok (.iadd, 1) := by decide +kernel
theorem dL_law_571 : decode cL_law 571 = .ok (.iaload, 1) := by decide +kernel
theorem dL_law_572 : decode cL_law 572 = .ok (.invokevirtual 97, 3) := by decide +kernel
theorem dL_law_575 : decode cL_law 575 = .ok (.if_icmp .eq 5, 3) := by decide +kernel
theorem dL_law_578 : decode cL_law 578 = .ok (.iconst 0, 1) := by decide +kernel
theorem dL_law_579 : decode cL_law 579 = .ok (.ireturn, 1) := by decide +kernel
theorem dL_law_580 : decode cL_law 580 = .ok (.iinc 3 3, 3) := by decide +kernel
theorem dL_law_583 : decode cL_law 583 = .ok (.goto (-565), 3) := by decide +kernel
theorem dL_law_586 : decode cL_law 586 = .ok (.iconst 1, 1) := by decide +kernel
theorem dL_law_587 : decode cL_law 587 = .ok (.ireturn, 1) := by decide +kernel
end
section
/-! ===== the memory by offsets from the cell b on ===== -/
abbrev Tx : Type := (Nat → Nat) × (Nat → Nat) × Nat
abbrev Vx : Type := (Nat → Nat → Int32) × (Nat → Nat → Option Nat) × (Nat → Nat → Int32) × (Nat → Nat → Int64) × (Nat → Nat → Option Nat)
def kd (T : Tx) (a : Nat) : Nat := T.1 a
def ln (T : Tx) (a : Nat) : Nat := T.2.1 a
def tp (T : Tx) : Nat := T.2.2
def fI (V : Vx) (f a : Nat) : Int32 := V.1 f a
def fR (V : Vx) (f a : Nat) : Option Nat := V.2.1 f a
def aI (V : Vx) (a i : Nat) : Int32 := V.2.2.1 a i
def aL (V : Vx) (a i : Nat) : Int64 := V.2.2.2.1 a i
def aR (V : Vx) (a i : Nat) : Option Nat := V.2.2.2.2 a i
def u2 {α : Type} (g : Nat → Nat → α) (f a : Nat) (v : α) : Nat → Nat → α := fun f' a' => if f' = f ∧ a' = a then v else g f' a'
def sI (V : Vx) (f a : Nat) (v : Int32) : Vx := (u2 V.1 f a v, V.2)
def sR (V : Vx) (f a : Nat) (v : Option Nat) : Vx := (V.1, u2 V.2.1 f a v, V.2.2)
def wI (V : Vx) (a i : Nat) (v : Int32) : Vx := (V.1, V.2.1, u2 V.2.2.1 a i v, V.2.2.2)
def wL (V : Vx) (a i : Nat) (v : Int64) : Vx := (V.1, V.2.1, V.2.2.1, u2 V.2.2.2.1 a i v, V.2.2.2.2)
def wR (V : Vx) (a i : Nat) (v : Option Nat) : Vx := (V.1, V.2.1, V.2.2.1, V.2.2.2.1, u2 V.2.2.2.2 a i v)
/-- a new object's or array's kind and length -/
def nT (T : Tx) (k n : Nat) : Tx := (fun a => if a = T.2.2 then k else T.1 a, fun a => if a = T.2.2 then n else T.2.1 a, T.2.2 + 1)
/-- a new cell holds zeros -/
def zV (T : Tx) (V : Vx) : Vx := (fun f a => if a = T.2.2 then 0 else V.1 f a, fun f a => if a = T.2.2 then none else V.2.1 f a, fun a i => if a = T.2.2 then 0 else V.2.2.1 a i, fun a i => if a = T.2.2 then 0 else V.2.2.2.1 a i, fun a i => if a = T.2.2 then none else V.2.2.2.2 a i)
def rv (b : Nat) (o : Option Nat) : Value := va_rf (o.map (fun k => b + k))
theorem rv_cat (b : Nat) (o : Option Nat) : (rv b o).category = 1 := by cases o <;> rfl
theorem rv_isr (b : Nat) (o : Option Nat) : rv b o = .null ∨ ∃ a, rv b o = .ref a := by
  cases o with
  | none => exact Or.inl rfl
  | some a => exact Or.inr ⟨b + a, rfl⟩
def rft : List (List Bool) := [[true, true, false], [true, false], [true, true, false, false, false], [true, true, true, true, true], [true, false], [true, true, true, true, true, false], [true, false, false, false], [true, false], [true, true, true, true, true, true, true, true], [false, true, false, true, true, true, true, false, true, true, true, false, true, true, false, true, true, true, true, true]]
def isRf (c k : Nat) : Bool := (rft.getD c []).getD k false
def nf (c : Nat) : Nat := (rft.getD c []).length
def cv (b : Nat) (V : Vx) (c a k : Nat) : Value := if isRf c k = true then rv b (fR V (100 * c + k) a) else .int (fI V (100 * c + k) a)
def ce (b : Nat) (ca : Nat → ClassId) (T : Tx) (V : Vx) (a : Nat) : va_E :=
  if kd T a < 10 then .inr (kd T a, (List.range (nf (kd T a))).map (cv b V (kd T a) a))
  else if kd T a < 12 then .inl (ca (kd T a), ln T a, .inl (aI V a))
  else if kd T a = 12 then .inl (ca (kd T a), ln T a, .inr (.inl (aL V a)))
  else .inl (ca (kd T a), ln T a, .inr (.inr (.inr (.inr (fun i => (aR V a i).map (fun k => b + k))))))
def cs (b : Nat) (ca : Nat → ClassId) (T : Tx) (V : Vx) : va_W := (List.range (tp T)).map (fun a => (b + a, ce b ca T V a))
def tyl (ca : Nat → ClassId) : List (ClassId × FieldType) := [(ca 10, .char), (ca 11, .int), (ca 12, .long), (ca 13, .object "RebusSigns$Row"), (ca 14, .object "RebusSigns$Sign"), (ca 15, .object "RebusSigns$Word")]
theorem cs_at {b : Nat} {ca : Nat → ClassId} {T : Tx} {V : Vx} {a : Nat} (h : a < tp T) : (cs b ca T V)[a]? = some (b + a, ce b ca T V a) := by
  simp [cs, h]
theorem cs_len (b : Nat) (ca : Nat → ClassId) (T : Tx) (V : Vx) : (cs b ca T V).length = tp T := by simp [cs]
theorem cs_get {b : Nat} {ca : Nat → ClassId} {T : Tx} {V : Vx} {a : Nat} {q : Nat × va_E} (h : (cs b ca T V)[a]? = some q) : a < tp T ∧ q = (b + a, ce b ca T V a) := by
  have hl : a < (cs b ca T V).length := (List.getElem?_eq_some_iff.mp h).1
  rw [cs_len] at hl
  rw [cs_at hl] at h
  exact ⟨hl, (Option.some.inj h).symm⟩
theorem cs_D (b : Nat) (ca : Nat → ClassId) (T : Tx) (V : Vx) : va_D (fun q : Nat => b ≤ q) (cs b ca T V) := by
  refine ⟨fun i j p q hi hj e => ?_, fun k q hk => ?_⟩
  · obtain ⟨-, rfl⟩ := cs_get hi
    obtain ⟨-, rfl⟩ := cs_get hj
    have e : b + i = b + j := e
    omega
  · obtain ⟨-, rfl⟩ := cs_get hk
    exact Nat.le_add_right b k
theorem ce_o {b : Nat} {ca : Nat → ClassId} {T : Tx} {V : Vx} {a c : Nat} (h : kd T a = c) (hc : c < 10) : ce b ca T V a = .inr (c, (List.range (nf c)).map (cv b V c a)) := by
  subst h
  unfold ce
  rw [if_pos hc]
theorem ce_i {b : Nat} {ca : Nat → ClassId} {T : Tx} {V : Vx} {a c : Nat} (h : kd T a = c) (hc : ¬ c < 10) (hc2 : c < 12) : ce b ca T V a = .inl (ca c, ln T a, .inl (aI V a)) := by
  subst h
  unfold ce
  rw [if_neg hc, if_pos hc2]
theorem ce_l {b : Nat} {ca : Nat → ClassId} {T : Tx} {V : Vx} {a : Nat} (h : kd T a = 12) : ce b ca T V a = .inl (ca 12, ln T a, .inr (.inl (aL V a))) := by
  unfold ce
  rw [h, if_neg (by omega), if_neg (by omega), if_pos rfl]
theorem ce_r {b : Nat} {ca : Nat → ClassId} {T : Tx} {V : Vx} {a c : Nat} (h : kd T a = c) (hc : 12 < c) : ce b ca T V a = .inl (ca c, ln T a, .inr (.inr (.inr (.inr (fun i => (aR V a i).map (fun k => b + k)))))) := by
  subst h
  unfold ce
  rw [if_neg (by omega), if_neg (by omega), if_neg (by omega)]
theorem cs_set {b : Nat} {ca : Nat → ClassId} {T : Tx} {V V' : Vx} {a : Nat} {x : va_E} (hx : ce b ca T V' a = x) (ho : ∀ a', a' ≠ a → ce b ca T V' a' = ce b ca T V a') : (cs b ca T V).set a (b + a, x) = cs b ca T V' := by
  refine List.ext_getElem? fun i => ?_
  by_cases hi : i < tp T
  · by_cases e : i = a
    · subst e
      rw [List.getElem?_set_self (by rw [cs_len]; exact hi), cs_at hi, hx]
    · rw [List.getElem?_set_ne (Ne.symm e), cs_at hi, cs_at hi, ho i e]
  · rw [List.getElem?_eq_none (by rw [List.length_set, cs_len]; omega), List.getElem?_eq_none (by rw [cs_len]; omega)]
theorem cv_ne {b : Nat} {V V' : Vx} {c a k : Nat} (h1 : fI V' (100 * c + k) a = fI V (100 * c + k) a) (h2 : fR V' (100 * c + k) a = fR V (100 * c + k) a) : cv b V' c a k = cv b V c a k := by
  unfold cv
  rw [h1, h2]
theorem map_set {f g : Nat → Value} {n k : Nat} {v : Value} (hv : g k = v) (ho : ∀ j, j ≠ k → g j = f j) : ((List.range n).map f).set k v = (List.range n).map g := by
  refine List.ext_getElem? fun i => ?_
  by_cases hi : i < n
  · by_cases e : i = k
    · subst e
      rw [List.getElem?_set_self (by simpa using hi)]
      simp [hi, hv]
    · rw [List.getElem?_set_ne (Ne.symm e)]
      simp [hi, ho i e]
  · rw [List.getElem?_eq_none (by simp; omega), List.getElem?_eq_none (by simp; omega)]
theorem ce_same {b : Nat} {ca : Nat → ClassId} {T : Tx} {V V' : Vx} {a : Nat} (h1 : ∀ f, fI V' f a = fI V f a) (h2 : ∀ f, fR V' f a = fR V f a) (h3 : aI V' a = aI V a) (h4 : aL V' a = aL V a) (h5 : aR V' a = aR V a) : ce b ca T V' a = ce b ca T V a := by
  unfold ce
  rw [h3, h4, h5, show cv b V' (kd T a) a = cv b V (kd T a) a from funext fun k => cv_ne (h1 _) (h2 _)]
theorem cs_sI {b : Nat} {ca : Nat → ClassId} {T : Tx} {V : Vx} {a c k : Nat} {v : Int32} (h : kd T a = c) (hc : c < 10) (hI : isRf c k = false) : (cs b ca T V).set a (b + a, .inr (c, ((List.range (nf c)).map (cv b V c a)).set k (.int v))) = cs b ca T (sI V (100 * c + k) a v) := by
  refine cs_set ?_ fun a' ha => ce_same (fun f => ?_) (fun f => rfl) rfl rfl rfl
  · rw [ce_o h hc, map_set]
    · simp [cv, hI, fI, sI, u2]
    · intro j hj
      refine cv_ne ?_ rfl
      simp only [fI, sI, u2]
      rw [if_neg]
      omega
  · simp only [fI, sI, u2]
    rw [if_neg]
    exact fun q => ha q.2
theorem cs_sR {b : Nat} {ca : Nat → ClassId} {T : Tx} {V : Vx} {a c k : Nat} {v : Option Nat} (h : kd T a = c) (hc : c < 10) (hI : isRf c k = true) : (cs b ca T V).set a (b + a, .inr (c, ((List.range (nf c)).map (cv b V c a)).set k (rv b v))) = cs b ca T (sR V (100 * c + k) a v) := by
  refine cs_set ?_ fun a' ha => ce_same (fun f => rfl) (fun f => ?_) rfl rfl rfl
  · rw [ce_o h hc, map_set]
    · simp [cv, hI, fR, sR, u2]
    · intro j hj
      refine cv_ne rfl ?_
      simp only [fR, sR, u2]
      rw [if_neg]
      omega
  · simp only [fR, sR, u2]
    rw [if_neg]
    exact fun q => ha q.2
theorem aI_wI_eq (V : Vx) (a i : Nat) (v : Int32) : aI (wI V a i v) a = upd (aI V a) i v := by
  funext j
  simp [aI, wI, u2, upd]
theorem aL_wL_eq (V : Vx) (a i : Nat) (v : Int64) : aL (wL V a i v) a = vp_updL (aL V a) i v := by
  funext j
  simp [aL, wL, u2, vp_updL]
theorem aR_wR_eq (V : Vx) (b a i : Nat) (v : Option Nat) : (fun j => (aR (wR V a i v) a j).map (fun k => b + k)) = va_up (fun j => (aR V a j).map (fun k => b + k)) i (v.map (fun k => b + k)) := by
  funext j
  by_cases h : j = i <;> simp [aR, wR, u2, va_up, h]
theorem cs_wI {b : Nat} {ca : Nat → ClassId} {T : Tx} {V : Vx} {a c i : Nat} {v : Int32} (h : kd T a = c) (hc : ¬ c < 10) (hc2 : c < 12) : (cs b ca T V).set a (b + a, .inl (ca c, ln T a, .inl (upd (aI V a) i v))) = cs b ca T (wI V a i v) := by
  refine cs_set ?_ fun a' ha => ce_same (fun f => rfl) (fun f => rfl) ?_ rfl rfl
  · rw [ce_i h hc hc2, aI_wI_eq]
  · funext j
    simp [aI, wI, u2, ha]
theorem cs_wL {b : Nat} {ca : Nat → ClassId} {T : Tx} {V : Vx} {a i : Nat} {v : Int64} (h : kd T a = 12) : (cs b ca T V).set a (b + a, .inl (ca 12, ln T a, .inr (.inl (vp_updL (aL V a) i v)))) = cs b ca T (wL V a i v) := by
  refine cs_set ?_ fun a' ha => ce_same (fun f => rfl) (fun f => rfl) rfl ?_ rfl
  · rw [ce_l h, aL_wL_eq]
  · funext j
    simp [aL, wL, u2, ha]
theorem cs_wR {b : Nat} {ca : Nat → ClassId} {T : Tx} {V : Vx} {a c i : Nat} {v : Option Nat} (h : kd T a = c) (hc : 12 < c) : (cs b ca T V).set a (b + a, .inl (ca c, ln T a, .inr (.inr (.inr (.inr (va_up (fun j => (aR V a j).map (fun k => b + k)) i (v.map (fun k => b + k)))))))) = cs b ca T (wR V a i v) := by
  refine cs_set ?_ fun a' ha => ce_same (fun f => rfl) (fun f => rfl) rfl rfl ?_
  · rw [ce_r h hc, aR_wR_eq]
  · funext j
    simp [aR, wR, u2, ha]
theorem nT_kd (T : Tx) (k n : Nat) : kd (nT T k n) (tp T) = k := by simp [kd, nT, tp]
theorem nT_ln (T : Tx) (k n : Nat) : ln (nT T k n) (tp T) = n := by simp [ln, nT, tp]
theorem ce_new {b : Nat} {ca : Nat → ClassId} {T : Tx} {V : Vx} {k n a : Nat} (h : a ≠ tp T) : ce b ca (nT T k n) (zV T V) a = ce b ca T V a := by
  have h' : ¬ a = T.2.2 := h
  have e1 : kd (nT T k n) a = kd T a := by simp [kd, nT, h']
  have e2 : ln (nT T k n) a = ln T a := by simp [ln, nT, h']
  have e3 : aI (zV T V) a = aI V a := by funext j; simp [aI, zV, h']
  have e4 : aL (zV T V) a = aL V a := by funext j; simp [aL, zV, h']
  have e5 : aR (zV T V) a = aR V a := by funext j; simp [aR, zV, h']
  have e6 : ∀ c, cv b (zV T V) c a = cv b V c a := fun c => funext fun j => cv_ne (by simp [fI, zV, h']) (by simp [fR, zV, h'])
  unfold ce
  rw [e1, e2, e3, e4, e5, e6]
theorem cs_new {b : Nat} {ca : Nat → ClassId} {T : Tx} {V : Vx} {k n : Nat} {x : va_E} (hx : ce b ca (nT T k n) (zV T V) (tp T) = x) : cs b ca T V ++ [(b + tp T, x)] = cs b ca (nT T k n) (zV T V) := by
  refine List.ext_getElem? fun i => ?_
  by_cases hi : i < tp T
  · rw [List.getElem?_append_left (by rw [cs_len]; exact hi), cs_at hi, cs_at (show i < tp (nT T k n) from Nat.lt_succ_of_lt hi), ce_new (by omega)]
  · by_cases e : i = tp T
    · subst e
      rw [List.getElem?_append_right (by rw [cs_len]; omega), cs_len, Nat.sub_self, cs_at (show tp T < tp (nT T k n) from Nat.lt_succ_self _), hx]
      rfl
    · rw [List.getElem?_eq_none (by rw [List.length_append, cs_len]; simp; omega), List.getElem?_eq_none (by rw [cs_len]; show T.2.2 + 1 ≤ i; have : ¬ i = T.2.2 := e; have : ¬ i < T.2.2 := hi; omega)]
/-! ===== Option, with names ===== -/
def bd {α γ : Type} (o : Option α) (f : α → Option γ) : Option γ := match o with
  | none => none
  | some a => f a
def bd2 {α β γ : Type} (o : Option (α × β)) (f : α → β → Option γ) : Option γ := match o with
  | none => none
  | some a => f a.1 a.2
def bd3 {α β δ γ : Type} (o : Option (α × β × δ)) (f : α → β → δ → Option γ) : Option γ := match o with
  | none => none
  | some a => f a.1 a.2.1 a.2.2
def bd4 {α β δ ε γ : Type} (o : Option (α × β × δ × ε)) (f : α → β → δ → ε → Option γ) : Option γ := match o with
  | none => none
  | some a => f a.1 a.2.1 a.2.2.1 a.2.2.2
theorem bd_e {α γ : Type} {o : Option α} {f : α → Option γ} {r : γ} (h : bd o f = some r) : ∃ a, o = some a ∧ f a = some r := by
  cases o with
  | none => cases h
  | some a => exact ⟨a, rfl, h⟩
theorem bd2_e {α β γ : Type} {o : Option (α × β)} {f : α → β → Option γ} {r : γ} (h : bd2 o f = some r) : ∃ a b, o = some (a, b) ∧ f a b = some r := by
  cases o with
  | none => cases h
  | some a => exact ⟨a.1, a.2, rfl, h⟩
theorem bd3_e {α β δ γ : Type} {o : Option (α × β × δ)} {f : α → β → δ → Option γ} {r : γ} (h : bd3 o f = some r) : ∃ a b c, o = some (a, b, c) ∧ f a b c = some r := by
  cases o with
  | none => cases h
  | some a => exact ⟨a.1, a.2.1, a.2.2, rfl, h⟩
theorem bd4_e {α β δ ε γ : Type} {o : Option (α × β × δ × ε)} {f : α → β → δ → ε → Option γ} {r : γ} (h : bd4 o f = some r) : ∃ a b c d, o = some (a, b, c, d) ∧ f a b c d = some r := by
  cases o with
  | none => cases h
  | some a => exact ⟨a.1, a.2.1, a.2.2.1, a.2.2.2, rfl, h⟩
theorem bd_s {α γ : Type} (a : α) (f : α → Option γ) : bd (some a) f = f a := rfl
theorem bd2_s {α β γ : Type} (a : α) (b : β) (f : α → β → Option γ) : bd2 (some (a, b)) f = f a b := rfl
theorem bd3_s {α β δ γ : Type} (a : α) (b : β) (c : δ) (f : α → β → δ → Option γ) : bd3 (some (a, b, c)) f = f a b c := rfl
theorem bd4_s {α β δ ε γ : Type} (a : α) (b : β) (c : δ) (d : ε) (f : α → β → δ → ε → Option γ) : bd4 (some (a, b, c, d)) f = f a b c d := rfl
/-- a reference that isn't null, to a cell of a kind -/
def ck (T : Tx) (c : Nat) (o : Option Nat) : Option Nat := match o with
  | none => none
  | some a => if kd T a = c then some a else none
theorem ck_e {T : Tx} {c : Nat} {o : Option Nat} {a : Nat} (h : ck T c o = some a) : o = some a ∧ kd T a = c := by
  cases o with
  | none => cases h
  | some x =>
    unfold ck at h
    dsimp only at h
    by_cases hk : kd T x = c
    · rw [if_pos hk] at h
      cases h
      exact ⟨rfl, hk⟩
    · rw [if_neg hk] at h
      cases h
theorem ck_s {T : Tx} {c a : Nat} (h : kd T a = c) : ck T c (some a) = some a := by
  unfold ck
  dsimp only
  rw [if_pos h]
/-- a place inside a row -/
def inb (i : Int32) (n : Nat) : Bool := !(decide (i < 0)) && decide (i.toNatClampNeg < n)
theorem inb_e {i : Int32} {n : Nat} (h : inb i n = true) : vp_in i n := by
  unfold inb at h
  simp only [Bool.and_eq_true, Bool.not_eq_true', decide_eq_false_iff_not, decide_eq_true_eq] at h
  rintro (q | q)
  · exact h.1 q
  · omega
theorem inb_s {i : Int32} {n : Nat} (h : vp_in i n) : inb i n = true := by
  unfold inb
  simp only [Bool.and_eq_true, Bool.not_eq_true', decide_eq_false_iff_not, decide_eq_true_eq]
  exact ⟨fun q => h (Or.inl q), Nat.not_le.mp fun q => h (Or.inr q)⟩
def gd {γ : Type} (c : Bool) (x : Option γ) : Option γ := if c = true then x else none
theorem gd_e {γ : Type} {c : Bool} {x : Option γ} {r : γ} (h : gd c x = some r) : c = true ∧ x = some r := by
  unfold gd at h
  by_cases hc : c = true
  · rw [if_pos hc] at h
    exact ⟨hc, h⟩
  · rw [if_neg hc] at h
    cases h
theorem gd_s {γ : Type} {c : Bool} {x : Option γ} (h : c = true) : gd c x = x := by
  unfold gd
  rw [if_pos h]
/-- 0 or 1 -/
def zo (v : Int32) : Bool := decide (v = 0) || decide (v = 1)
theorem zo_n {v : Int32} (h : zo v = true) : narrow .boolean (.int v) = .int v ∧ fits .boolean (.int v) = true := by
  unfold zo at h
  simp only [Bool.or_eq_true, decide_eq_true_eq] at h
  rcases h with rfl | rfl
  · exact ⟨by decide +kernel, by decide +kernel⟩
  · exact ⟨by decide +kernel, by decide +kernel⟩
end
section
/-! ===== the tables' words, kept as one word of the state ===== -/
def nestW : Cond → Bool
  | .fieldLinkNest _ _ _ _ _ _ => true
  | .methodLinkNest _ _ _ _ => true
  | _ => false
def TB (U : State) : Prop := ∀ w ∈ lw_tbl, (goodWord w || nestW w) = true → va_Nw w U
theorem TB.warm {s U : State} (hW : s.WarmedH U.vm) (h : TB s) : TB U := by
  intro w hw hg
  have h1 := h w hw hg
  by_cases hgw : goodWord w = true
  · exact word_at hW (good_of_word hgw) h1
  · have hn : nestW w = true := by
      simp only [Bool.or_eq_true] at hg
      exact hg.resolve_left hgw
    cases w with
    | fieldLinkNest a i b n d hh => exact va_Nw.warmF hW h1
    | methodLinkNest a i x hh => exact va_Nw.warmM hW h1
    | _ => cases hn
theorem TB.of {s : State} {args : Array Value} (h : ∀ w ∈ lw_tbl, w.before args s = true) : TB s := by
  intro w hw hg
  have h1 := h w hw
  by_cases hgw : goodWord w = true
  · exact word_at (State.WarmedH.refl s) (good_of_word hgw) h1
  · have hn : nestW w = true := by
      simp only [Bool.or_eq_true] at hg
      exact hg.resolve_left hgw
    cases w with
    | fieldLinkNest a i b n d hh => exact va_tabs rfl rfl h1
    | methodLinkNest a i x hh => exact va_tabs rfl rfl h1
    | _ => cases hn
theorem TB.use {s : State} {args : Array Value} (h : TB s) {w : Cond} (hw : w ∈ lw_tbl) (hg : (goodWord w || nestW w) = true) : w.before args s = true := by
  have h1 := h w hw hg
  by_cases hgw : goodWord w = true
  · exact word_at (State.WarmedH.refl s) (good_of_word hgw) h1
  · have hn : nestW w = true := by
      simp only [Bool.or_eq_true] at hg
      exact hg.resolve_left hgw
    cases w with
    | fieldLinkNest a i b n d hh => exact va_tabs rfl rfl h1
    | methodLinkNest a i x hh => exact va_tabs rfl rfl h1
    | _ => cases hn
theorem TB.w {s : State} {args : Array Value} {w : Cond} (i : Nat) (hw : lw_tbl[i]? = some w) (hg : (goodWord w || nestW w) = true) (h : TB s) : w.before args s = true := h.use (List.mem_of_getElem? hw) hg
theorem TB.list {s : State} {args : Array Value} {ws : List Cond} (ps : List Nat) (hw : ws = ps.filterMap (fun i => lw_tbl[i]?)) (hg : ws.all (fun w => goodWord w || nestW w) = true) (h : TB s) : ∀ w ∈ ws, w.before args s = true := by
  intro w hm
  have hg1 := List.all_eq_true.mp hg w hm
  rw [hw] at hm
  obtain ⟨i, -, hi⟩ := List.mem_filterMap.mp hm
  exact h.use (List.mem_of_getElem? hi) hg1
/-! ===== what a method's walk stands on; its world; the judgement ===== -/
def GX (p : Program) (s : State) (m : MethodId) (meth : Method) (c : Code) (cc : ByteArray) (nL : Nat) (ret : Option FieldType) (own mn : String) (D : va_G) (ca : Nat → ClassId) (b : Nat) : Prop :=
  p.tables.exec = Jvm.exec ∧ c.code = cc ∧ c.maxLocals = nL ∧ s.vm.findClass own = some m.cls ∧ TB s ∧ va_K D vwCl (tyl ca) s ∧ meth.sig.returnType = ret ∧ meth.locks = false ∧ b ≤ s.heap.size ∧ meth.name = mn
def GW (D : va_G) (ca : Nat → ClassId) (b : Nat) (T : Tx) (V : Vx) (H0 : Heap) (cells : Nat) (H : Heap) (locs : List Loc) : Prop :=
  va_P D vwCl (cs b ca T V) H ∧ H0.size + cells = b + tp T ∧ (∀ a, tp T ≤ a → kd T a = 99) ∧ va_S (fun q : Nat => b ≤ q) H0 H locs
def WG (p : Program) (l : Launch) (e : Env) (R : Room) (s : State) (m : MethodId) (args : Array Value) (below : List Frame) (meth : Method) (c : Code) (D : va_G) (ca : Nat → ClassId) (b nL : Nat) (Q : State → Prop) (cells slots : Nat) (T : Tx) (V : Vx) (pc : Nat) (L : List (Nat × Value)) (st : List Value) : Prop :=
  ∀ (H : Heap) (locs : List Loc) (ls : Array Slot), GW D ca b T V s.heap cells H locs → lv_has ls nL L → W p l e R s m args below meth c H locs cells slots Q (F0 m pc ls st)
def CI (c : Nat) (C : String) (T : u_T) (N : Nat) (ty : Nat → FieldType) : Prop := vwCl[c]? = some (C, T, N) ∧ nf c = N ∧ c < 10 ∧ (∀ k, k < N → parseFieldDescriptor (T k).2.2.1 = some (ty k)) ∧ (∀ a, a < N → ∀ b, b < N → a ≠ b → (T a).2.1 ≠ (T b).2.1)
theorem ci_0 : CI 0 RX0 TX0 3 tyX0 := ⟨rfl, rfl, by decide, tyX0_ok, nmX0⟩
theorem ci_1 : CI 1 RX1 TX1 2 tyX1 := ⟨rfl, rfl, by decide, tyX1_ok, nmX1⟩
theorem ci_2 : CI 2 RX2 TX2 5 tyX2 := ⟨rfl, rfl, by decide, tyX2_ok, nmX2⟩
theorem ci_3 : CI 3 RX4 TX4 5 tyX4 := ⟨rfl, rfl, by decide, tyX4_ok, nmX4⟩
theorem ci_4 : CI 4 RX5 TX5 2 tyX5 := ⟨rfl, rfl, by decide, tyX5_ok, nmX5⟩
theorem ci_5 : CI 5 RX6 TX6 6 tyX6 := ⟨rfl, rfl, by decide, tyX6_ok, nmX6⟩
theorem ci_6 : CI 6 RX7 TX7 4 tyX7 := ⟨rfl, rfl, by decide, tyX7_ok, nmX7⟩
theorem ci_7 : CI 7 RX8 TX8 2 tyX8 := ⟨rfl, rfl, by decide, tyX8_ok, nmX8⟩
theorem ci_8 : CI 8 RX9 TX9 8 tyX9 := ⟨rfl, rfl, by decide, tyX9_ok, nmX9⟩
theorem ci_9 : CI 9 RX10 TX10 20 tyX10 := ⟨rfl, rfl, by decide, tyX10_ok, nmX10⟩
theorem tp_lt {D : va_G} {ca : Nat → ClassId} {b : Nat} {T : Tx} {V : Vx} {H0 H : Heap} {cells : Nat} {locs : List Loc} (h : GW D ca b T V H0 cells H locs) {a k : Nat} (hk : kd T a = k) (hk9 : k < 20) : a < tp T := by
  rcases Nat.lt_or_ge a (tp T) with q | q
  · exact q
  · have := h.2.2.1 a q
    omega
section RW
variable {p : Program} {l : Launch} {e : Env} {R : Room} {s : State} {m : MethodId} {args : Array Value} {below : List Frame} {meth : Method} {c : Code} {D : va_G} {ca : Nat → ClassId} {b nL : Nat} {Q : State → Prop} {cells slots : Nat} {T : Tx} {V : Vx} {pc : Nat} {L : List (Nat × Value)} {st : List Value} {cc : ByteArray} {ret : Option FieldType} {own mn : String}
theorem g_iconst (G : GX p s m meth c cc nL ret own mn D ca b) {n : Int} {v : Int32} (hdg : decode cc pc = .ok (.iconst n, 1)) (hv : Int32.ofInt n = v) (k : WG p l e R s m args below meth c D ca b nL Q cells slots T V (pc + 1) L (.int v :: st)) : WG p l e R s m args below meth c D ca b nL Q cells slots T V pc L st :=
  fun H locs ls hW hl => lv_iconst G.1 G.2.1 hdg hv (k H locs ls hW hl)
theorem g_bipush (G : GX p s m meth c cc nL ret own mn D ca b) {n : Int} {v : Int32} (hdg : decode cc pc = .ok (.bipush n, 2)) (hv : (Int8.ofInt n).toInt32 = v) (k : WG p l e R s m args below meth c D ca b nL Q cells slots T V (pc + 2) L (.int v :: st)) : WG p l e R s m args below meth c D ca b nL Q cells slots T V pc L st :=
  fun H locs ls hW hl => lv_bipush G.1 G.2.1 hdg hv (k H locs ls hW hl)
theorem g_sipush (G : GX p s m meth c cc nL ret own mn D ca b) {n : Int} {v : Int32} (hdg : decode cc pc = .ok (.sipush n, 3)) (hv : (Int16.ofInt n).toInt32 = v) (k : WG p l e R s m args below meth c D ca b nL Q cells slots T V (pc + 3) L (.int v :: st)) : WG p l e R s m args below meth c D ca b nL Q cells slots T V pc L st :=
  fun H locs ls hW hl => lv_sipush G.1 G.2.1 hdg hv (k H locs ls hW hl)
theorem g_lconst (G : GX p s m meth c cc nL ret own mn D ca b) {n : Fin 2} {v : Int64} (hdg : decode cc pc = .ok (.lconst n, 1)) (hv : Int64.ofNat (n : Nat) = v) (k : WG p l e R s m args below meth c D ca b nL Q cells slots T V (pc + 1) L (.long v :: st)) : WG p l e R s m args below meth c D ca b nL Q cells slots T V pc L st :=
  fun H locs ls hW hl => lv_lconst G.1 G.2.1 hdg hv (k H locs ls hW hl)
theorem g_ldc (G : GX p s m meth c cc nL ret own mn D ca b) {index : Nat} {v : Int32} (hconst : (Jvm.Cond.constant own index v).before args s = true) (hdg : decode cc pc = .ok (.ldc index, 2)) (k : WG p l e R s m args below meth c D ca b nL Q cells slots T V (pc + 2) L (.int v :: st)) : WG p l e R s m args below meth c D ca b nL Q cells slots T V pc L st :=
  fun H locs ls hW hl => lv_ldc G.1 G.2.1 G.2.2.2.1 hconst hdg (k H locs ls hW hl)
theorem g_ldc2 (G : GX p s m meth c cc nL ret own mn D ca b) {index : Nat} {v : Int64} (hconst : (Jvm.Cond.constantLong own index v).before args s = true) (hdg : decode cc pc = .ok (.ldc2_w index, 3)) (k : WG p l e R s m args below meth c D ca b nL Q cells slots T V (pc + 3) L (.long v :: st)) : WG p l e R s m args below meth c D ca b nL Q cells slots T V pc L st :=
  fun H locs ls hW hl => lv_ldc2 G.1 G.2.1 G.2.2.2.1 hconst hdg (k H locs ls hW hl)
theorem g_null (G : GX p s m meth c cc nL ret own mn D ca b) (hdg : decode cc pc = .ok (.aconst_null, 1)) (k : WG p l e R s m args below meth c D ca b nL Q cells slots T V (pc + 1) L (rv b none :: st)) : WG p l e R s m args below meth c D ca b nL Q cells slots T V pc L st :=
  fun H locs ls hW hl => lv_null G.1 G.2.1 hdg (k H locs ls hW hl)
theorem g_iload_n (G : GX p s m meth c cc nL ret own mn D ca b) {k : Fin 4} {x : Int32} (hdg : decode cc pc = .ok (.iload_n k, 1)) (j : Nat) (hl : L[j]? = some ((k : Nat), .int x)) (kk : WG p l e R s m args below meth c D ca b nL Q cells slots T V (pc + 1) L (.int x :: st)) : WG p l e R s m args below meth c D ca b nL Q cells slots T V pc L st :=
  fun H locs ls hW h => lv_iload_n G.1 G.2.1 hdg rfl (lv_at h j hl) (kk H locs ls hW h)
theorem g_iload (G : GX p s m meth c cc nL ret own mn D ca b) {i : Nat} {x : Int32} (hdg : decode cc pc = .ok (.iload i, 2)) (j : Nat) (hl : L[j]? = some (i, .int x)) (kk : WG p l e R s m args below meth c D ca b nL Q cells slots T V (pc + 2) L (.int x :: st)) : WG p l e R s m args below meth c D ca b nL Q cells slots T V pc L st :=
  fun H locs ls hW h => lv_iload G.1 G.2.1 hdg (lv_at h j hl) (kk H locs ls hW h)
theorem g_lload_n (G : GX p s m meth c cc nL ret own mn D ca b) {k : Fin 4} {x : Int64} (hdg : decode cc pc = .ok (.lload_n k, 1)) (j : Nat) (hl : L[j]? = some ((k : Nat), .long x)) (kk : WG p l e R s m args below meth c D ca b nL Q cells slots T V (pc + 1) L (.long x :: st)) : WG p l e R s m args below meth c D ca b nL Q cells slots T V pc L st :=
  fun H locs ls hW h => lv_lload_n G.1 G.2.1 hdg rfl (lv_at h j hl) (kk H locs ls hW h)
theorem g_lload (G : GX p s m meth c cc nL ret own mn D ca b) {i : Nat} {x : Int64} (hdg : decode cc pc = .ok (.lload i, 2)) (j : Nat) (hl : L[j]? = some (i, .long x)) (kk : WG p l e R s m args below meth c D ca b nL Q cells slots T V (pc + 2) L (.long x :: st)) : WG p l e R s m args below meth c D ca b nL Q cells slots T V pc L st :=
  fun H locs ls hW h => lv_lload G.1 G.2.1 hdg (lv_at h j hl) (kk H locs ls hW h)
theorem g_aload_n (G : GX p s m meth c cc nL ret own mn D ca b) {k : Fin 4} {o : Option Nat} (hdg : decode cc pc = .ok (.aload_n k, 1)) (j : Nat) (hl : L[j]? = some ((k : Nat), rv b o)) (kk : WG p l e R s m args below meth c D ca b nL Q cells slots T V (pc + 1) L (rv b o :: st)) : WG p l e R s m args below meth c D ca b nL Q cells slots T V pc L st := by
  intro H locs ls hW h
  cases o with
  | none => exact lv_aload_nN G.1 G.2.1 hdg rfl (lv_at h j hl) (kk H locs ls hW h)
  | some a => exact lv_aload_n G.1 G.2.1 hdg rfl (lv_at h j hl) (kk H locs ls hW h)
theorem g_aload (G : GX p s m meth c cc nL ret own mn D ca b) {i : Nat} {o : Option Nat} (hdg : decode cc pc = .ok (.aload i, 2)) (j : Nat) (hl : L[j]? = some (i, rv b o)) (kk : WG p l e R s m args below meth c D ca b nL Q cells slots T V (pc + 2) L (rv b o :: st)) : WG p l e R s m args below meth c D ca b nL Q cells slots T V pc L st := by
  intro H locs ls hW h
  cases o with
  | none => exact lv_aloadN G.1 G.2.1 hdg (lv_at h j hl) (kk H locs ls hW h)
  | some a => exact lv_aload G.1 G.2.1 hdg (lv_at h j hl) (kk H locs ls hW h)
theorem g_istore_n (G : GX p s m meth c cc nL ret own mn D ca b) {k : Fin 4} {x : Int32} {L' : List (Nat × Value)} (hdg : decode cc pc = .ok (.istore_n k, 1)) (hn : (k : Nat) < nL) (hl : ((k : Nat), Value.int x) :: L.filter (fun q => !(q.1 == (k : Nat)) && !(q.1 + 1 == (k : Nat) && q.2.category == 2)) = L') (kk : WG p l e R s m args below meth c D ca b nL Q cells slots T V (pc + 1) L' st) : WG p l e R s m args below meth c D ca b nL Q cells slots T V pc L (.int x :: st) :=
  fun H locs ls hW h => lv_istore_n G.1 G.2.1 hdg rfl h hn hl (fun ls' h' => kk H locs ls' hW h')
theorem g_istore (G : GX p s m meth c cc nL ret own mn D ca b) {i : Nat} {x : Int32} {L' : List (Nat × Value)} (hdg : decode cc pc = .ok (.istore i, 2)) (hn : i < nL) (hl : (i, Value.int x) :: L.filter (fun q => !(q.1 == i) && !(q.1 + 1 == i && q.2.category == 2)) = L') (kk : WG p l e R s m args below meth c D ca b nL Q cells slots T V (pc + 2) L' st) : WG p l e R s m args below meth c D ca b nL Q cells slots T V pc L (.int x :: st) :=
  fun H locs ls hW h => lv_istore G.1 G.2.1 hdg h hn hl (fun ls' h' => kk H locs ls' hW h')
theorem g_lstore_n (G : GX p s m meth c cc nL ret own mn D ca b) {k : Fin 4} {x : Int64} {L' : List (Nat × Value)} (hdg : decode cc pc = .ok (.lstore_n k, 1)) (hn : (k : Nat) + 1 < nL) (hl : ((k : Nat), Value.long x) :: L.filter (fun q => !(q.1 == (k : Nat)) && (!(q.1 == (k : Nat) + 1) && !(q.1 + 1 == (k : Nat) && q.2.category == 2))) = L') (kk : WG p l e R s m args below meth c D ca b nL Q cells slots T V (pc + 1) L' st) : WG p l e R s m args below meth c D ca b nL Q cells slots T V pc L (.long x :: st) :=
  fun H locs ls hW h => lv_lstore_n G.1 G.2.1 hdg rfl h hn hl (fun ls' h' => kk H locs ls' hW h')
theorem g_astore_n (G : GX p s m meth c cc nL ret own mn D ca b) {k : Fin 4} {o : Option Nat} {L' : List (Nat × Value)} (hdg : decode cc pc = .ok (.astore_n k, 1)) (hn : (k : Nat) < nL) (hl : ((k : Nat), rv b o) :: L.filter (fun q => !(q.1 == (k : Nat)) && !(q.1 + 1 == (k : Nat) && q.2.category == 2)) = L') (kk : WG p l e R s m args below meth c D ca b nL Q cells slots T V (pc + 1) L' st) : WG p l e R s m args below meth c D ca b nL Q cells slots T V pc L (rv b o :: st) := by
  intro H locs ls hW h
  cases o with
  | none => exact lv_astore_nN G.1 G.2.1 hdg rfl h hn hl (fun ls' h' => kk H locs ls' hW h')
  | some a => exact lv_astore_n G.1 G.2.1 hdg rfl h hn hl (fun ls' h' => kk H locs ls' hW h')
theorem g_astore (G : GX p s m meth c cc nL ret own mn D ca b) {i : Nat} {o : Option Nat} {L' : List (Nat × Value)} (hdg : decode cc pc = .ok (.astore i, 2)) (hn : i < nL) (hl : (i, rv b o) :: L.filter (fun q => !(q.1 == i) && !(q.1 + 1 == i && q.2.category == 2)) = L') (kk : WG p l e R s m args below meth c D ca b nL Q cells slots T V (pc + 2) L' st) : WG p l e R s m args below meth c D ca b nL Q cells slots T V pc L (rv b o :: st) := by
  intro H locs ls hW h
  cases o with
  | none => exact lv_astoreN G.1 G.2.1 hdg h hn hl (fun ls' h' => kk H locs ls' hW h')
  | some a => exact lv_astore G.1 G.2.1 hdg h hn hl (fun ls' h' => kk H locs ls' hW h')
theorem g_iinc (G : GX p s m meth c cc nL ret own mn D ca b) {i : Nat} {n : Int} {x v : Int32} {L' : List (Nat × Value)} (hdg : decode cc pc = .ok (.iinc i n, 3)) (j : Nat) (hj : L[j]? = some (i, .int x)) (hv : x + Int32.ofInt n = v) (hn : i < nL) (hl : (i, Value.int v) :: L.filter (fun q => !(q.1 == i) && !(q.1 + 1 == i && q.2.category == 2)) = L') (kk : WG p l e R s m args below meth c D ca b nL Q cells slots T V (pc + 3) L' st) : WG p l e R s m args below meth c D ca b nL Q cells slots T V pc L st :=
  fun H locs ls hW h => lv_iinc G.1 G.2.1 hdg h hj hv hn hl (fun ls' h' => kk H locs ls' hW h')
theorem g_iadd (G : GX p s m meth c cc nL ret own mn D ca b) {x y : Int32} (hdg : decode cc pc = .ok (.iadd, 1)) (k : WG p l e R s m args below meth c D ca b nL Q cells slots T V (pc + 1) L (.int (x + y) :: st)) : WG p l e R s m args below meth c D ca b nL Q cells slots T V pc L (.int y :: .int x :: st) :=
  fun H locs ls hW hl => lv_iadd G.1 G.2.1 hdg (k H locs ls hW hl)
theorem g_isub (G : GX p s m meth c cc nL ret own mn D ca b) {x y : Int32} (hdg : decode cc pc = .ok (.isub, 1)) (k : WG p l e R s m args below meth c D ca b nL Q cells slots T V (pc + 1) L (.int (x - y) :: st)) : WG p l e R s m args below meth c D ca b nL Q cells slots T V pc L (.int y :: .int x :: st) :=
  fun H locs ls hW hl => lv_isub G.1 G.2.1 hdg (k H locs ls hW hl)
theorem g_imul (G : GX p s m meth c cc nL ret own mn D ca b) {x y : Int32} (hdg : decode cc pc = .ok (.imul, 1)) (k : WG p l e R s m args below meth c D ca b nL Q cells slots T V (pc + 1) L (.int (x * y) :: st)) : WG p l e R s m args below meth c D ca b nL Q cells slots T V pc L (.int y :: .int x :: st) :=
  fun H locs ls hW hl => lv_imul G.1 G.2.1 hdg (k H locs ls hW hl)
theorem g_iand (G : GX p s m meth c cc nL ret own mn D ca b) {x y : Int32} (hdg : decode cc pc = .ok (.iand, 1)) (k : WG p l e R s m args below meth c D ca b nL Q cells slots T V (pc + 1) L (.int (x &&& y) :: st)) : WG p l e R s m args below meth c D ca b nL Q cells slots T V pc L (.int y :: .int x :: st) :=
  fun H locs ls hW hl => lv_iand G.1 G.2.1 hdg (k H locs ls hW hl)
theorem g_ior (G : GX p s m meth c cc nL ret own mn D ca b) {x y : Int32} (hdg : decode cc pc = .ok (.ior, 1)) (k : WG p l e R s m args below meth c D ca b nL Q cells slots T V (pc + 1) L (.int (x ||| y) :: st)) : WG p l e R s m args below meth c D ca b nL Q cells slots T V pc L (.int y :: .int x :: st) :=
  fun H locs ls hW hl => lv_ior G.1 G.2.1 hdg (k H locs ls hW hl)
theorem g_ixor (G : GX p s m meth c cc nL ret own mn D ca b) {x y : Int32} (hdg : decode cc pc = .ok (.ixor, 1)) (k : WG p l e R s m args below meth c D ca b nL Q cells slots T V (pc + 1) L (.int (x ^^^ y) :: st)) : WG p l e R s m args below meth c D ca b nL Q cells slots T V pc L (.int y :: .int x :: st) :=
  fun H locs ls hW hl => lv_ixor G.1 G.2.1 hdg (k H locs ls hW hl)
theorem g_irem (G : GX p s m meth c cc nL ret own mn D ca b) {x y : Int32} (hdg : decode cc pc = .ok (.irem, 1)) (hne : ¬ y = 0) (k : WG p l e R s m args below meth c D ca b nL Q cells slots T V (pc + 1) L (.int (x - x / y * y) :: st)) : WG p l e R s m args below meth c D ca b nL Q cells slots T V pc L (.int y :: .int x :: st) :=
  fun H locs ls hW hl => lv_irem G.1 G.2.1 hdg hne (k H locs ls hW hl)
theorem g_ishl (G : GX p s m meth c cc nL ret own mn D ca b) {x y : Int32} (hdg : decode cc pc = .ok (.ishl, 1)) (k : WG p l e R s m args below meth c D ca b nL Q cells slots T V (pc + 1) L (.int (x <<< (y &&& 31)) :: st)) : WG p l e R s m args below meth c D ca b nL Q cells slots T V pc L (.int y :: .int x :: st) :=
  fun H locs ls hW hl => lv_ishl G.1 G.2.1 hdg (k H locs ls hW hl)
theorem g_ishr (G : GX p s m meth c cc nL ret own mn D ca b) {x y : Int32} (hdg : decode cc pc = .ok (.ishr, 1)) (k : WG p l e R s m args below meth c D ca b nL Q cells slots T V (pc + 1) L (.int (x >>> (y &&& 31)) :: st)) : WG p l e R s m args below meth c D ca b nL Q cells slots T V pc L (.int y :: .int x :: st) :=
  fun H locs ls hW hl => lv_ishr G.1 G.2.1 hdg (k H locs ls hW hl)
theorem g_iushr (G : GX p s m meth c cc nL ret own mn D ca b) {x y : Int32} (hdg : decode cc pc = .ok (.iushr, 1)) (k : WG p l e R s m args below meth c D ca b nL Q cells slots T V (pc + 1) L (.int (x.toUInt32 >>> (y.toUInt32 &&& Int32.toUInt32 31)).toInt32 :: st)) : WG p l e R s m args below meth c D ca b nL Q cells slots T V pc L (.int y :: .int x :: st) :=
  fun H locs ls hW hl => lv_iushr G.1 G.2.1 hdg rfl (k H locs ls hW hl)
theorem g_ladd (G : GX p s m meth c cc nL ret own mn D ca b) {x y : Int64} (hdg : decode cc pc = .ok (.ladd, 1)) (k : WG p l e R s m args below meth c D ca b nL Q cells slots T V (pc + 1) L (.long (x + y) :: st)) : WG p l e R s m args below meth c D ca b nL Q cells slots T V pc L (.long y :: .long x :: st) :=
  fun H locs ls hW hl => lv_ladd G.1 G.2.1 hdg (k H locs ls hW hl)
theorem g_lmul (G : GX p s m meth c cc nL ret own mn D ca b) {x y : Int64} (hdg : decode cc pc = .ok (.lmul, 1)) (k : WG p l e R s m args below meth c D ca b nL Q cells slots T V (pc + 1) L (.long (x * y) :: st)) : WG p l e R s m args below meth c D ca b nL Q cells slots T V pc L (.long y :: .long x :: st) :=
  fun H locs ls hW hl => lv_lmul G.1 G.2.1 hdg (k H locs ls hW hl)
theorem g_lcmp (G : GX p s m meth c cc nL ret own mn D ca b) {x y : Int64} (hdg : decode cc pc = .ok (.lcmp, 1)) (k : WG p l e R s m args below meth c D ca b nL Q cells slots T V (pc + 1) L (.int (lg_cmp x y) :: st)) : WG p l e R s m args below meth c D ca b nL Q cells slots T V pc L (.long y :: .long x :: st) :=
  fun H locs ls hW hl => W.lcmp G.1 G.2.1 hdg (k H locs ls hW hl)
theorem g_i2l (G : GX p s m meth c cc nL ret own mn D ca b) {x : Int32} (hdg : decode cc pc = .ok (.i2l, 1)) (k : WG p l e R s m args below meth c D ca b nL Q cells slots T V (pc + 1) L (.long x.toInt64 :: st)) : WG p l e R s m args below meth c D ca b nL Q cells slots T V pc L (.int x :: st) :=
  fun H locs ls hW hl => lv_i2l G.1 G.2.1 hdg rfl (k H locs ls hW hl)
theorem g_i2c (G : GX p s m meth c cc nL ret own mn D ca b) {x : Int32} (hdg : decode cc pc = .ok (.i2c, 1)) (k : WG p l e R s m args below meth c D ca b nL Q cells slots T V (pc + 1) L (.int (x.toUInt32 % 65536).toInt32 :: st)) : WG p l e R s m args below meth c D ca b nL Q cells slots T V pc L (.int x :: st) :=
  fun H locs ls hW hl => lv_i2c G.1 G.2.1 hdg rfl (k H locs ls hW hl)
theorem g_dup (G : GX p s m meth c cc nL ret own mn D ca b) {va : Value} (hdg : decode cc pc = .ok (.dup, 1)) (hc : va.category = 1) (k : WG p l e R s m args below meth c D ca b nL Q cells slots T V (pc + 1) L (va :: va :: st)) : WG p l e R s m args below meth c D ca b nL Q cells slots T V pc L (va :: st) :=
  fun H locs ls hW hl => lv_dup G.1 G.2.1 hdg hc (k H locs ls hW hl)
theorem g_pop (G : GX p s m meth c cc nL ret own mn D ca b) {va : Value} (hdg : decode cc pc = .ok (.pop, 1)) (hc : va.category = 1) (k : WG p l e R s m args below meth c D ca b nL Q cells slots T V (pc + 1) L st) : WG p l e R s m args below meth c D ca b nL Q cells slots T V pc L (va :: st) :=
  fun H locs ls hW hl => lv_pop G.1 G.2.1 hdg hc (k H locs ls hW hl)
theorem g_dup2 (G : GX p s m meth c cc nL ret own mn D ca b) {va vb : Value} (hdg : decode cc pc = .ok (.dup2, 1)) (hc : va.category = 1) (hc2 : vb.category = 1) (k : WG p l e R s m args below meth c D ca b nL Q cells slots T V (pc + 1) L (va :: vb :: va :: vb :: st)) : WG p l e R s m args below meth c D ca b nL Q cells slots T V pc L (va :: vb :: st) :=
  fun H locs ls hW hl => lv_dup2_11 G.1 G.2.1 hdg hc hc2 (k H locs ls hW hl)
theorem g_goto (G : GX p s m meth c cc nL ret own mn D ca b) {off : Int} (tgt : Nat) (hdg : decode cc pc = .ok (.goto off, 3)) (ht : (pc : Int) + off = (tgt : Int)) (k : WG p l e R s m args below meth c D ca b nL Q cells slots T V tgt L st) : WG p l e R s m args below meth c D ca b nL Q cells slots T V pc L st :=
  fun H locs ls hW hl => lv_goto G.1 G.2.1 hdg ht (k H locs ls hW hl)
theorem g_if_eq (G : GX p s m meth c cc nL ret own mn D ca b) {x : Int32} {off : Int} (tgt : Nat) (hdg : decode cc pc = .ok (.ifCond .eq off, 3)) (ht : (pc : Int) + off = (tgt : Int)) (kt : x = 0 → WG p l e R s m args below meth c D ca b nL Q cells slots T V tgt L st) (kf : ¬ x = 0 → WG p l e R s m args below meth c D ca b nL Q cells slots T V (pc + 3) L st) : WG p l e R s m args below meth c D ca b nL Q cells slots T V pc L (.int x :: st) :=
  fun H locs ls hW hl => lv_if_eq G.1 G.2.1 hdg ht (fun h => kt h H locs ls hW hl) (fun h => kf h H locs ls hW hl)
theorem g_icmp_eq (G : GX p s m meth c cc nL ret own mn D ca b) {x y : Int32} {off : Int} (tgt : Nat) (hdg : decode cc pc = .ok (.if_icmp .eq off, 3)) (ht : (pc : Int) + off = (tgt : Int)) (kt : x = y → WG p l e R s m args below meth c D ca b nL Q cells slots T V tgt L st) (kf : ¬ x = y → WG p l e R s m args below meth c D ca b nL Q cells slots T V (pc + 3) L st) : WG p l e R s m args below meth c D ca b nL Q cells slots T V pc L (.int y :: .int x :: st) :=
  fun H locs ls hW hl => lv_icmp_eq G.1 G.2.1 hdg ht (fun h => kt h H locs ls hW hl) (fun h => kf h H locs ls hW hl)
theorem g_if_ne (G : GX p s m meth c cc nL ret own mn D ca b) {x : Int32} {off : Int} (tgt : Nat) (hdg : decode cc pc = .ok (.ifCond .ne off, 3)) (ht : (pc : Int) + off = (tgt : Int)) (kt : ¬ x = 0 → WG p l e R s m args below meth c D ca b nL Q cells slots T V tgt L st) (kf : x = 0 → WG p l e R s m args below meth c D ca b nL Q cells slots T V (pc + 3) L st) : WG p l e R s m args below meth c D ca b nL Q cells slots T V pc L (.int x :: st) :=
  fun H locs ls hW hl => lv_if_ne G.1 G.2.1 hdg ht (fun h => kt h H locs ls hW hl) (fun h => kf h H locs ls hW hl)
theorem g_icmp_ne (G : GX p s m meth c cc nL ret own mn D ca b) {x y : Int32} {off : Int} (tgt : Nat) (hdg : decode cc pc = .ok (.if_icmp .ne off, 3)) (ht : (pc : Int) + off = (tgt : Int)) (kt : ¬ x = y → WG p l e R s m args below meth c D ca b nL Q cells slots T V tgt L st) (kf : x = y → WG p l e R s m args below meth c D ca b nL Q cells slots T V (pc + 3) L st) : WG p l e R s m args below meth c D ca b nL Q cells slots T V pc L (.int y :: .int x :: st) :=
  fun H locs ls hW hl => lv_icmp_ne G.1 G.2.1 hdg ht (fun h => kt h H locs ls hW hl) (fun h => kf h H locs ls hW hl)
theorem g_if_lt (G : GX p s m meth c cc nL ret own mn D ca b) {x : Int32} {off : Int} (tgt : Nat) (hdg : decode cc pc = .ok (.ifCond .lt off, 3)) (ht : (pc : Int) + off = (tgt : Int)) (kt : x < 0 → WG p l e R s m args below meth c D ca b nL Q cells slots T V tgt L st) (kf : ¬ x < 0 → WG p l e R s m args below meth c D ca b nL Q cells slots T V (pc + 3) L st) : WG p l e R s m args below meth c D ca b nL Q cells slots T V pc L (.int x :: st) :=
  fun H locs ls hW hl => lv_if_lt G.1 G.2.1 hdg ht (fun h => kt h H locs ls hW hl) (fun h => kf h H locs ls hW hl)
theorem g_icmp_lt (G : GX p s m meth c cc nL ret own mn D ca b) {x y : Int32} {off : Int} (tgt : Nat) (hdg : decode cc pc = .ok (.if_icmp .lt off, 3)) (ht : (pc : Int) + off = (tgt : Int)) (kt : x < y → WG p l e R s m args below meth c D ca b nL Q cells slots T V tgt L st) (kf : ¬ x < y → WG p l e R s m args below meth c D ca b nL Q cells slots T V (pc + 3) L st) : WG p l e R s m args below meth c D ca b nL Q cells slots T V pc L (.int y :: .int x :: st) :=
  fun H locs ls hW hl => lv_icmp_lt G.1 G.2.1 hdg ht (fun h => kt h H locs ls hW hl) (fun h => kf h H locs ls hW hl)
theorem g_if_ge (G : GX p s m meth c cc nL ret own mn D ca b) {x : Int32} {off : Int} (tgt : Nat) (hdg : decode cc pc = .ok (.ifCond .ge off, 3)) (ht : (pc : Int) + off = (tgt : Int)) (kt : 0 ≤ x → WG p l e R s m args below meth c D ca b nL Q cells slots T V tgt L st) (kf : ¬ 0 ≤ x → WG p l e R s m args below meth c D ca b nL Q cells slots T V (pc + 3) L st) : WG p l e R s m args below meth c D ca b nL Q cells slots T V pc L (.int x :: st) :=
  fun H locs ls hW hl => lv_if_ge G.1 G.2.1 hdg ht (fun h => kt h H locs ls hW hl) (fun h => kf h H locs ls hW hl)
theorem g_icmp_ge (G : GX p s m meth c cc nL ret own mn D ca b) {x y : Int32} {off : Int} (tgt : Nat) (hdg : decode cc pc = .ok (.if_icmp .ge off, 3)) (ht : (pc : Int) + off = (tgt : Int)) (kt : y ≤ x → WG p l e R s m args below meth c D ca b nL Q cells slots T V tgt L st) (kf : ¬ y ≤ x → WG p l e R s m args below meth c D ca b nL Q cells slots T V (pc + 3) L st) : WG p l e R s m args below meth c D ca b nL Q cells slots T V pc L (.int y :: .int x :: st) :=
  fun H locs ls hW hl => lv_icmp_ge G.1 G.2.1 hdg ht (fun h => kt h H locs ls hW hl) (fun h => kf h H locs ls hW hl)
theorem g_if_gt (G : GX p s m meth c cc nL ret own mn D ca b) {x : Int32} {off : Int} (tgt : Nat) (hdg : decode cc pc = .ok (.ifCond .gt off, 3)) (ht : (pc : Int) + off = (tgt : Int)) (kt : 0 < x → WG p l e R s m args below meth c D ca b nL Q cells slots T V tgt L st) (kf : ¬ 0 < x → WG p l e R s m args below meth c D ca b nL Q cells slots T V (pc + 3) L st) : WG p l e R s m args below meth c D ca b nL Q cells slots T V pc L (.int x :: st) :=
  fun H locs ls hW hl => lv_if_gt G.1 G.2.1 hdg ht (fun h => kt h H locs ls hW hl) (fun h => kf h H locs ls hW hl)
theorem g_icmp_gt (G : GX p s m meth c cc nL ret own mn D ca b) {x y : Int32} {off : Int} (tgt : Nat) (hdg : decode cc pc = .ok (.if_icmp .gt off, 3)) (ht : (pc : Int) + off = (tgt : Int)) (kt : y < x → WG p l e R s m args below meth c D ca b nL Q cells slots T V tgt L st) (kf : ¬ y < x → WG p l e R s m args below meth c D ca b nL Q cells slots T V (pc + 3) L st) : WG p l e R s m args below meth c D ca b nL Q cells slots T V pc L (.int y :: .int x :: st) :=
  fun H locs ls hW hl => lv_icmp_gt G.1 G.2.1 hdg ht (fun h => kt h H locs ls hW hl) (fun h => kf h H locs ls hW hl)
theorem g_if_le (G : GX p s m meth c cc nL ret own mn D ca b) {x : Int32} {off : Int} (tgt : Nat) (hdg : decode cc pc = .ok (.ifCond .le off, 3)) (ht : (pc : Int) + off = (tgt : Int)) (kt : x ≤ 0 → WG p l e R s m args below meth c D ca b nL Q cells slots T V tgt L st) (kf : ¬ x ≤ 0 → WG p l e R s m args below meth c D ca b nL Q cells slots T V (pc + 3) L st) : WG p l e R s m args below meth c D ca b nL Q cells slots T V pc L (.int x :: st) :=
  fun H locs ls hW hl => lv_if_le G.1 G.2.1 hdg ht (fun h => kt h H locs ls hW hl) (fun h => kf h H locs ls hW hl)
theorem g_icmp_le (G : GX p s m meth c cc nL ret own mn D ca b) {x y : Int32} {off : Int} (tgt : Nat) (hdg : decode cc pc = .ok (.if_icmp .le off, 3)) (ht : (pc : Int) + off = (tgt : Int)) (kt : x ≤ y → WG p l e R s m args below meth c D ca b nL Q cells slots T V tgt L st) (kf : ¬ x ≤ y → WG p l e R s m args below meth c D ca b nL Q cells slots T V (pc + 3) L st) : WG p l e R s m args below meth c D ca b nL Q cells slots T V pc L (.int y :: .int x :: st) :=
  fun H locs ls hW hl => lv_icmp_le G.1 G.2.1 hdg ht (fun h => kt h H locs ls hW hl) (fun h => kf h H locs ls hW hl)
theorem g_ifnullN (G : GX p s m meth c cc nL ret own mn D ca b) {off : Int} (tgt : Nat) (hdg : decode cc pc = .ok (.ifnull off, 3)) (ht : (pc : Int) + off = (tgt : Int)) (k : WG p l e R s m args below meth c D ca b nL Q cells slots T V tgt L st) : WG p l e R s m args below meth c D ca b nL Q cells slots T V pc L (rv b none :: st) :=
  fun H locs ls hW hl => lv_ifnullN G.1 G.2.1 hdg ht (k H locs ls hW hl)
theorem g_ifnullS (G : GX p s m meth c cc nL ret own mn D ca b) {off : Int} {a : Nat} (hdg : decode cc pc = .ok (.ifnull off, 3)) (k : WG p l e R s m args below meth c D ca b nL Q cells slots T V (pc + 3) L st) : WG p l e R s m args below meth c D ca b nL Q cells slots T V pc L (rv b (some a) :: st) :=
  fun H locs ls hW hl => lv_ifnull G.1 G.2.1 hdg (k H locs ls hW hl)
theorem g_ifnonnullN (G : GX p s m meth c cc nL ret own mn D ca b) {off : Int} (hdg : decode cc pc = .ok (.ifnonnull off, 3)) (k : WG p l e R s m args below meth c D ca b nL Q cells slots T V (pc + 3) L st) : WG p l e R s m args below meth c D ca b nL Q cells slots T V pc L (rv b none :: st) :=
  fun H locs ls hW hl => lv_ifnonnullN G.1 G.2.1 hdg (k H locs ls hW hl)
theorem g_ifnonnullS (G : GX p s m meth c cc nL ret own mn D ca b) {off : Int} {a : Nat} (tgt : Nat) (hdg : decode cc pc = .ok (.ifnonnull off, 3)) (ht : (pc : Int) + off = (tgt : Int)) (k : WG p l e R s m args below meth c D ca b nL Q cells slots T V tgt L st) : WG p l e R s m args below meth c D ca b nL Q cells slots T V pc L (rv b (some a) :: st) :=
  fun H locs ls hW hl => lv_ifnonnull G.1 G.2.1 hdg ht (k H locs ls hW hl)
theorem g_tabO (G : GX p s m meth c cc nL ret own mn D ca b) {dflt lo hi : Int} {offs : Array Int} {len : Nat} {x : Int32} (tgt : Nat) (hdg : decode cc pc = .ok (.tableswitch dflt lo hi offs, len)) (h : x.toInt < lo ∨ hi < x.toInt) (ht : (pc : Int) + dflt = (tgt : Int)) (k : WG p l e R s m args below meth c D ca b nL Q cells slots T V tgt L st) : WG p l e R s m args below meth c D ca b nL Q cells slots T V pc L (.int x :: st) :=
  fun H locs ls hW hl => lv_tableOut G.1 G.2.1 hdg h ht (k H locs ls hW hl)
theorem g_tabI (G : GX p s m meth c cc nL ret own mn D ca b) {dflt lo hi off : Int} {offs : Array Int} {len : Nat} {x : Int32} (tgt : Nat) (hdg : decode cc pc = .ok (.tableswitch dflt lo hi offs, len)) (h1 : ¬ x.toInt < lo) (h2 : ¬ hi < x.toInt) (ho : offs[(x.toInt - lo).toNat]? = some off) (ht : (pc : Int) + off = (tgt : Int)) (k : WG p l e R s m args below meth c D ca b nL Q cells slots T V tgt L st) : WG p l e R s m args below meth c D ca b nL Q cells slots T V pc L (.int x :: st) :=
  fun H locs ls hW hl => lv_tableIn G.1 G.2.1 hdg h1 h2 ho ht (k H locs ls hW hl)
theorem g_look (G : GX p s m meth c cc nL ret own mn D ca b) {dflt off : Int} {ps : Array (Int × Int)} {len : Nat} {x : Int32} (tgt : Nat) (hdg : decode cc pc = .ok (.lookupswitch dflt ps, len)) (hp : (ps.toList.zip (ps.toList.drop 1)).all (fun (a, next) => a.1 < next.1) = true) (ho : Op.lookupswitch.offset ps.toList dflt x.toInt = off) (ht : (pc : Int) + off = (tgt : Int)) (k : WG p l e R s m args below meth c D ca b nL Q cells slots T V tgt L st) : WG p l e R s m args below meth c D ca b nL Q cells slots T V pc L (.int x :: st) :=
  fun H locs ls hW hl => lv_lookup G.1 G.2.1 hdg hp ho ht (k H locs ls hW hl)
end RW
end
section
section HP
variable {p : Program} {l : Launch} {e : Env} {R : Room} {s : State} {m : MethodId} {args : Array Value} {below : List Frame} {meth : Method} {c : Code} {D : va_G} {ca : Nat → ClassId} {b nL : Nat} {Q : State → Prop} {cells slots : Nat} {T : Tx} {V : Vx} {pc : Nat} {L : List (Nat × Value)} {st : List Value} {cc : ByteArray} {ret : Option FieldType} {own mn : String}
theorem cs_obj {kc N : Nat} {C : String} {Tt : u_T} {ty : Nat → FieldType} {H0 H : Heap} {locs : List Loc} (ci : CI kc C Tt N ty) (hW : GW D ca b T V H0 cells H locs) {a : Nat} (hk : kd T a = kc) : (cs b ca T V)[a]? = some (b + a, .inr (kc, (List.range (nf kc)).map (cv b V kc a))) := by
  rw [cs_at (tp_lt hW hk (by have := ci.2.2.1; omega)), ce_o hk ci.2.2.1]
theorem fs_at {kc k : Nat} (b : Nat) (V : Vx) (a : Nat) (h : k < nf kc) : ((List.range (nf kc)).map (cv b V kc a))[k]? = some (cv b V kc a k) := by simp [h]
theorem cv_I {kc k : Nat} (b : Nat) (V : Vx) (a : Nat) (h : isRf kc k = false) : cv b V kc a k = .int (fI V (100 * kc + k) a) := by simp [cv, h]
theorem cv_R {kc k : Nat} (b : Nat) (V : Vx) (a : Nat) (h : isRf kc k = true) : cv b V kc a k = rv b (fR V (100 * kc + k) a) := by simp [cv, h]
theorem g_getI (G : GX p s m meth c cc nL ret own mn D ca b) {kc k N index a f : Nat} {C : String} {Tt : u_T} {ty : Nat → FieldType} (ci : CI kc C Tt N ty) (hws : ∀ w ∈ u_ws C Tt N, w.before args s = true) (hn : k < N) (hI : isRf kc k = false) (hf : 100 * kc + k = f) (hk : kd T a = kc) (hlink : (Cond.fieldLink own index (Tt k).1 (Tt k).2.1 (Tt k).2.2.1).before args s = true) (hdg : decode cc pc = .ok (.getfield index, 3)) (kk : WG p l e R s m args below meth c D ca b nL Q cells slots T V (pc + 3) L (.int (fI V f a) :: st)) : WG p l e R s m args below meth c D ca b nL Q cells slots T V pc L (rv b (some a) :: st) := by
  subst hf
  intro H locs ls hW hl
  exact va_get (v := .int (fI V (100 * kc + k) a)) G.1 G.2.1 hws (fun _ h => h) G.2.2.2.1 G.2.2.2.2.2.1 hW.1 a (cs_obj ci hW hk) ci.1 k hn hlink (fun _ h => h) (by rw [fs_at b V a (by rw [ci.2.1]; exact hn), cv_I b V a hI]) hdg (kk H locs ls hW hl)
theorem g_getR (G : GX p s m meth c cc nL ret own mn D ca b) {kc k N index a f r : Nat} {C : String} {Tt : u_T} {ty : Nat → FieldType} (ci : CI kc C Tt N ty) (hws : ∀ w ∈ u_ws C Tt N, w.before args s = true) (hn : k < N) (hI : isRf kc k = true) (hf : 100 * kc + k = f) (hk : kd T a = kc) (hlink : (Cond.fieldLink own index (Tt k).1 (Tt k).2.1 (Tt k).2.2.1).before args s = true) (hdg : decode cc pc = .ok (.getfield index, 3)) (hr : fR V f a = some r) (kk : WG p l e R s m args below meth c D ca b nL Q cells slots T V (pc + 3) L (rv b (some r) :: st)) : WG p l e R s m args below meth c D ca b nL Q cells slots T V pc L (rv b (some a) :: st) := by
  subst hf
  intro H locs ls hW hl
  exact va_get (v := rv b (some r)) G.1 G.2.1 hws (fun _ h => h) G.2.2.2.1 G.2.2.2.2.2.1 hW.1 a (cs_obj ci hW hk) ci.1 k hn hlink (fun _ h => h) (by rw [fs_at b V a (by rw [ci.2.1]; exact hn), cv_R b V a hI, hr]) hdg (kk H locs ls hW hl)
theorem g_getIN (G : GX p s m meth c cc nL ret own mn D ca b) {kc k N index a f : Nat} {C host : String} {Tt : u_T} {ty : Nat → FieldType} (ci : CI kc C Tt N ty) (hws : ∀ w ∈ u_ws C Tt N, w.before args s = true) (hn : k < N) (hI : isRf kc k = false) (hf : 100 * kc + k = f) (hk : kd T a = kc) (hlink : (Cond.fieldLinkNest own index (Tt k).1 (Tt k).2.1 (Tt k).2.2.1 host).before args s = true) (hdg : decode cc pc = .ok (.getfield index, 3)) (kk : WG p l e R s m args below meth c D ca b nL Q cells slots T V (pc + 3) L (.int (fI V f a) :: st)) : WG p l e R s m args below meth c D ca b nL Q cells slots T V pc L (rv b (some a) :: st) := by
  subst hf
  intro H locs ls hW hl
  exact va_getN (v := .int (fI V (100 * kc + k) a)) G.1 G.2.1 hws (fun _ h => h) G.2.2.2.1 G.2.2.2.2.2.1 hW.1 a (cs_obj ci hW hk) ci.1 k hn hlink (fun _ h => h) (by rw [fs_at b V a (by rw [ci.2.1]; exact hn), cv_I b V a hI]) hdg (kk H locs ls hW hl)
theorem g_getRN (G : GX p s m meth c cc nL ret own mn D ca b) {kc k N index a f r : Nat} {C host : String} {Tt : u_T} {ty : Nat → FieldType} (ci : CI kc C Tt N ty) (hws : ∀ w ∈ u_ws C Tt N, w.before args s = true) (hn : k < N) (hI : isRf kc k = true) (hf : 100 * kc + k = f) (hk : kd T a = kc) (hlink : (Cond.fieldLinkNest own index (Tt k).1 (Tt k).2.1 (Tt k).2.2.1 host).before args s = true) (hdg : decode cc pc = .ok (.getfield index, 3)) (hr : fR V f a = some r) (kk : WG p l e R s m args below meth c D ca b nL Q cells slots T V (pc + 3) L (rv b (some r) :: st)) : WG p l e R s m args below meth c D ca b nL Q cells slots T V pc L (rv b (some a) :: st) := by
  subst hf
  intro H locs ls hW hl
  exact va_getN (v := rv b (some r)) G.1 G.2.1 hws (fun _ h => h) G.2.2.2.1 G.2.2.2.2.2.1 hW.1 a (cs_obj ci hW hk) ci.1 k hn hlink (fun _ h => h) (by rw [fs_at b V a (by rw [ci.2.1]; exact hn), cv_R b V a hI, hr]) hdg (kk H locs ls hW hl)
theorem g_putI (G : GX p s m meth c cc nL ret own mn D ca b) {kc k N index a f : Nat} {v : Int32} {C : String} {Tt : u_T} {ty : Nat → FieldType} (ci : CI kc C Tt N ty) (hws : ∀ w ∈ u_ws C Tt N, w.before args s = true) (hn : k < N) (hI : isRf kc k = false) (hf : 100 * kc + k = f) (hk : kd T a = kc) (hfin : (Tt k).2.2.2 = false) (hnar : narrow (ty k) (.int v) = .int v ∧ fits (ty k) (.int v) = true) (hlink : (Cond.fieldLink own index (Tt k).1 (Tt k).2.1 (Tt k).2.2.1).before args s = true) (hdg : decode cc pc = .ok (.putfield index, 3)) (kk : WG p l e R s m args below meth c D ca b nL Q cells slots T (sI V f a v) (pc + 3) L st) : WG p l e R s m args below meth c D ca b nL Q cells slots T V pc L (.int v :: rv b (some a) :: st) := by
  subst hf
  intro H locs ls hW hl
  refine va_put (v := .int v) (ty := ty k) G.1 G.2.1 hws (fun _ h => h) ty ci.2.2.2.1 ci.2.2.2.2 G.2.2.2.1 G.2.2.2.2.2.1 hW.1 (cs_D b ca T V) hW.2.2.2 a (cs_obj ci hW hk) ci.1 k hn hlink (fun _ h => h) hfin (ci.2.2.2.1 k hn) hnar.1 hnar.2 (by simp [ci.2.1, hn]) hdg (fun H1 locs1 hP1 hD1 hS1 => ?_)
  rw [cs_sI hk ci.2.2.1 hI] at hP1
  exact kk H1 locs1 ls ⟨hP1, hW.2.1, hW.2.2.1, hS1⟩ hl
theorem g_putIN (G : GX p s m meth c cc nL ret own mn D ca b) {kc k N index a f : Nat} {v : Int32} {C host : String} {Tt : u_T} {ty : Nat → FieldType} (ci : CI kc C Tt N ty) (hws : ∀ w ∈ u_ws C Tt N, w.before args s = true) (hn : k < N) (hI : isRf kc k = false) (hf : 100 * kc + k = f) (hk : kd T a = kc) (hfin : (Tt k).2.2.2 = false) (hnar : narrow (ty k) (.int v) = .int v ∧ fits (ty k) (.int v) = true) (hlink : (Cond.fieldLinkNest own index (Tt k).1 (Tt k).2.1 (Tt k).2.2.1 host).before args s = true) (hdg : decode cc pc = .ok (.putfield index, 3)) (kk : WG p l e R s m args below meth c D ca b nL Q cells slots T (sI V f a v) (pc + 3) L st) : WG p l e R s m args below meth c D ca b nL Q cells slots T V pc L (.int v :: rv b (some a) :: st) := by
  subst hf
  intro H locs ls hW hl
  refine va_putN (v := .int v) (ty := ty k) G.1 G.2.1 hws (fun _ h => h) ty ci.2.2.2.1 ci.2.2.2.2 G.2.2.2.1 G.2.2.2.2.2.1 hW.1 (cs_D b ca T V) hW.2.2.2 a (cs_obj ci hW hk) ci.1 k hn hlink (fun _ h => h) hfin (ci.2.2.2.1 k hn) hnar.1 hnar.2 (by simp [ci.2.1, hn]) hdg (fun H1 locs1 hP1 hD1 hS1 => ?_)
  rw [cs_sI hk ci.2.2.1 hI] at hP1
  exact kk H1 locs1 ls ⟨hP1, hW.2.1, hW.2.2.1, hS1⟩ hl
theorem g_putR (G : GX p s m meth c cc nL ret own mn D ca b) {kc k N index a f : Nat} {v : Nat} {C : String} {Tt : u_T} {ty : Nat → FieldType} (ci : CI kc C Tt N ty) (hws : ∀ w ∈ u_ws C Tt N, w.before args s = true) (hn : k < N) (hI : isRf kc k = true) (hf : 100 * kc + k = f) (hk : kd T a = kc) (hfin : (Tt k).2.2.2 = false) (hnar : ∀ x : Nat, narrow (ty k) (.ref x) = .ref x ∧ fits (ty k) (.ref x) = true) (hlink : (Cond.fieldLink own index (Tt k).1 (Tt k).2.1 (Tt k).2.2.1).before args s = true) (hdg : decode cc pc = .ok (.putfield index, 3)) (kk : WG p l e R s m args below meth c D ca b nL Q cells slots T (sR V f a (some v)) (pc + 3) L st) : WG p l e R s m args below meth c D ca b nL Q cells slots T V pc L (rv b (some v) :: rv b (some a) :: st) := by
  subst hf
  intro H locs ls hW hl
  refine va_put (v := .ref (b + v)) (ty := ty k) G.1 G.2.1 hws (fun _ h => h) ty ci.2.2.2.1 ci.2.2.2.2 G.2.2.2.1 G.2.2.2.2.2.1 hW.1 (cs_D b ca T V) hW.2.2.2 a (cs_obj ci hW hk) ci.1 k hn hlink (fun _ h => h) hfin (ci.2.2.2.1 k hn) (hnar _).1 (hnar _).2 (by simp [ci.2.1, hn]) hdg (fun H1 locs1 hP1 hD1 hS1 => ?_)
  rw [show Value.ref (b + v) = rv b (some v) from rfl, cs_sR hk ci.2.2.1 hI] at hP1
  exact kk H1 locs1 ls ⟨hP1, hW.2.1, hW.2.2.1, hS1⟩ hl
theorem g_putRF (G : GX p s m meth c cc nL ret own mn D ca b) {kc k N index a f : Nat} {v : Nat} {C : String} {Tt : u_T} {ty : Nat → FieldType} (ci : CI kc C Tt N ty) (hws : ∀ w ∈ u_ws C Tt N, w.before args s = true) (hn : k < N) (hI : isRf kc k = true) (hf : 100 * kc + k = f) (hk : kd T a = kc) (hfin : (Tt k).2.2.2 = true) (hmn : mn = "<init>") (hdecl : (Tt k).1 = own) (hnar : ∀ x : Nat, narrow (ty k) (.ref x) = .ref x ∧ fits (ty k) (.ref x) = true) (hlink : (Cond.fieldLink own index (Tt k).1 (Tt k).2.1 (Tt k).2.2.1).before args s = true) (hdg : decode cc pc = .ok (.putfield index, 3)) (kk : WG p l e R s m args below meth c D ca b nL Q cells slots T (sR V f a (some v)) (pc + 3) L st) : WG p l e R s m args below meth c D ca b nL Q cells slots T V pc L (rv b (some v) :: rv b (some a) :: st) := by
  subst hf
  intro H locs ls hW hl
  refine va_putF (v := .ref (b + v)) (ty := ty k) G.1 G.2.1 hws (fun _ h => h) ty ci.2.2.2.1 ci.2.2.2.2 G.2.2.2.1 G.2.2.2.2.2.1 hW.1 (cs_D b ca T V) hW.2.2.2 a (cs_obj ci hW hk) ci.1 k hn hlink (fun _ h => h) hfin (by rw [← hmn]; exact G.2.2.2.2.2.2.2.2.2) hdecl (ci.2.2.2.1 k hn) (hnar _).1 (hnar _).2 (by simp [ci.2.1, hn]) hdg (fun H1 locs1 hP1 hD1 hS1 => ?_)
  rw [show Value.ref (b + v) = rv b (some v) from rfl, cs_sR hk ci.2.2.1 hI] at hP1
  exact kk H1 locs1 ls ⟨hP1, hW.2.1, hW.2.2.1, hS1⟩ hl
theorem g_alen (G : GX p s m meth c cc nL ret own mn D ca b) {kc a t0 : Nat} {ty : FieldType} (hk : kd T a = kc) (hr : 10 ≤ kc ∧ kc < 16) (hty : (tyl ca)[t0]? = some (ca kc, ty)) (hdg : decode cc pc = .ok (.arraylength, 1)) (kk : WG p l e R s m args below meth c D ca b nL Q cells slots T V (pc + 1) L (.int (nI (ln T a)) :: st)) : WG p l e R s m args below meth c D ca b nL Q cells slots T V pc L (rv b (some a) :: st) := by
  intro H locs ls hW hl
  have hlt := tp_lt hW hk (by omega)
  by_cases h1 : kc < 12
  · exact va_alen (v := nI (ln T a)) G.1 G.2.1 G.2.2.2.2.2.1 hW.1 a t0 ((cs_at hlt).trans (by rw [ce_i hk (by omega) h1])) hty rfl hdg (kk H locs ls hW hl)
  · by_cases h2 : kc = 12
    · subst h2
      exact va_alen (v := nI (ln T a)) G.1 G.2.1 G.2.2.2.2.2.1 hW.1 a t0 ((cs_at hlt).trans (by rw [ce_l hk])) hty rfl hdg (kk H locs ls hW hl)
    · exact va_alen (v := nI (ln T a)) G.1 G.2.1 G.2.2.2.2.2.1 hW.1 a t0 ((cs_at hlt).trans (by rw [ce_r hk (by omega)])) hty rfl hdg (kk H locs ls hW hl)
theorem g_iald (G : GX p s m meth c cc nL ret own mn D ca b) {a : Nat} {i : Int32} (hk : kd T a = 11) (hin : inb i (ln T a) = true) (hdg : decode cc pc = .ok (.iaload, 1)) (kk : WG p l e R s m args below meth c D ca b nL Q cells slots T V (pc + 1) L (.int (aI V a i.toNatClampNeg) :: st)) : WG p l e R s m args below meth c D ca b nL Q cells slots T V pc L (.int i :: rv b (some a) :: st) := by
  intro H locs ls hW hl
  exact va_iald G.1 G.2.1 G.2.2.2.2.2.1 hW.1 a 1 ((cs_at (tp_lt hW hk (by omega))).trans (by rw [ce_i hk (by omega) (by omega)])) rfl (inb_e hin) hdg (kk H locs ls hW hl)
theorem g_cald (G : GX p s m meth c cc nL ret own mn D ca b) {a : Nat} {i : Int32} (hk : kd T a = 10) (hin : inb i (ln T a) = true) (hdg : decode cc pc = .ok (.caload, 1)) (kk : WG p l e R s m args below meth c D ca b nL Q cells slots T V (pc + 1) L (.int (aI V a i.toNatClampNeg) :: st)) : WG p l e R s m args below meth c D ca b nL Q cells slots T V pc L (.int i :: rv b (some a) :: st) := by
  intro H locs ls hW hl
  exact va_cald G.1 G.2.1 G.2.2.2.2.2.1 hW.1 a 0 ((cs_at (tp_lt hW hk (by omega))).trans (by rw [ce_i hk (by omega) (by omega)])) rfl (inb_e hin) hdg (kk H locs ls hW hl)
theorem g_lald (G : GX p s m meth c cc nL ret own mn D ca b) {a : Nat} {i : Int32} (hk : kd T a = 12) (hin : inb i (ln T a) = true) (hdg : decode cc pc = .ok (.laload, 1)) (kk : WG p l e R s m args below meth c D ca b nL Q cells slots T V (pc + 1) L (.long (aL V a i.toNatClampNeg) :: st)) : WG p l e R s m args below meth c D ca b nL Q cells slots T V pc L (.int i :: rv b (some a) :: st) := by
  intro H locs ls hW hl
  exact va_lald G.1 G.2.1 G.2.2.2.2.2.1 hW.1 a 2 ((cs_at (tp_lt hW hk (by omega))).trans (by rw [ce_l hk])) rfl (inb_e hin) hdg (kk H locs ls hW hl)
theorem g_aald (G : GX p s m meth c cc nL ret own mn D ca b) {a kc t0 r : Nat} {i : Int32} {C : String} (hk : kd T a = kc) (hr : 12 < kc ∧ kc < 16) (hty : (tyl ca)[t0]? = some (ca kc, .object C)) (hin : inb i (ln T a) = true) (hdg : decode cc pc = .ok (.aaload, 1)) (he : aR V a i.toNatClampNeg = some r) (kk : WG p l e R s m args below meth c D ca b nL Q cells slots T V (pc + 1) L (rv b (some r) :: st)) : WG p l e R s m args below meth c D ca b nL Q cells slots T V pc L (.int i :: rv b (some a) :: st) := by
  intro H locs ls hW hl
  refine va_aldq G.1 G.2.1 G.2.2.2.2.2.1 hW.1 a t0 ((cs_at (tp_lt hW hk (by omega))).trans (by rw [ce_r hk hr.1])) hty (inb_e hin) hdg ?_
  rw [he]
  exact kk H locs ls hW hl
theorem g_iast (G : GX p s m meth c cc nL ret own mn D ca b) {a : Nat} {i v : Int32} (hk : kd T a = 11) (hin : inb i (ln T a) = true) (hdg : decode cc pc = .ok (.iastore, 1)) (kk : WG p l e R s m args below meth c D ca b nL Q cells slots T (wI V a i.toNatClampNeg v) (pc + 1) L st) : WG p l e R s m args below meth c D ca b nL Q cells slots T V pc L (.int v :: .int i :: rv b (some a) :: st) := by
  intro H locs ls hW hl
  refine va_iast G.1 G.2.1 G.2.2.2.2.2.1 hW.1 (cs_D b ca T V) hW.2.2.2 a 1 ((cs_at (tp_lt hW hk (by omega))).trans (by rw [ce_i hk (by omega) (by omega)])) rfl (inb_e hin) hdg (fun H1 locs1 hP1 hD1 hS1 => ?_)
  rw [cs_wI hk (by omega) (by omega)] at hP1
  exact kk H1 locs1 ls ⟨hP1, hW.2.1, hW.2.2.1, hS1⟩ hl
theorem g_cast (G : GX p s m meth c cc nL ret own mn D ca b) {a : Nat} {i v : Int32} (hk : kd T a = 10) (hin : inb i (ln T a) = true) (hdg : decode cc pc = .ok (.castore, 1)) (kk : WG p l e R s m args below meth c D ca b nL Q cells slots T (wI V a i.toNatClampNeg (vp_nar .char v)) (pc + 1) L st) : WG p l e R s m args below meth c D ca b nL Q cells slots T V pc L (.int v :: .int i :: rv b (some a) :: st) := by
  intro H locs ls hW hl
  refine va_cast G.1 G.2.1 G.2.2.2.2.2.1 hW.1 (cs_D b ca T V) hW.2.2.2 a 0 ((cs_at (tp_lt hW hk (by omega))).trans (by rw [ce_i hk (by omega) (by omega)])) rfl (inb_e hin) hdg (fun H1 locs1 hP1 hD1 hS1 => ?_)
  rw [cs_wI hk (by omega) (by omega)] at hP1
  exact kk H1 locs1 ls ⟨hP1, hW.2.1, hW.2.2.1, hS1⟩ hl
theorem g_last (G : GX p s m meth c cc nL ret own mn D ca b) {a : Nat} {i : Int32} {v : Int64} (hk : kd T a = 12) (hin : inb i (ln T a) = true) (hdg : decode cc pc = .ok (.lastore, 1)) (kk : WG p l e R s m args below meth c D ca b nL Q cells slots T (wL V a i.toNatClampNeg v) (pc + 1) L st) : WG p l e R s m args below meth c D ca b nL Q cells slots T V pc L (.long v :: .int i :: rv b (some a) :: st) := by
  intro H locs ls hW hl
  refine va_last G.1 G.2.1 G.2.2.2.2.2.1 hW.1 (cs_D b ca T V) hW.2.2.2 a 2 ((cs_at (tp_lt hW hk (by omega))).trans (by rw [ce_l hk])) rfl (inb_e hin) hdg (fun H1 locs1 hP1 hD1 hS1 => ?_)
  rw [cs_wL hk] at hP1
  exact kk H1 locs1 ls ⟨hP1, hW.2.1, hW.2.2.1, hS1⟩ hl
theorem g_aast (G : GX p s m meth c cc nL ret own mn D ca b) {a kc t0 kv r N : Nat} {i : Int32} {C : String} {Tt : u_T} {ty : Nat → FieldType} (hk : kd T a = kc) (hr : 12 < kc ∧ kc < 16) (hty : (tyl ca)[t0]? = some (ca kc, .object C)) (ci : CI kv C Tt N ty) (hkr : kd T r = kv) (hin : inb i (ln T a) = true) (hdg : decode cc pc = .ok (.aastore, 1)) (kk : WG p l e R s m args below meth c D ca b nL Q cells slots T (wR V a i.toNatClampNeg (some r)) (pc + 1) L st) : WG p l e R s m args below meth c D ca b nL Q cells slots T V pc L (rv b (some r) :: .int i :: rv b (some a) :: st) := by
  intro H locs ls hW hl
  refine va_astq (r := (C, Tt, N)) G.1 G.2.1 G.2.2.2.2.2.1 hW.1 (cs_D b ca T V) hW.2.2.2 a t0 r kv ((cs_at (tp_lt hW hk (by omega))).trans (by rw [ce_r hk hr.1])) hty (cs_obj ci hW hkr) ci.1 (inb_e hin) hdg (fun H1 locs1 hP1 hD1 hS1 => ?_)
  rw [show (some (b + r) : Option Nat) = (some r).map (fun k => b + k) from rfl, cs_wR hk hr.1] at hP1
  exact kk H1 locs1 ls ⟨hP1, hW.2.1, hW.2.2.1, hS1⟩ hl
end HP
end
section
section CL
variable {p : Program} {l : Launch} {e : Env} {R : Room} {s : State} {m : MethodId} {args : Array Value} {below : List Frame} {meth : Method} {c : Code} {D : va_G} {ca : Nat → ClassId} {b nL : Nat} {Q : State → Prop} {cells slots : Nat} {T : Tx} {V : Vx} {pc : Nat} {L : List (Nat × Value)} {st : List Value} {cc : ByteArray} {ret : Option FieldType} {own mn : String}
theorem W_sz {H : Heap} {locs : List Loc} {g : JFrame} (h : H.size ≤ s.heap.size + cells → W p l e R s m args below meth c H locs cells slots Q g) : W p l e R s m args below meth c H locs cells slots Q g :=
  fun T hT X => h (by rw [← hT]; exact X.same.2.2.1) T hT X
theorem GW_low {H0 H : Heap} {locs : List Loc} (h : GW D ca b T V H0 cells H locs) (hb : b ≤ H0.size) : b + tp T ≤ H.size := by
  rcases Nat.eq_zero_or_pos (tp T) with q | q
  · have := h.2.2.2.1
    omega
  · have h1 := (h.1 (tp T - 1) _ (cs_at (by omega))).lt
    have h1 : b + (tp T - 1) < H.size := h1
    omega
def GPc (D : va_G) (ca : Nat → ClassId) (b : Nat) (av : List Value) (T : Tx) (V : Vx) : Array Value → State → Prop := fun v U =>
  v = av.toArray ∧ TB U ∧ va_K D vwCl (tyl ca) U ∧ va_P D vwCl (cs b ca T V) U.heap ∧ U.heap.size = b + tp T ∧ (∀ a, tp T ≤ a → kd T a = 99)
def GQc (D : va_G) (ca : Nat → ClassId) (b : Nat) (r : Option Value) (T : Tx) (V : Vx) : Array Value → State → Outcome → State → Prop := fun _ st o t =>
  o = .returned r ∧ va_P D vwCl (cs b ca T V) t.heap ∧ t.heap.size = b + tp T ∧ (∀ a, tp T ≤ a → kd T a = 99) ∧ va_F (fun q : Nat => b ≤ q) st t
def MG (l : Launch) (y : MethodName) (cc : ByteArray) (maxL : Nat) (ret : Option FieldType) (fr lo mc ms : Nat) (D : va_G) (ca : Nat → ClassId) (b : Nat) (av : List Value) (T : Tx) (V : Vx) (r : Option Value) (T' : Tx) (V' : Vx) : Prop :=
  Met l y [.code y cc maxL ret] ({ frames := fr, cells := mc, slots := ms, locals := lo } : Room) (GPc D ca b av T V) (GQc D ca b r T' V') mc ms (fun q : Nat => b ≤ q)
theorem GPc_blind {av : List Value} : FrameBlind (GPc D ca b av T V) := by
  rintro a U g mk ⟨h1, h2, h3, h4⟩
  exact ⟨h1, TB.warm (U := U.calling g mk a) (State.WarmedH.refl U) h2, va_K.moved (u := U) (U := U.calling g mk a) (Vm.Alike.refl U.vm) h3, h4⟩
theorem MG.ofWG {y : MethodName} {maxL fr lo mc ms : Nat} {av : List Value} {T' : Tx} {V' : Vx} {r : Option Value} (hy : plainName y.cls = true) (hL : lv_args 0 av = L) (hS : (lg_sl av).length ≤ maxL)
    (body : ∀ (p : Program) (e : Env) (s : State) (m : MethodId) (below : List Frame) (meth : Method) (c : Code), GX p s m meth c cc maxL ret y.cls y.name D ca b → s.heap.size = b + tp T → WG p l e ({ frames := fr, cells := mc, slots := ms, locals := lo } : Room) s m av.toArray below meth c D ca b maxL (MQ below (GQc D ca b r T' V') av.toArray s mc ms (fun q : Nat => b ≤ q)) 0 0 T V 0 L []) : MG l y cc maxL ret fr lo mc ms D ca b av T V r T' V' := by
  refine Met.ofW (cc := cc) (maxL := maxL) (ret := ret) hy rfl ?_
  intro p e s m args below meth c s₁ B hml hv
  obtain ⟨rfl, hTB, hK, hP, hsz, h99⟩ := hv
  have hl := lv_entry av (n := maxL) hS
  rw [hL] at hl
  rw [lg_entry_eq]
  exact body p e s m below meth c ⟨B.exec, B.bytes, hml, findClass_of_methodNamed B.named, hTB, hK, B.returns, B.notSynchronized, by omega, (name_of_methodNamed B.named B.method).1⟩ hsz s.heap [] _ ⟨hP, by omega, h99, va_S.rf⟩ hl
theorem g_iret (G : GX p s m meth c cc nL (some .int) own mn D ca b) {v : Int32} (hdg : decode cc pc = .ok (.ireturn, 1)) : WG p l e R s m args below meth c D ca b nL (MQ below (GQc D ca b (some (.int v)) T V) args s cells slots (fun q : Nat => b ≤ q)) cells slots T V pc L [.int v] := by
  intro H locs ls hW hl
  have hlow := GW_low hW G.2.2.2.2.2.2.2.2.1
  have hE := hW.2.1
  refine W_sz fun hsz => W.iret G.1 G.2.1 G.2.2.2.2.2.2.1 (fun t ht hWm => ⟨rfl, by rw [ht]; exact hW.1, by rw [ht]; omega, hW.2.2.1, hW.2.2.2.F ht⟩) hW.2.2.2.2.2 hdg G.2.2.2.2.2.2.2.1
theorem g_zret (G : GX p s m meth c cc nL (some .boolean) own mn D ca b) {v : Int32} (hz : zo v = true) (hdg : decode cc pc = .ok (.ireturn, 1)) : WG p l e R s m args below meth c D ca b nL (MQ below (GQc D ca b (some (.int v)) T V) args s cells slots (fun q : Nat => b ≤ q)) cells slots T V pc L [.int v] := by
  intro H locs ls hW hl
  have hlow := GW_low hW G.2.2.2.2.2.2.2.2.1
  have hE := hW.2.1
  refine W_sz fun hsz => W.zret G.1 G.2.1 G.2.2.2.2.2.2.1 (zo_n hz).1 (fun t ht hWm => ⟨rfl, by rw [ht]; exact hW.1, by rw [ht]; omega, hW.2.2.1, hW.2.2.2.F ht⟩) hW.2.2.2.2.2 hdg G.2.2.2.2.2.2.2.1
theorem g_lret (G : GX p s m meth c cc nL (some .long) own mn D ca b) {v : Int64} (hdg : decode cc pc = .ok (.lreturn, 1)) : WG p l e R s m args below meth c D ca b nL (MQ below (GQc D ca b (some (.long v)) T V) args s cells slots (fun q : Nat => b ≤ q)) cells slots T V pc L [.long v] := by
  intro H locs ls hW hl
  have hlow := GW_low hW G.2.2.2.2.2.2.2.2.1
  have hE := hW.2.1
  refine W_sz fun hsz => W.lret G.1 G.2.1 G.2.2.2.2.2.2.1 (fun t ht hWm => ⟨rfl, by rw [ht]; exact hW.1, by rw [ht]; omega, hW.2.2.1, hW.2.2.2.F ht⟩) hW.2.2.2.2.2 hdg G.2.2.2.2.2.2.2.1
theorem g_vret (G : GX p s m meth c cc nL none own mn D ca b) (hdg : decode cc pc = .ok (.return_, 1)) : WG p l e R s m args below meth c D ca b nL (MQ below (GQc D ca b none T V) args s cells slots (fun q : Nat => b ≤ q)) cells slots T V pc L [] := by
  intro H locs ls hW hl
  have hlow := GW_low hW G.2.2.2.2.2.2.2.2.1
  have hE := hW.2.1
  refine W_sz fun hsz => W.vret G.1 G.2.1 G.2.2.2.2.2.2.1 (fun t ht hWm => ⟨rfl, by rw [ht]; exact hW.1, by rw [ht]; omega, hW.2.2.1, hW.2.2.2.F ht⟩) hW.2.2.2.2.2 hdg G.2.2.2.2.2.2.2.1
theorem g_aret {C : String} (G : GX p s m meth c cc nL (some (.object C)) own mn D ca b) {o : Option Nat} (hdg : decode cc pc = .ok (.areturn, 1)) : WG p l e R s m args below meth c D ca b nL (MQ below (GQc D ca b (some (rv b o)) T V) args s cells slots (fun q : Nat => b ≤ q)) cells slots T V pc L [rv b o] := by
  intro H locs ls hW hl
  have hlow := GW_low hW G.2.2.2.2.2.2.2.2.1
  have hE := hW.2.1
  refine W_sz fun hsz => W.aret G.1 G.2.1 G.2.2.2.2.2.2.1 (Or.inl ⟨C, rfl⟩) (rv_isr b o) (fun t ht hWm => ⟨rfl, by rw [ht]; exact hW.1, by rw [ht]; omega, hW.2.2.1, hW.2.2.2.F ht⟩) hW.2.2.2.2.2 hdg G.2.2.2.2.2.2.2.1
theorem g_widen {sl : Nat} (h : slots ≤ sl) (k : WG p l e R s m args below meth c D ca b nL Q cells sl T V pc L st) : WG p l e R s m args below meth c D ca b nL Q cells slots T V pc L st :=
  fun H locs ls hW hl => W.widen (Nat.le_refl _) h (k H locs ls hW hl)
theorem g_sub {L' : List (Nat × Value)} (ks : List Nat) (h : lv_pick L ks = L') (k : WG p l e R s m args below meth c D ca b nL Q cells slots T V pc L' st) : WG p l e R s m args below meth c D ca b nL Q cells slots T V pc L st :=
  fun H locs ls hW hl => k H locs ls hW (lv_sub hl ks h)
/-- what the tables say of a method, for a call of it -/
def MB (y : MethodName) (ycc : ByteArray) (maxL : Nat) (yret : Option FieldType) (n : Nat) (s : State) : Prop :=
  (∀ (a' : Array Value) (U : State), s.WarmedH U.vm → (Cond.code y ycc maxL yret).before a' U = true) ∧ (∀ a' : Array Value, (Cond.initialized y.cls).before a' s = true) ∧ (y.cls ≠ "java/lang/invoke/MethodHandle" ∧ y.cls ≠ "java/lang/invoke/VarHandle") ∧ (∀ sig, parseMethodDescriptor y.desc = some sig → n = sig.parameters.length)
theorem MB.mk {y : MethodName} {ycc : ByteArray} {maxL n : Nat} {yret : Option FieldType} (i j : Nat) (h : TB s) (hi : lw_tbl[i]? = some (.code y ycc maxL yret)) (hj : lw_tbl[j]? = some (.initialized y.cls)) (hd : (y.cls ≠ "java/lang/invoke/MethodHandle" ∧ y.cls ≠ "java/lang/invoke/VarHandle") ∧ (parseMethodDescriptor y.desc).map (fun d => d.parameters.length) = some n) : MB y ycc maxL yret n s := by
  refine ⟨fun a' U hW => ?_, fun a' => TB.w j hj rfl h, hd.1, fun sig h1 => ?_⟩
  · exact TB.w i hi rfl (TB.warm hW h)
  · have h2 := hd.2
    rw [h1] at h2
    exact (Option.some.inj h2).symm
theorem g_after {y : MethodName} {T' : Tx} {V' : Vx} {r : Option Value} {mc ms : Nat} {rest : List Value} {H : Heap} {locs : List Loc} {ls : Array Slot} {av : Array Value} (G : GX p s m meth c cc nL ret own mn D ca b) (hW : GW D ca b T V s.heap cells H locs) (hl : lv_has ls nL L) (hsz : H.size = b + tp T) (hmc : tp T' = tp T + mc)
    (run : va_Run p l e R s m args below meth c H locs cells slots mc ms (F0 m pc ls st) rest (GQc D ca b r T' V' av) (fun q : Nat => b ≤ q))
    (k : WG p l e R s m args below meth c D ca b nL Q (cells + mc) (slots + ms) T' V' (pc + 3) L (r.toList ++ rest)) : W p l e R s m args below meth c H locs cells slots Q (F0 m pc ls st) := by
  intro T0 hT X
  obtain ⟨v, st₀, t, T1, Lc, h0, X', hL, e1, e2, ⟨hv, hP', hz', hk', hF⟩, stp⟩ := run T0 hT X
  cases hv
  have hE := hW.2.1
  have hS := hW.2.2.2
  obtain ⟨hz, hk⟩ := hF
  rw [h0] at hz hk
  obtain ⟨t2, a1, b1⟩ := k T1.heap (locs ++ Lc) ls ⟨by rw [e1]; exact hP', by omega, hk', ⟨Nat.le_trans hS.1 (by rw [e1]; exact hz), fun q h1 h2 => by rw [e1, hk q (Nat.lt_of_lt_of_le h1 hS.1) h2]; exact hS.2.1 q h1 h2, fun q hq => by
      rcases List.mem_append.mp hq with h | h
      · exact hS.2.2 q h
      · exact hL q h⟩⟩ hl T1 rfl X'
  exact ⟨t2, stp t2 a1, b1⟩
theorem g_callV {y : MethodName} {ycc : ByteArray} {ymax n fr lo mc ms index a kc N : Nat} {yret : Option FieldType} {As rest : List Value} {r : Option Value} {T' : Tx} {V' : Vx} {C : String} {Tt : u_T} {ty : Nat → FieldType} (G : GX p s m meth c cc nL ret own mn D ca b) (hM : MG l y ycc ymax yret fr lo mc ms D ca b (rv b (some a) :: As) T V r T' V') (hB : MB y ycc ymax yret n s) (hin : (Cond.instanceMethod y).before args s = true) (hsel : (Cond.selects C y y).before args s = true) (hlink : (Cond.methodLink own index y).before args s = true) (ci : CI kc C Tt N ty) (hk : kd T a = kc) (hn : As.length = n) (hst : st = As.reverse ++ rv b (some a) :: rest) (hcat : (rest.map fun v => v.category).sum ≤ 8) (hR : fr + 1 ≤ R.frames ∧ 8 + (ymax + 11) + lo ≤ R.locals) (hf : cells + mc ≤ R.cells ∧ slots + ms ≤ R.slots) (hmc : tp T' = tp T + mc) (hdg : decode cc pc = .ok (.invokevirtual index, 3))
    (k : WG p l e R s m args below meth c D ca b nL Q (cells + mc) (slots + ms) T' V' (pc + 3) L (r.toList ++ rest)) : WG p l e R s m args below meth c D ca b nL Q cells slots T V pc L st := by
  intro H locs ls hW hl
  refine W_sz fun hsz => ?_
  have hlow := GW_low hW G.2.2.2.2.2.2.2.2.1
  have hE := hW.2.1
  have hH : H.size = b + tp T := by omega
  have hcs := cs_obj ci hW hk
  exact g_after (y := y) G hW hl hH hmc (va_runV (As := As) (rest := rest) (Ts := []) (C := C) ⟨G.1, G.2.1, G.2.2.1, G.2.2.2.1, fun _ h => by cases h⟩ hM ⟨⟨rfl, rfl, hR.1, hR.2, fun w hw a' U hWm => (by rw [List.mem_singleton.mp hw]; exact hB.1 a' U hWm), List.mem_singleton.mpr rfl, hB.1 args s (State.WarmedH.refl s), hB.2.1 args, hB.2.2.1, hB.2.2.2, hlink⟩, hin, hsel⟩ ⟨GPc_blind, va_recv G.2.2.2.2.2.1 hW.1 ci.1 hcs, fun U hU hWm => ⟨rfl, TB.warm hWm G.2.2.2.2.1, va_K.moved hWm.alike G.2.2.2.2.2.1, by rw [hU]; exact hW.1, by rw [hU]; exact hH, hW.2.2.1⟩⟩ rfl hn hl.1 hst (lv_room hcat) hdg hf) k
theorem g_callS {y : MethodName} {ycc : ByteArray} {ymax n fr lo mc ms index : Nat} {yret : Option FieldType} {As rest : List Value} {r : Option Value} {T' : Tx} {V' : Vx} (G : GX p s m meth c cc nL ret own mn D ca b) (hM : MG l y ycc ymax yret fr lo mc ms D ca b As T V r T' V') (hB : MB y ycc ymax yret n s) (hstt : (Cond.static y).before args s = true) (hlink : (Cond.methodLink own index y).before args s = true) (hn : As.length = n) (hst : st = As.reverse ++ rest) (hcat : (rest.map fun v => v.category).sum ≤ 8) (hR : fr + 1 ≤ R.frames ∧ 8 + (ymax + 11) + lo ≤ R.locals) (hf : cells + mc ≤ R.cells ∧ slots + ms ≤ R.slots) (hmc : tp T' = tp T + mc) (hdg : decode cc pc = .ok (.invokestatic index, 3))
    (k : WG p l e R s m args below meth c D ca b nL Q (cells + mc) (slots + ms) T' V' (pc + 3) L (r.toList ++ rest)) : WG p l e R s m args below meth c D ca b nL Q cells slots T V pc L st := by
  intro H locs ls hW hl
  refine W_sz fun hsz => ?_
  have hlow := GW_low hW G.2.2.2.2.2.2.2.2.1
  have hE := hW.2.1
  have hH : H.size = b + tp T := by omega
  exact g_after (y := y) G hW hl hH hmc (va_runS (As := As) (rest := rest) (Ts := []) ⟨G.1, G.2.1, G.2.2.1, G.2.2.2.1, fun _ h => by cases h⟩ hM ⟨⟨rfl, rfl, hR.1, hR.2, fun w hw a' U hWm => (by rw [List.mem_singleton.mp hw]; exact hB.1 a' U hWm), List.mem_singleton.mpr rfl, hB.1 args s (State.WarmedH.refl s), hB.2.1 args, hB.2.2.1, hB.2.2.2, hlink⟩, hstt⟩ ⟨GPc_blind, fun U hU hWm => ⟨rfl, TB.warm hWm G.2.2.2.2.1, va_K.moved hWm.alike G.2.2.2.2.2.1, by rw [hU]; exact hW.1, by rw [hU]; exact hH, hW.2.2.1⟩⟩ rfl hn hl.1 hst (lv_room hcat) hdg hf) k
theorem g_callI {y : MethodName} {ycc : ByteArray} {ymax n fr lo mc ms index a : Nat} {As rest : List Value} {r : Option Value} {T' : Tx} {V' : Vx} (G : GX p s m meth c cc nL ret own mn D ca b) (hM : MG l y ycc ymax none fr lo mc ms D ca b (rv b (some a) :: As) T V r T' V') (hB : MB y ycc ymax none n s) (hin : (Cond.instanceMethod y).before args s = true) (hlink : (Cond.methodLink own index y).before args s = true) (hy1 : y.name = "<init>") (hn : As.length = n) (hst : st = As.reverse ++ rv b (some a) :: rest) (hcat : (rest.map fun v => v.category).sum ≤ 8) (hR : fr + 1 ≤ R.frames ∧ 8 + (ymax + 11) + lo ≤ R.locals) (hf : cells + mc ≤ R.cells ∧ slots + ms ≤ R.slots) (hmc : tp T' = tp T + mc) (hdg : decode cc pc = .ok (.invokespecial index, 3))
    (k : WG p l e R s m args below meth c D ca b nL Q (cells + mc) (slots + ms) T' V' (pc + 3) L (r.toList ++ rest)) : WG p l e R s m args below meth c D ca b nL Q cells slots T V pc L st := by
  intro H locs ls hW hl
  refine W_sz fun hsz => ?_
  have hlow := GW_low hW G.2.2.2.2.2.2.2.2.1
  have hE := hW.2.1
  have hH : H.size = b + tp T := by omega
  exact g_after (y := y) G hW hl hH hmc (va_runI (As := As) (rest := rest) (Ts := []) ⟨G.1, G.2.1, G.2.2.1, G.2.2.2.1, fun _ h => by cases h⟩ hM ⟨⟨rfl, rfl, hR.1, hR.2, fun w hw a' U hWm => (by rw [List.mem_singleton.mp hw]; exact hB.1 a' U hWm), List.mem_singleton.mpr rfl, hB.1 args s (State.WarmedH.refl s), hB.2.1 args, hB.2.2.1, hB.2.2.2, hlink⟩, hy1, hin⟩ ⟨GPc_blind, fun U hU hWm => ⟨rfl, TB.warm hWm G.2.2.2.2.1, va_K.moved hWm.alike G.2.2.2.2.2.1, by rw [hU]; exact hW.1, by rw [hU]; exact hH, hW.2.2.1⟩⟩ rfl hn hl.1 hst (lv_room hcat) hdg hf) k
theorem g_callIN {y : MethodName} {ycc : ByteArray} {ymax n fr lo mc ms index a : Nat} {host : String} {As rest : List Value} {r : Option Value} {T' : Tx} {V' : Vx} (G : GX p s m meth c cc nL ret own mn D ca b) (hM : MG l y ycc ymax none fr lo mc ms D ca b (rv b (some a) :: As) T V r T' V') (hB : MB y ycc ymax none n s) (hin : (Cond.instanceMethod y).before args s = true) (hlink : (Cond.methodLinkNest own index y host).before args s = true) (hy1 : y.name = "<init>") (hn : As.length = n) (hst : st = As.reverse ++ rv b (some a) :: rest) (hcat : (rest.map fun v => v.category).sum ≤ 8) (hR : fr + 1 ≤ R.frames ∧ 8 + (ymax + 11) + lo ≤ R.locals) (hf : cells + mc ≤ R.cells ∧ slots + ms ≤ R.slots) (hmc : tp T' = tp T + mc) (hdg : decode cc pc = .ok (.invokespecial index, 3))
    (k : WG p l e R s m args below meth c D ca b nL Q (cells + mc) (slots + ms) T' V' (pc + 3) L (r.toList ++ rest)) : WG p l e R s m args below meth c D ca b nL Q cells slots T V pc L st := by
  intro H locs ls hW hl
  refine W_sz fun hsz => ?_
  have hlow := GW_low hW G.2.2.2.2.2.2.2.2.1
  have hE := hW.2.1
  have hH : H.size = b + tp T := by omega
  exact g_after (y := y) G hW hl hH hmc (va_runIN (As := As) (rest := rest) (Ts := []) (host := host) ⟨G.1, G.2.1, G.2.2.1, G.2.2.2.1, fun _ h => by cases h⟩ hM ⟨⟨⟨rfl, rfl, hR.1, hR.2, fun w hw a' U hWm => (by rw [List.mem_singleton.mp hw]; exact hB.1 a' U hWm), List.mem_singleton.mpr rfl⟩, hB.1 args s (State.WarmedH.refl s), hB.2.1 args, hB.2.2.1, hB.2.2.2, hlink⟩, hy1, hin⟩ ⟨GPc_blind, fun U hU hWm => ⟨rfl, TB.warm hWm G.2.2.2.2.1, va_K.moved hWm.alike G.2.2.2.2.2.1, by rw [hU]; exact hW.1, by rw [hU]; exact hH, hW.2.2.1⟩⟩ rfl hn hl.1 hst (lv_room hcat) hdg hf) k
theorem g_objInit (G : GX p s m meth c cc nL ret own mn D ca b) {idx a : Nat} {rest : List Value} (hlink : (Cond.methodLink own idx Lib.objectInit).before args s = true) (hinst : (Cond.instanceMethod Lib.objectInit).before args s = true) (hcode : (Cond.code Lib.objectInit ⟨#[0xb1]⟩ 1 none).before args s = true) (hd : decode cc pc = .ok (.invokespecial idx, 3)) (hR : 1 ≤ R.frames ∧ (rest.map fun v => v.category).sum + 12 ≤ R.locals) (k : WG p l e R s m args below meth c D ca b nL Q cells slots T V (pc + 3) L rest) : WG p l e R s m args below meth c D ca b nL Q cells slots T V pc L (rv b (some a) :: rest) := by
  intro H locs ls hW hl
  refine W.objInit (a := b + a) (rest := rest) G.1 G.2.1 G.2.2.2.1 hlink hinst hcode rfl (by rw [G.2.2.1]; exact hl.1) rfl hd hR.1 (by simpa [JFrame.monitorRoom] using hR.2) (k H locs ls hW hl)
end CL
end
