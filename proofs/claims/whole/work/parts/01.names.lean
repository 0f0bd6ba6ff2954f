-- ===== PART A: goes FIRST, ahead of the names: the tables' words, and 'selects' of the private methods out of them =====
/-- a private method of a class that the tables say can be made, by its rows of tables_1 -/
def lw_okq (q : MethodName × Nat) : Prop := (q.1.cls ≠ "java/lang/invoke/MethodHandle" ∧ q.1.cls ≠ "java/lang/invoke/VarHandle") ∧ Cond.instantiable q.1.cls q.2 ∈ tables_1 ∧ Cond.privateMethod q.1 ∈ tables_1 ∧ Cond.instanceMethod q.1 ∈ tables_1
theorem lw_p0 : lw_okq (⟨"ParrotSpeech$HarbourReader", "readClause", "()Z"⟩, 3) := ⟨⟨by decide +kernel, by decide +kernel⟩, List.mem_of_getElem? (i := 52) (by decide +kernel), List.mem_of_getElem? (i := 323) (by decide +kernel), List.mem_of_getElem? (i := 324) (by decide +kernel)⟩
theorem lw_p1 : lw_okq (⟨"ParrotSpeech$HarbourReader", "kindNamed", "()I"⟩, 3) := ⟨⟨by decide +kernel, by decide +kernel⟩, List.mem_of_getElem? (i := 52) (by decide +kernel), List.mem_of_getElem? (i := 327) (by decide +kernel), List.mem_of_getElem? (i := 328) (by decide +kernel)⟩
theorem lw_p2 : lw_okq (⟨"ParrotSpeech$HarbourReader", "readBird", "(I)Z"⟩, 3) := ⟨⟨by decide +kernel, by decide +kernel⟩, List.mem_of_getElem? (i := 52) (by decide +kernel), List.mem_of_getElem? (i := 388) (by decide +kernel), List.mem_of_getElem? (i := 389) (by decide +kernel)⟩
theorem lw_p3 : lw_okq (⟨"ParrotSpeech$HarbourReader", "readNumber", "(I)I"⟩, 3) := ⟨⟨by decide +kernel, by decide +kernel⟩, List.mem_of_getElem? (i := 52) (by decide +kernel), List.mem_of_getElem? (i := 392) (by decide +kernel), List.mem_of_getElem? (i := 393) (by decide +kernel)⟩
theorem lw_p4 : lw_okq (⟨"ParrotSpeech$HarbourReader", "readMan", "()Z"⟩, 3) := ⟨⟨by decide +kernel, by decide +kernel⟩, List.mem_of_getElem? (i := 52) (by decide +kernel), List.mem_of_getElem? (i := 410) (by decide +kernel), List.mem_of_getElem? (i := 411) (by decide +kernel)⟩
theorem lw_p5 : lw_okq (⟨"ParrotSpeech$HarbourReader", "readKnows", "()Z"⟩, 3) := ⟨⟨by decide +kernel, by decide +kernel⟩, List.mem_of_getElem? (i := 52) (by decide +kernel), List.mem_of_getElem? (i := 426) (by decide +kernel), List.mem_of_getElem? (i := 427) (by decide +kernel)⟩
theorem lw_p6 : lw_okq (⟨"ParrotSpeech$HarbourReader", "readSits", "()Z"⟩, 3) := ⟨⟨by decide +kernel, by decide +kernel⟩, List.mem_of_getElem? (i := 52) (by decide +kernel), List.mem_of_getElem? (i := 435) (by decide +kernel), List.mem_of_getElem? (i := 436) (by decide +kernel)⟩
theorem lw_p7 : lw_okq (⟨"ParrotSpeech$HarbourReader", "readCover", "()Z"⟩, 3) := ⟨⟨by decide +kernel, by decide +kernel⟩, List.mem_of_getElem? (i := 52) (by decide +kernel), List.mem_of_getElem? (i := 449) (by decide +kernel), List.mem_of_getElem? (i := 450) (by decide +kernel)⟩
theorem lw_p8 : lw_okq (⟨"ParrotSpeech", "noBird", "(I)Z"⟩, 11) := ⟨⟨by decide +kernel, by decide +kernel⟩, List.mem_of_getElem? (i := 19) (by decide +kernel), List.mem_of_getElem? (i := 493) (by decide +kernel), List.mem_of_getElem? (i := 494) (by decide +kernel)⟩
theorem lw_p9 : lw_okq (⟨"ParrotSpeech", "noMan", "(I)Z"⟩, 11) := ⟨⟨by decide +kernel, by decide +kernel⟩, List.mem_of_getElem? (i := 19) (by decide +kernel), List.mem_of_getElem? (i := 514) (by decide +kernel), List.mem_of_getElem? (i := 515) (by decide +kernel)⟩
theorem lw_p10 : lw_okq (⟨"ParrotSpeech$World", "handOver", "(I)V"⟩, 9) := ⟨⟨by decide +kernel, by decide +kernel⟩, List.mem_of_getElem? (i := 58) (by decide +kernel), List.mem_of_getElem? (i := 529) (by decide +kernel), List.mem_of_getElem? (i := 530) (by decide +kernel)⟩
theorem lw_p11 : lw_okq (⟨"ParrotSpeech$World", "awakeOn", "(I)I"⟩, 9) := ⟨⟨by decide +kernel, by decide +kernel⟩, List.mem_of_getElem? (i := 58) (by decide +kernel), List.mem_of_getElem? (i := 548) (by decide +kernel), List.mem_of_getElem? (i := 549) (by decide +kernel)⟩
theorem lw_p12 : lw_okq (⟨"ParrotSpeech$World", "isSilenced", "(I)Z"⟩, 9) := ⟨⟨by decide +kernel, by decide +kernel⟩, List.mem_of_getElem? (i := 58) (by decide +kernel), List.mem_of_getElem? (i := 552) (by decide +kernel), List.mem_of_getElem? (i := 553) (by decide +kernel)⟩
theorem lw_p13 : lw_okq (⟨"ParrotSpeech$World", "speakOn", "(IILParrotSpeech$Speech;)V"⟩, 9) := ⟨⟨by decide +kernel, by decide +kernel⟩, List.mem_of_getElem? (i := 58) (by decide +kernel), List.mem_of_getElem? (i := 556) (by decide +kernel), List.mem_of_getElem? (i := 557) (by decide +kernel)⟩
theorem lw_p14 : lw_okq (⟨"ParrotSpeech$World", "speak", "(IIILParrotSpeech$Speech;)V"⟩, 9) := ⟨⟨by decide +kernel, by decide +kernel⟩, List.mem_of_getElem? (i := 58) (by decide +kernel), List.mem_of_getElem? (i := 560) (by decide +kernel), List.mem_of_getElem? (i := 561) (by decide +kernel)⟩
theorem lw_p15 : lw_okq (⟨"ParrotSpeech$World", "bestKnown", "(II)I"⟩, 9) := ⟨⟨by decide +kernel, by decide +kernel⟩, List.mem_of_getElem? (i := 58) (by decide +kernel), List.mem_of_getElem? (i := 566) (by decide +kernel), List.mem_of_getElem? (i := 567) (by decide +kernel)⟩
def lw_privs_1 : List (MethodName × Nat) := [(⟨"ParrotSpeech$HarbourReader", "readClause", "()Z"⟩, 3), (⟨"ParrotSpeech$HarbourReader", "kindNamed", "()I"⟩, 3), (⟨"ParrotSpeech$HarbourReader", "readBird", "(I)Z"⟩, 3), (⟨"ParrotSpeech$HarbourReader", "readNumber", "(I)I"⟩, 3), (⟨"ParrotSpeech$HarbourReader", "readMan", "()Z"⟩, 3), (⟨"ParrotSpeech$HarbourReader", "readKnows", "()Z"⟩, 3), (⟨"ParrotSpeech$HarbourReader", "readSits", "()Z"⟩, 3), (⟨"ParrotSpeech$HarbourReader", "readCover", "()Z"⟩, 3), (⟨"ParrotSpeech", "noBird", "(I)Z"⟩, 11), (⟨"ParrotSpeech", "noMan", "(I)Z"⟩, 11), (⟨"ParrotSpeech$World", "handOver", "(I)V"⟩, 9), (⟨"ParrotSpeech$World", "awakeOn", "(I)I"⟩, 9), (⟨"ParrotSpeech$World", "isSilenced", "(I)Z"⟩, 9), (⟨"ParrotSpeech$World", "speakOn", "(IILParrotSpeech$Speech;)V"⟩, 9), (⟨"ParrotSpeech$World", "speak", "(IIILParrotSpeech$Speech;)V"⟩, 9), (⟨"ParrotSpeech$World", "bestKnown", "(II)I"⟩, 9)]
theorem lw_r1 : ∀ q ∈ lw_privs_1, lw_okq q := List.forall_mem_cons.mpr ⟨lw_p0, List.forall_mem_cons.mpr ⟨lw_p1, List.forall_mem_cons.mpr ⟨lw_p2, List.forall_mem_cons.mpr ⟨lw_p3, List.forall_mem_cons.mpr ⟨lw_p4, List.forall_mem_cons.mpr ⟨lw_p5, List.forall_mem_cons.mpr ⟨lw_p6, List.forall_mem_cons.mpr ⟨lw_p7, List.forall_mem_cons.mpr ⟨lw_p8, List.forall_mem_cons.mpr ⟨lw_p9, List.forall_mem_cons.mpr ⟨lw_p10, List.forall_mem_cons.mpr ⟨lw_p11, List.forall_mem_cons.mpr ⟨lw_p12, List.forall_mem_cons.mpr ⟨lw_p13, List.forall_mem_cons.mpr ⟨lw_p14, List.forall_mem_cons.mpr ⟨lw_p15, fun _ h => absurd h List.not_mem_nil⟩⟩⟩⟩⟩⟩⟩⟩⟩⟩⟩⟩⟩⟩⟩⟩
theorem lw_p16 : lw_okq (⟨"ParrotSpeech$World", "spread", "(II)V"⟩, 9) := ⟨⟨by decide +kernel, by decide +kernel⟩, List.mem_of_getElem? (i := 58) (by decide +kernel), List.mem_of_getElem? (i := 574) (by decide +kernel), List.mem_of_getElem? (i := 575) (by decide +kernel)⟩
theorem lw_p17 : lw_okq (⟨"ParrotSpeech$World", "lose", "(I)V"⟩, 9) := ⟨⟨by decide +kernel, by decide +kernel⟩, List.mem_of_getElem? (i := 58) (by decide +kernel), List.mem_of_getElem? (i := 580) (by decide +kernel), List.mem_of_getElem? (i := 581) (by decide +kernel)⟩
theorem lw_p18 : lw_okq (⟨"ParrotSpeech", "foretellSpeech", "()V"⟩, 11) := ⟨⟨by decide +kernel, by decide +kernel⟩, List.mem_of_getElem? (i := 19) (by decide +kernel), List.mem_of_getElem? (i := 672) (by decide +kernel), List.mem_of_getElem? (i := 673) (by decide +kernel)⟩
theorem lw_p19 : lw_okq (⟨"ParrotSpeech", "keptWords", "(III)I"⟩, 11) := ⟨⟨by decide +kernel, by decide +kernel⟩, List.mem_of_getElem? (i := 19) (by decide +kernel), List.mem_of_getElem? (i := 688) (by decide +kernel), List.mem_of_getElem? (i := 689) (by decide +kernel)⟩
theorem lw_p20 : lw_okq (⟨"ParrotSpeech", "mostKept", "(II)I"⟩, 11) := ⟨⟨by decide +kernel, by decide +kernel⟩, List.mem_of_getElem? (i := 19) (by decide +kernel), List.mem_of_getElem? (i := 702) (by decide +kernel), List.mem_of_getElem? (i := 703) (by decide +kernel)⟩
theorem lw_p21 : lw_okq (⟨"ParrotSpeech", "matchOf", "(I)I"⟩, 11) := ⟨⟨by decide +kernel, by decide +kernel⟩, List.mem_of_getElem? (i := 19) (by decide +kernel), List.mem_of_getElem? (i := 707) (by decide +kernel), List.mem_of_getElem? (i := 708) (by decide +kernel)⟩
theorem lw_p22 : lw_okq (⟨"ParrotSpeech", "leastChoice", "(II)I"⟩, 11) := ⟨⟨by decide +kernel, by decide +kernel⟩, List.mem_of_getElem? (i := 19) (by decide +kernel), List.mem_of_getElem? (i := 711) (by decide +kernel), List.mem_of_getElem? (i := 712) (by decide +kernel)⟩
theorem lw_p23 : lw_okq (⟨"ParrotSpeech", "staysClean", "(IIII)Z"⟩, 11) := ⟨⟨by decide +kernel, by decide +kernel⟩, List.mem_of_getElem? (i := 19) (by decide +kernel), List.mem_of_getElem? (i := 723) (by decide +kernel), List.mem_of_getElem? (i := 724) (by decide +kernel)⟩
theorem lw_p24 : lw_okq (⟨"ParrotSpeech$Tongue", "sumEnds", "(IIII)I"⟩, 7) := ⟨⟨by decide +kernel, by decide +kernel⟩, List.mem_of_getElem? (i := 116) (by decide +kernel), List.mem_of_getElem? (i := 736) (by decide +kernel), List.mem_of_getElem? (i := 737) (by decide +kernel)⟩
theorem lw_p25 : lw_okq (⟨"ParrotSpeech$Tongue", "behindPart", "(I)I"⟩, 7) := ⟨⟨by decide +kernel, by decide +kernel⟩, List.mem_of_getElem? (i := 116) (by decide +kernel), List.mem_of_getElem? (i := 740) (by decide +kernel), List.mem_of_getElem? (i := 741) (by decide +kernel)⟩
theorem lw_p26 : lw_okq (⟨"ParrotSpeech$Tongue", "repeatedEnds", "(IIII)I"⟩, 7) := ⟨⟨by decide +kernel, by decide +kernel⟩, List.mem_of_getElem? (i := 116) (by decide +kernel), List.mem_of_getElem? (i := 745) (by decide +kernel), List.mem_of_getElem? (i := 746) (by decide +kernel)⟩
theorem lw_p27 : lw_okq (⟨"ParrotSpeech$Tongue", "partEnds", "(IIII)I"⟩, 7) := ⟨⟨by decide +kernel, by decide +kernel⟩, List.mem_of_getElem? (i := 116) (by decide +kernel), List.mem_of_getElem? (i := 749) (by decide +kernel), List.mem_of_getElem? (i := 750) (by decide +kernel)⟩
theorem lw_p28 : lw_okq (⟨"ParrotSpeech$Tongue", "wordEnds", "(II)I"⟩, 7) := ⟨⟨by decide +kernel, by decide +kernel⟩, List.mem_of_getElem? (i := 116) (by decide +kernel), List.mem_of_getElem? (i := 753) (by decide +kernel), List.mem_of_getElem? (i := 754) (by decide +kernel)⟩
theorem lw_p29 : lw_okq (⟨"ParrotSpeech", "reelsThere", "()I"⟩, 11) := ⟨⟨by decide +kernel, by decide +kernel⟩, List.mem_of_getElem? (i := 19) (by decide +kernel), List.mem_of_getElem? (i := 844) (by decide +kernel), List.mem_of_getElem? (i := 845) (by decide +kernel)⟩
theorem lw_p30 : lw_okq (⟨"ParrotSpeechModel", "reads", "(Z)Z"⟩, 42) := ⟨⟨by decide +kernel, by decide +kernel⟩, List.mem_of_getElem? (i := 853) (by decide +kernel), List.mem_of_getElem? (i := 1003) (by decide +kernel), List.mem_of_getElem? (i := 1004) (by decide +kernel)⟩
theorem lw_p31 : lw_okq (⟨"ParrotSpeechModel", "nextToken", "()V"⟩, 42) := ⟨⟨by decide +kernel, by decide +kernel⟩, List.mem_of_getElem? (i := 853) (by decide +kernel), List.mem_of_getElem? (i := 1007) (by decide +kernel), List.mem_of_getElem? (i := 1008) (by decide +kernel)⟩
def lw_privs_2 : List (MethodName × Nat) := [(⟨"ParrotSpeech$World", "spread", "(II)V"⟩, 9), (⟨"ParrotSpeech$World", "lose", "(I)V"⟩, 9), (⟨"ParrotSpeech", "foretellSpeech", "()V"⟩, 11), (⟨"ParrotSpeech", "keptWords", "(III)I"⟩, 11), (⟨"ParrotSpeech", "mostKept", "(II)I"⟩, 11), (⟨"ParrotSpeech", "matchOf", "(I)I"⟩, 11), (⟨"ParrotSpeech", "leastChoice", "(II)I"⟩, 11), (⟨"ParrotSpeech", "staysClean", "(IIII)Z"⟩, 11), (⟨"ParrotSpeech$Tongue", "sumEnds", "(IIII)I"⟩, 7), (⟨"ParrotSpeech$Tongue", "behindPart", "(I)I"⟩, 7), (⟨"ParrotSpeech$Tongue", "repeatedEnds", "(IIII)I"⟩, 7), (⟨"ParrotSpeech$Tongue", "partEnds", "(IIII)I"⟩, 7), (⟨"ParrotSpeech$Tongue", "wordEnds", "(II)I"⟩, 7), (⟨"ParrotSpeech", "reelsThere", "()I"⟩, 11), (⟨"ParrotSpeechModel", "reads", "(Z)Z"⟩, 42), (⟨"ParrotSpeechModel", "nextToken", "()V"⟩, 42)]
theorem lw_r2 : ∀ q ∈ lw_privs_2, lw_okq q := List.forall_mem_cons.mpr ⟨lw_p16, List.forall_mem_cons.mpr ⟨lw_p17, List.forall_mem_cons.mpr ⟨lw_p18, List.forall_mem_cons.mpr ⟨lw_p19, List.forall_mem_cons.mpr ⟨lw_p20, List.forall_mem_cons.mpr ⟨lw_p21, List.forall_mem_cons.mpr ⟨lw_p22, List.forall_mem_cons.mpr ⟨lw_p23, List.forall_mem_cons.mpr ⟨lw_p24, List.forall_mem_cons.mpr ⟨lw_p25, List.forall_mem_cons.mpr ⟨lw_p26, List.forall_mem_cons.mpr ⟨lw_p27, List.forall_mem_cons.mpr ⟨lw_p28, List.forall_mem_cons.mpr ⟨lw_p29, List.forall_mem_cons.mpr ⟨lw_p30, List.forall_mem_cons.mpr ⟨lw_p31, fun _ h => absurd h List.not_mem_nil⟩⟩⟩⟩⟩⟩⟩⟩⟩⟩⟩⟩⟩⟩⟩⟩
theorem lw_p32 : lw_okq (⟨"ParrotSpeechModel", "readsClause", "()Z"⟩, 42) := ⟨⟨by decide +kernel, by decide +kernel⟩, List.mem_of_getElem? (i := 853) (by decide +kernel), List.mem_of_getElem? (i := 1021) (by decide +kernel), List.mem_of_getElem? (i := 1022) (by decide +kernel)⟩
theorem lw_p33 : lw_okq (⟨"ParrotSpeechModel", "kindHere", "()I"⟩, 42) := ⟨⟨by decide +kernel, by decide +kernel⟩, List.mem_of_getElem? (i := 853) (by decide +kernel), List.mem_of_getElem? (i := 1025) (by decide +kernel), List.mem_of_getElem? (i := 1026) (by decide +kernel)⟩
theorem lw_p34 : lw_okq (⟨"ParrotSpeechModel", "isWord", "([I)Z"⟩, 42) := ⟨⟨by decide +kernel, by decide +kernel⟩, List.mem_of_getElem? (i := 853) (by decide +kernel), List.mem_of_getElem? (i := 1029) (by decide +kernel), List.mem_of_getElem? (i := 1030) (by decide +kernel)⟩
theorem lw_p35 : lw_okq (⟨"ParrotSpeechModel", "readsBird", "(I)Z"⟩, 42) := ⟨⟨by decide +kernel, by decide +kernel⟩, List.mem_of_getElem? (i := 853) (by decide +kernel), List.mem_of_getElem? (i := 1033) (by decide +kernel), List.mem_of_getElem? (i := 1034) (by decide +kernel)⟩
theorem lw_p36 : lw_okq (⟨"ParrotSpeechModel", "number", "(I)I"⟩, 42) := ⟨⟨by decide +kernel, by decide +kernel⟩, List.mem_of_getElem? (i := 853) (by decide +kernel), List.mem_of_getElem? (i := 1037) (by decide +kernel), List.mem_of_getElem? (i := 1038) (by decide +kernel)⟩
theorem lw_p37 : lw_okq (⟨"ParrotSpeechModel", "numberHere", "(I)I"⟩, 42) := ⟨⟨by decide +kernel, by decide +kernel⟩, List.mem_of_getElem? (i := 853) (by decide +kernel), List.mem_of_getElem? (i := 1041) (by decide +kernel), List.mem_of_getElem? (i := 1042) (by decide +kernel)⟩
theorem lw_p38 : lw_okq (⟨"ParrotSpeechModel", "readsMan", "()Z"⟩, 42) := ⟨⟨by decide +kernel, by decide +kernel⟩, List.mem_of_getElem? (i := 853) (by decide +kernel), List.mem_of_getElem? (i := 1045) (by decide +kernel), List.mem_of_getElem? (i := 1046) (by decide +kernel)⟩
theorem lw_p39 : lw_okq (⟨"ParrotSpeechModel", "words", "(I)I"⟩, 42) := ⟨⟨by decide +kernel, by decide +kernel⟩, List.mem_of_getElem? (i := 853) (by decide +kernel), List.mem_of_getElem? (i := 1049) (by decide +kernel), List.mem_of_getElem? (i := 1050) (by decide +kernel)⟩
theorem lw_p40 : lw_okq (⟨"ParrotSpeechModel", "readsHarbour", "()Z"⟩, 42) := ⟨⟨by decide +kernel, by decide +kernel⟩, List.mem_of_getElem? (i := 853) (by decide +kernel), List.mem_of_getElem? (i := 1053) (by decide +kernel), List.mem_of_getElem? (i := 1054) (by decide +kernel)⟩
theorem lw_p41 : lw_okq (⟨"ParrotSpeechModel", "readsKnows", "()Z"⟩, 42) := ⟨⟨by decide +kernel, by decide +kernel⟩, List.mem_of_getElem? (i := 853) (by decide +kernel), List.mem_of_getElem? (i := 1057) (by decide +kernel), List.mem_of_getElem? (i := 1058) (by decide +kernel)⟩
theorem lw_p42 : lw_okq (⟨"ParrotSpeechModel", "readsSits", "()Z"⟩, 42) := ⟨⟨by decide +kernel, by decide +kernel⟩, List.mem_of_getElem? (i := 853) (by decide +kernel), List.mem_of_getElem? (i := 1064) (by decide +kernel), List.mem_of_getElem? (i := 1065) (by decide +kernel)⟩
theorem lw_p43 : lw_okq (⟨"ParrotSpeechModel", "readsCover", "()Z"⟩, 42) := ⟨⟨by decide +kernel, by decide +kernel⟩, List.mem_of_getElem? (i := 853) (by decide +kernel), List.mem_of_getElem? (i := 1068) (by decide +kernel), List.mem_of_getElem? (i := 1069) (by decide +kernel)⟩
theorem lw_p44 : lw_okq (⟨"ParrotSpeechModel", "copyHarbour", "(II)V"⟩, 42) := ⟨⟨by decide +kernel, by decide +kernel⟩, List.mem_of_getElem? (i := 853) (by decide +kernel), List.mem_of_getElem? (i := 1072) (by decide +kernel), List.mem_of_getElem? (i := 1073) (by decide +kernel)⟩
theorem lw_p45 : lw_okq (⟨"ParrotSpeechModel", "tongueFault", "()I"⟩, 42) := ⟨⟨by decide +kernel, by decide +kernel⟩, List.mem_of_getElem? (i := 853) (by decide +kernel), List.mem_of_getElem? (i := 1080) (by decide +kernel), List.mem_of_getElem? (i := 1081) (by decide +kernel)⟩
theorem lw_p46 : lw_okq (⟨"ParrotSpeechModel", "layTongue", "()V"⟩, 42) := ⟨⟨by decide +kernel, by decide +kernel⟩, List.mem_of_getElem? (i := 853) (by decide +kernel), List.mem_of_getElem? (i := 1089) (by decide +kernel), List.mem_of_getElem? (i := 1090) (by decide +kernel)⟩
theorem lw_p47 : lw_okq (⟨"ParrotSpeechModel", "isBird", "(I)Z"⟩, 42) := ⟨⟨by decide +kernel, by decide +kernel⟩, List.mem_of_getElem? (i := 853) (by decide +kernel), List.mem_of_getElem? (i := 1097) (by decide +kernel), List.mem_of_getElem? (i := 1098) (by decide +kernel)⟩
def lw_privs_3 : List (MethodName × Nat) := [(⟨"ParrotSpeechModel", "readsClause", "()Z"⟩, 42), (⟨"ParrotSpeechModel", "kindHere", "()I"⟩, 42), (⟨"ParrotSpeechModel", "isWord", "([I)Z"⟩, 42), (⟨"ParrotSpeechModel", "readsBird", "(I)Z"⟩, 42), (⟨"ParrotSpeechModel", "number", "(I)I"⟩, 42), (⟨"ParrotSpeechModel", "numberHere", "(I)I"⟩, 42), (⟨"ParrotSpeechModel", "readsMan", "()Z"⟩, 42), (⟨"ParrotSpeechModel", "words", "(I)I"⟩, 42), (⟨"ParrotSpeechModel", "readsHarbour", "()Z"⟩, 42), (⟨"ParrotSpeechModel", "readsKnows", "()Z"⟩, 42), (⟨"ParrotSpeechModel", "readsSits", "()Z"⟩, 42), (⟨"ParrotSpeechModel", "readsCover", "()Z"⟩, 42), (⟨"ParrotSpeechModel", "copyHarbour", "(II)V"⟩, 42), (⟨"ParrotSpeechModel", "tongueFault", "()I"⟩, 42), (⟨"ParrotSpeechModel", "layTongue", "()V"⟩, 42), (⟨"ParrotSpeechModel", "isBird", "(I)Z"⟩, 42)]
theorem lw_r3 : ∀ q ∈ lw_privs_3, lw_okq q := List.forall_mem_cons.mpr ⟨lw_p32, List.forall_mem_cons.mpr ⟨lw_p33, List.forall_mem_cons.mpr ⟨lw_p34, List.forall_mem_cons.mpr ⟨lw_p35, List.forall_mem_cons.mpr ⟨lw_p36, List.forall_mem_cons.mpr ⟨lw_p37, List.forall_mem_cons.mpr ⟨lw_p38, List.forall_mem_cons.mpr ⟨lw_p39, List.forall_mem_cons.mpr ⟨lw_p40, List.forall_mem_cons.mpr ⟨lw_p41, List.forall_mem_cons.mpr ⟨lw_p42, List.forall_mem_cons.mpr ⟨lw_p43, List.forall_mem_cons.mpr ⟨lw_p44, List.forall_mem_cons.mpr ⟨lw_p45, List.forall_mem_cons.mpr ⟨lw_p46, List.forall_mem_cons.mpr ⟨lw_p47, fun _ h => absurd h List.not_mem_nil⟩⟩⟩⟩⟩⟩⟩⟩⟩⟩⟩⟩⟩⟩⟩⟩
theorem lw_p48 : lw_okq (⟨"ParrotSpeechModel", "manOf", "(II)I"⟩, 42) := ⟨⟨by decide +kernel, by decide +kernel⟩, List.mem_of_getElem? (i := 853) (by decide +kernel), List.mem_of_getElem? (i := 1101) (by decide +kernel), List.mem_of_getElem? (i := 1102) (by decide +kernel)⟩
theorem lw_p49 : lw_okq (⟨"ParrotSpeechModel", "wellKnown", "(II)I"⟩, 42) := ⟨⟨by decide +kernel, by decide +kernel⟩, List.mem_of_getElem? (i := 853) (by decide +kernel), List.mem_of_getElem? (i := 1105) (by decide +kernel), List.mem_of_getElem? (i := 1106) (by decide +kernel)⟩
theorem lw_p50 : lw_okq (⟨"ParrotSpeechModel", "isMan", "(I)Z"⟩, 42) := ⟨⟨by decide +kernel, by decide +kernel⟩, List.mem_of_getElem? (i := 853) (by decide +kernel), List.mem_of_getElem? (i := 1113) (by decide +kernel), List.mem_of_getElem? (i := 1114) (by decide +kernel)⟩
theorem lw_p51 : lw_okq (⟨"ParrotSpeechModel", "layTried", "()V"⟩, 42) := ⟨⟨by decide +kernel, by decide +kernel⟩, List.mem_of_getElem? (i := 853) (by decide +kernel), List.mem_of_getElem? (i := 1134) (by decide +kernel), List.mem_of_getElem? (i := 1135) (by decide +kernel)⟩
theorem lw_p52 : lw_okq (⟨"ParrotSpeechModel", "passTried", "(I)V"⟩, 42) := ⟨⟨by decide +kernel, by decide +kernel⟩, List.mem_of_getElem? (i := 853) (by decide +kernel), List.mem_of_getElem? (i := 1138) (by decide +kernel), List.mem_of_getElem? (i := 1139) (by decide +kernel)⟩
theorem lw_p53 : lw_okq (⟨"ParrotSpeechModel", "passes", "(I)V"⟩, 42) := ⟨⟨by decide +kernel, by decide +kernel⟩, List.mem_of_getElem? (i := 853) (by decide +kernel), List.mem_of_getElem? (i := 1142) (by decide +kernel), List.mem_of_getElem? (i := 1143) (by decide +kernel)⟩
theorem lw_p54 : lw_okq (⟨"ParrotSpeechModel", "handOver", "(I)V"⟩, 42) := ⟨⟨by decide +kernel, by decide +kernel⟩, List.mem_of_getElem? (i := 853) (by decide +kernel), List.mem_of_getElem? (i := 1146) (by decide +kernel), List.mem_of_getElem? (i := 1147) (by decide +kernel)⟩
theorem lw_p55 : lw_okq (⟨"ParrotSpeechModel", "isOpen", "(II)Z"⟩, 42) := ⟨⟨by decide +kernel, by decide +kernel⟩, List.mem_of_getElem? (i := 853) (by decide +kernel), List.mem_of_getElem? (i := 1150) (by decide +kernel), List.mem_of_getElem? (i := 1151) (by decide +kernel)⟩
theorem lw_p56 : lw_okq (⟨"ParrotSpeechModel", "learns", "(IIII)V"⟩, 42) := ⟨⟨by decide +kernel, by decide +kernel⟩, List.mem_of_getElem? (i := 853) (by decide +kernel), List.mem_of_getElem? (i := 1154) (by decide +kernel), List.mem_of_getElem? (i := 1155) (by decide +kernel)⟩
theorem lw_p57 : lw_okq (⟨"ParrotSpeechModel", "isSilent", "(II)Z"⟩, 42) := ⟨⟨by decide +kernel, by decide +kernel⟩, List.mem_of_getElem? (i := 853) (by decide +kernel), List.mem_of_getElem? (i := 1158) (by decide +kernel), List.mem_of_getElem? (i := 1159) (by decide +kernel)⟩
theorem lw_p58 : lw_okq (⟨"ParrotSpeechModel", "speak", "(II)V"⟩, 42) := ⟨⟨by decide +kernel, by decide +kernel⟩, List.mem_of_getElem? (i := 853) (by decide +kernel), List.mem_of_getElem? (i := 1162) (by decide +kernel), List.mem_of_getElem? (i := 1163) (by decide +kernel)⟩
theorem lw_p59 : lw_okq (⟨"ParrotSpeechModel", "bestWord", "(III)I"⟩, 42) := ⟨⟨by decide +kernel, by decide +kernel⟩, List.mem_of_getElem? (i := 853) (by decide +kernel), List.mem_of_getElem? (i := 1166) (by decide +kernel), List.mem_of_getElem? (i := 1167) (by decide +kernel)⟩
theorem lw_p60 : lw_okq (⟨"ParrotSpeechModel", "say", "(IIII)V"⟩, 42) := ⟨⟨by decide +kernel, by decide +kernel⟩, List.mem_of_getElem? (i := 853) (by decide +kernel), List.mem_of_getElem? (i := 1173) (by decide +kernel), List.mem_of_getElem? (i := 1174) (by decide +kernel)⟩
theorem lw_p61 : lw_okq (⟨"ParrotSpeechModel", "lose", "(I)V"⟩, 42) := ⟨⟨by decide +kernel, by decide +kernel⟩, List.mem_of_getElem? (i := 853) (by decide +kernel), List.mem_of_getElem? (i := 1180) (by decide +kernel), List.mem_of_getElem? (i := 1181) (by decide +kernel)⟩
theorem lw_p62 : lw_okq (⟨"ParrotSpeechModel", "keepPast", "()V"⟩, 42) := ⟨⟨by decide +kernel, by decide +kernel⟩, List.mem_of_getElem? (i := 853) (by decide +kernel), List.mem_of_getElem? (i := 1193) (by decide +kernel), List.mem_of_getElem? (i := 1194) (by decide +kernel)⟩
theorem lw_p63 : lw_okq (⟨"ParrotSpeechModel", "sets", "(III)V"⟩, 42) := ⟨⟨by decide +kernel, by decide +kernel⟩, List.mem_of_getElem? (i := 853) (by decide +kernel), List.mem_of_getElem? (i := 1218) (by decide +kernel), List.mem_of_getElem? (i := 1219) (by decide +kernel)⟩
def lw_privs_4 : List (MethodName × Nat) := [(⟨"ParrotSpeechModel", "manOf", "(II)I"⟩, 42), (⟨"ParrotSpeechModel", "wellKnown", "(II)I"⟩, 42), (⟨"ParrotSpeechModel", "isMan", "(I)Z"⟩, 42), (⟨"ParrotSpeechModel", "layTried", "()V"⟩, 42), (⟨"ParrotSpeechModel", "passTried", "(I)V"⟩, 42), (⟨"ParrotSpeechModel", "passes", "(I)V"⟩, 42), (⟨"ParrotSpeechModel", "handOver", "(I)V"⟩, 42), (⟨"ParrotSpeechModel", "isOpen", "(II)Z"⟩, 42), (⟨"ParrotSpeechModel", "learns", "(IIII)V"⟩, 42), (⟨"ParrotSpeechModel", "isSilent", "(II)Z"⟩, 42), (⟨"ParrotSpeechModel", "speak", "(II)V"⟩, 42), (⟨"ParrotSpeechModel", "bestWord", "(III)I"⟩, 42), (⟨"ParrotSpeechModel", "say", "(IIII)V"⟩, 42), (⟨"ParrotSpeechModel", "lose", "(I)V"⟩, 42), (⟨"ParrotSpeechModel", "keepPast", "()V"⟩, 42), (⟨"ParrotSpeechModel", "sets", "(III)V"⟩, 42)]
theorem lw_r4 : ∀ q ∈ lw_privs_4, lw_okq q := List.forall_mem_cons.mpr ⟨lw_p48, List.forall_mem_cons.mpr ⟨lw_p49, List.forall_mem_cons.mpr ⟨lw_p50, List.forall_mem_cons.mpr ⟨lw_p51, List.forall_mem_cons.mpr ⟨lw_p52, List.forall_mem_cons.mpr ⟨lw_p53, List.forall_mem_cons.mpr ⟨lw_p54, List.forall_mem_cons.mpr ⟨lw_p55, List.forall_mem_cons.mpr ⟨lw_p56, List.forall_mem_cons.mpr ⟨lw_p57, List.forall_mem_cons.mpr ⟨lw_p58, List.forall_mem_cons.mpr ⟨lw_p59, List.forall_mem_cons.mpr ⟨lw_p60, List.forall_mem_cons.mpr ⟨lw_p61, List.forall_mem_cons.mpr ⟨lw_p62, List.forall_mem_cons.mpr ⟨lw_p63, fun _ h => absurd h List.not_mem_nil⟩⟩⟩⟩⟩⟩⟩⟩⟩⟩⟩⟩⟩⟩⟩⟩
theorem lw_p64 : lw_okq (⟨"ParrotSpeechModel", "saidAt", "(II)I"⟩, 42) := ⟨⟨by decide +kernel, by decide +kernel⟩, List.mem_of_getElem? (i := 853) (by decide +kernel), List.mem_of_getElem? (i := 1239) (by decide +kernel), List.mem_of_getElem? (i := 1240) (by decide +kernel)⟩
theorem lw_p65 : lw_okq (⟨"ParrotSpeechModel", "keptBy", "(III)I"⟩, 42) := ⟨⟨by decide +kernel, by decide +kernel⟩, List.mem_of_getElem? (i := 853) (by decide +kernel), List.mem_of_getElem? (i := 1252) (by decide +kernel), List.mem_of_getElem? (i := 1253) (by decide +kernel)⟩
theorem lw_p66 : lw_okq (⟨"ParrotSpeechModel", "keptByLine", "()I"⟩, 42) := ⟨⟨by decide +kernel, by decide +kernel⟩, List.mem_of_getElem? (i := 853) (by decide +kernel), List.mem_of_getElem? (i := 1263) (by decide +kernel), List.mem_of_getElem? (i := 1264) (by decide +kernel)⟩
theorem lw_p67 : lw_okq (⟨"ParrotSpeechModel", "nextLine", "()Z"⟩, 42) := ⟨⟨by decide +kernel, by decide +kernel⟩, List.mem_of_getElem? (i := 853) (by decide +kernel), List.mem_of_getElem? (i := 1267) (by decide +kernel), List.mem_of_getElem? (i := 1268) (by decide +kernel)⟩
theorem lw_p68 : lw_okq (⟨"ParrotSpeechModel", "goOnAll", "()V"⟩, 42) := ⟨⟨by decide +kernel, by decide +kernel⟩, List.mem_of_getElem? (i := 853) (by decide +kernel), List.mem_of_getElem? (i := 1279) (by decide +kernel), List.mem_of_getElem? (i := 1280) (by decide +kernel)⟩
theorem lw_p69 : lw_okq (⟨"ParrotSpeechModel", "goesOn", "(I)Z"⟩, 42) := ⟨⟨by decide +kernel, by decide +kernel⟩, List.mem_of_getElem? (i := 853) (by decide +kernel), List.mem_of_getElem? (i := 1283) (by decide +kernel), List.mem_of_getElem? (i := 1284) (by decide +kernel)⟩
theorem lw_p70 : lw_okq (⟨"ParrotSpeechModel", "mark", "(I)Z"⟩, 42) := ⟨⟨by decide +kernel, by decide +kernel⟩, List.mem_of_getElem? (i := 853) (by decide +kernel), List.mem_of_getElem? (i := 1287) (by decide +kernel), List.mem_of_getElem? (i := 1288) (by decide +kernel)⟩
theorem lw_p71 : lw_okq (⟨"ParrotSpeechModel", "hearWord", "(I)V"⟩, 42) := ⟨⟨by decide +kernel, by decide +kernel⟩, List.mem_of_getElem? (i := 853) (by decide +kernel), List.mem_of_getElem? (i := 1291) (by decide +kernel), List.mem_of_getElem? (i := 1292) (by decide +kernel)⟩
theorem lw_p72 : lw_okq (⟨"ParrotSpeechModel", "noPlace", "(III)I"⟩, 42) := ⟨⟨by decide +kernel, by decide +kernel⟩, List.mem_of_getElem? (i := 853) (by decide +kernel), List.mem_of_getElem? (i := 1324) (by decide +kernel), List.mem_of_getElem? (i := 1325) (by decide +kernel)⟩
theorem lw_p73 : lw_okq (⟨"ParrotSpeechModel", "isSpan", "(III)Z"⟩, 42) := ⟨⟨by decide +kernel, by decide +kernel⟩, List.mem_of_getElem? (i := 853) (by decide +kernel), List.mem_of_getElem? (i := 1339) (by decide +kernel), List.mem_of_getElem? (i := 1340) (by decide +kernel)⟩
theorem lw_p74 : lw_okq (⟨"ParrotSpeechModel", "menWords", "()I"⟩, 42) := ⟨⟨by decide +kernel, by decide +kernel⟩, List.mem_of_getElem? (i := 853) (by decide +kernel), List.mem_of_getElem? (i := 1351) (by decide +kernel), List.mem_of_getElem? (i := 1352) (by decide +kernel)⟩
theorem lw_p75 : lw_okq (⟨"ParrotSpeechModel", "reelsThere", "()I"⟩, 42) := ⟨⟨by decide +kernel, by decide +kernel⟩, List.mem_of_getElem? (i := 853) (by decide +kernel), List.mem_of_getElem? (i := 1355) (by decide +kernel), List.mem_of_getElem? (i := 1356) (by decide +kernel)⟩
theorem lw_p76 : lw_okq (⟨"ParrotSpeechModel", "allWellKnown", "()I"⟩, 42) := ⟨⟨by decide +kernel, by decide +kernel⟩, List.mem_of_getElem? (i := 853) (by decide +kernel), List.mem_of_getElem? (i := 1359) (by decide +kernel), List.mem_of_getElem? (i := 1360) (by decide +kernel)⟩
def lw_privs_5 : List (MethodName × Nat) := [(⟨"ParrotSpeechModel", "saidAt", "(II)I"⟩, 42), (⟨"ParrotSpeechModel", "keptBy", "(III)I"⟩, 42), (⟨"ParrotSpeechModel", "keptByLine", "()I"⟩, 42), (⟨"ParrotSpeechModel", "nextLine", "()Z"⟩, 42), (⟨"ParrotSpeechModel", "goOnAll", "()V"⟩, 42), (⟨"ParrotSpeechModel", "goesOn", "(I)Z"⟩, 42), (⟨"ParrotSpeechModel", "mark", "(I)Z"⟩, 42), (⟨"ParrotSpeechModel", "hearWord", "(I)V"⟩, 42), (⟨"ParrotSpeechModel", "noPlace", "(III)I"⟩, 42), (⟨"ParrotSpeechModel", "isSpan", "(III)Z"⟩, 42), (⟨"ParrotSpeechModel", "menWords", "()I"⟩, 42), (⟨"ParrotSpeechModel", "reelsThere", "()I"⟩, 42), (⟨"ParrotSpeechModel", "allWellKnown", "()I"⟩, 42)]
theorem lw_r5 : ∀ q ∈ lw_privs_5, lw_okq q := List.forall_mem_cons.mpr ⟨lw_p64, List.forall_mem_cons.mpr ⟨lw_p65, List.forall_mem_cons.mpr ⟨lw_p66, List.forall_mem_cons.mpr ⟨lw_p67, List.forall_mem_cons.mpr ⟨lw_p68, List.forall_mem_cons.mpr ⟨lw_p69, List.forall_mem_cons.mpr ⟨lw_p70, List.forall_mem_cons.mpr ⟨lw_p71, List.forall_mem_cons.mpr ⟨lw_p72, List.forall_mem_cons.mpr ⟨lw_p73, List.forall_mem_cons.mpr ⟨lw_p74, List.forall_mem_cons.mpr ⟨lw_p75, List.forall_mem_cons.mpr ⟨lw_p76, fun _ h => absurd h List.not_mem_nil⟩⟩⟩⟩⟩⟩⟩⟩⟩⟩⟩⟩⟩
def lw_privs : List (MethodName × Nat) := lw_privs_1 ++ (lw_privs_2 ++ (lw_privs_3 ++ (lw_privs_4 ++ (lw_privs_5))))
def lw_tbl : List Cond := k2_sels lw_privs ++ tables_1
theorem lw_privs_ok : ∀ q ∈ lw_privs, lw_okq q := by
  show ∀ q ∈ lw_privs_1 ++ (lw_privs_2 ++ (lw_privs_3 ++ (lw_privs_4 ++ (lw_privs_5)))), lw_okq q
  exact List.forall_mem_append.mpr ⟨lw_r1, List.forall_mem_append.mpr ⟨lw_r2, List.forall_mem_append.mpr ⟨lw_r3, List.forall_mem_append.mpr ⟨lw_r4, lw_r5⟩⟩⟩⟩
def RX0 : String := "ParrotSpeech$HarbourReader"
def TX0 : u_T := fun k => match k with
  | 0 => ("ParrotSpeech$HarbourReader", "text", "LParrotSpeech$Text;", true)
  | 1 => ("ParrotSpeech$HarbourReader", "world", "LParrotSpeech$World;", true)
  | _ => ("ParrotSpeech$HarbourReader", "clauses", "I", false)
def tyX0 : Nat → FieldType := fun k => match k with
  | 0 => .object "ParrotSpeech$Text"
  | 1 => .object "ParrotSpeech$World"
  | _ => .int
abbrev wsX00 : List Cond := u_ws RX0 TX0 3
theorem nmX0 : ∀ a, a < 3 → ∀ b, b < 3 → a ≠ b → (TX0 a).2.1 ≠ (TX0 b).2.1 := by decide +kernel
theorem tyX0_ok : ∀ k, k < 3 → parseFieldDescriptor (TX0 k).2.2.1 = some (tyX0 k) := by decide +kernel
abbrev cX0_init : ByteArray := prog_2_method_1_code
def yX0_init : MethodName := ⟨RX0, "<init>", "(LParrotSpeech$Text;)V"⟩
abbrev cX0_readOver : ByteArray := prog_2_method_2_code
def yX0_readOver : MethodName := ⟨RX0, "readOver", "(LParrotSpeech$World;)I"⟩
abbrev cX0_readClause : ByteArray := prog_2_method_3_code
def yX0_readClause : MethodName := ⟨RX0, "readClause", "()Z"⟩
abbrev cX0_kindNamed : ByteArray := prog_2_method_4_code
def yX0_kindNamed : MethodName := ⟨RX0, "kindNamed", "()I"⟩
abbrev cX0_readBird : ByteArray := prog_2_method_5_code
def yX0_readBird : MethodName := ⟨RX0, "readBird", "(I)Z"⟩
abbrev cX0_readMan : ByteArray := prog_2_method_6_code
def yX0_readMan : MethodName := ⟨RX0, "readMan", "()Z"⟩
abbrev cX0_readKnows : ByteArray := prog_2_method_7_code
def yX0_readKnows : MethodName := ⟨RX0, "readKnows", "()Z"⟩
abbrev cX0_readSits : ByteArray := prog_2_method_8_code
def yX0_readSits : MethodName := ⟨RX0, "readSits", "()Z"⟩
abbrev cX0_readCover : ByteArray := prog_2_method_9_code
def yX0_readCover : MethodName := ⟨RX0, "readCover", "()Z"⟩
abbrev cX0_readNumber : ByteArray := prog_2_method_10_code
def yX0_readNumber : MethodName := ⟨RX0, "readNumber", "(I)I"⟩
def RX1 : String := "ParrotSpeech$History"
def TX1 : u_T := fun k => match k with
  | 0 => ("ParrotSpeech$History", "before", "[LParrotSpeech$World;", true)
  | 1 => ("ParrotSpeech$History", "kept", "[LParrotSpeech$World;", true)
  | 2 => ("ParrotSpeech$History", "next", "I", false)
  | 3 => ("ParrotSpeech$History", "storedBits", "I", false)
  | _ => ("ParrotSpeech$History", "size", "I", false)
def tyX1 : Nat → FieldType := fun k => match k with
  | 0 => .array (.object "ParrotSpeech$World")
  | 1 => .array (.object "ParrotSpeech$World")
  | 2 => .int
  | 3 => .int
  | _ => .int
abbrev wsX10 : List Cond := u_ws RX1 TX1 5
theorem nmX1 : ∀ a, a < 5 → ∀ b, b < 5 → a ≠ b → (TX1 a).2.1 ≠ (TX1 b).2.1 := by decide +kernel
theorem tyX1_ok : ∀ k, k < 5 → parseFieldDescriptor (TX1 k).2.2.1 = some (tyX1 k) := by decide +kernel
abbrev cX1_init : ByteArray := prog_3_method_1_code
def yX1_init : MethodName := ⟨RX1, "<init>", "()V"⟩
abbrev cX1_clear : ByteArray := prog_3_method_2_code
def yX1_clear : MethodName := ⟨RX1, "clear", "()V"⟩
abbrev cX1_remember : ByteArray := prog_3_method_3_code
def yX1_remember : MethodName := ⟨RX1, "remember", "(LParrotSpeech$World;)V"⟩
abbrev cX1_takeBack : ByteArray := prog_3_method_4_code
def yX1_takeBack : MethodName := ⟨RX1, "takeBack", "(LParrotSpeech$World;)V"⟩
abbrev cX1_store : ByteArray := prog_3_method_5_code
def yX1_store : MethodName := ⟨RX1, "store", "(ILParrotSpeech$World;)V"⟩
abbrev cX1_isStored : ByteArray := prog_3_method_6_code
def yX1_isStored : MethodName := ⟨RX1, "isStored", "(I)Z"⟩
abbrev cX1_restore : ByteArray := prog_3_method_7_code
def yX1_restore : MethodName := ⟨RX1, "restore", "(ILParrotSpeech$World;)V"⟩
def RX2 : String := "ParrotSpeech$Reel"
def TX2 : u_T := fun k => match k with
  | 0 => ("ParrotSpeech$Reel", "places", "[I", true)
  | 1 => ("ParrotSpeech$Reel", "there", "Z", false)
  | 2 => ("ParrotSpeech$Reel", "sort", "I", false)
  | _ => ("ParrotSpeech$Reel", "length", "I", false)
def tyX2 : Nat → FieldType := fun k => match k with
  | 0 => .array .int
  | 1 => .boolean
  | 2 => .int
  | _ => .int
abbrev wsX20 : List Cond := u_ws RX2 TX2 4
theorem nmX2 : ∀ a, a < 4 → ∀ b, b < 4 → a ≠ b → (TX2 a).2.1 ≠ (TX2 b).2.1 := by decide +kernel
theorem tyX2_ok : ∀ k, k < 4 → parseFieldDescriptor (TX2 k).2.2.1 = some (tyX2 k) := by decide +kernel
abbrev cX2_init : ByteArray := prog_4_method_1_code
def yX2_init : MethodName := ⟨RX2, "<init>", "()V"⟩
abbrev cX2_wind : ByteArray := prog_4_method_2_code
def yX2_wind : MethodName := ⟨RX2, "wind", "(II)V"⟩
abbrev cX2_find : ByteArray := prog_4_method_3_code
def yX2_find : MethodName := ⟨RX2, "find", "(II)I"⟩
abbrev cX2_holds : ByteArray := prog_4_method_4_code
def yX2_holds : MethodName := ⟨RX2, "holds", "(II)Z"⟩
abbrev cX2_put : ByteArray := prog_4_method_5_code
def yX2_put : MethodName := ⟨RX2, "put", "(II)I"⟩
abbrev cX2_sound : ByteArray := prog_4_method_6_code
def yX2_sound : MethodName := ⟨RX2, "sound", "(I)I"⟩
def RX3 : String := "ParrotSpeech$Sightings"
def TX3 : u_T := fun k => match k with
  | 0 => ("ParrotSpeech$Sightings", "perches", "[I", true)
  | 1 => ("ParrotSpeech$Sightings", "turns", "[I", true)
  | 2 => ("ParrotSpeech$Sightings", "words", "[I", true)
  | _ => ("ParrotSpeech$Sightings", "size", "I", false)
def tyX3 : Nat → FieldType := fun k => match k with
  | 0 => .array .int
  | 1 => .array .int
  | 2 => .array .int
  | _ => .int
abbrev wsX30 : List Cond := u_ws RX3 TX3 4
theorem nmX3 : ∀ a, a < 4 → ∀ b, b < 4 → a ≠ b → (TX3 a).2.1 ≠ (TX3 b).2.1 := by decide +kernel
theorem tyX3_ok : ∀ k, k < 4 → parseFieldDescriptor (TX3 k).2.2.1 = some (tyX3 k) := by decide +kernel
abbrev cX3_init : ByteArray := prog_5_method_1_code
def yX3_init : MethodName := ⟨RX3, "<init>", "()V"⟩
abbrev cX3_clear : ByteArray := prog_5_method_2_code
def yX3_clear : MethodName := ⟨RX3, "clear", "()V"⟩
abbrev cX3_add : ByteArray := prog_5_method_3_code
def yX3_add : MethodName := ⟨RX3, "add", "(III)V"⟩
abbrev cX3_agreeWith : ByteArray := prog_5_method_4_code
def yX3_agreeWith : MethodName := ⟨RX3, "agreeWith", "(LParrotSpeech$Speech;)Z"⟩
def RX4 : String := "ParrotSpeech$Speech"
def TX4 : u_T := fun k => match k with
  | 0 => ("ParrotSpeech$Speech", "words", "[I", true)
  | _ => ("ParrotSpeech$Speech", "count", "[I", true)
def tyX4 : Nat → FieldType := fun k => match k with
  | 0 => .array .int
  | _ => .array .int
abbrev wsX40 : List Cond := u_ws RX4 TX4 2
theorem nmX4 : ∀ a, a < 2 → ∀ b, b < 2 → a ≠ b → (TX4 a).2.1 ≠ (TX4 b).2.1 := by decide +kernel
theorem tyX4_ok : ∀ k, k < 2 → parseFieldDescriptor (TX4 k).2.2.1 = some (tyX4 k) := by decide +kernel
abbrev cX4_init : ByteArray := prog_6_method_1_code
def yX4_init : MethodName := ⟨RX4, "<init>", "()V"⟩
abbrev cX4_clear : ByteArray := prog_6_method_2_code
def yX4_clear : MethodName := ⟨RX4, "clear", "()V"⟩
abbrev cX4_add : ByteArray := prog_6_method_3_code
def yX4_add : MethodName := ⟨RX4, "add", "(II)V"⟩
abbrev cX4_wordAt : ByteArray := prog_6_method_4_code
def yX4_wordAt : MethodName := ⟨RX4, "wordAt", "(II)I"⟩
def RX5 : String := "ParrotSpeech$Text"
def TX5 : u_T := fun k => match k with
  | 0 => ("ParrotSpeech$Text", "letters", "[I", true)
  | 1 => ("ParrotSpeech$Text", "length", "I", false)
  | 2 => ("ParrotSpeech$Text", "place", "I", false)
  | _ => ("ParrotSpeech$Text", "behind", "I", false)
def tyX5 : Nat → FieldType := fun k => match k with
  | 0 => .array .int
  | 1 => .int
  | 2 => .int
  | _ => .int
abbrev wsX50 : List Cond := u_ws RX5 TX5 4
theorem nmX5 : ∀ a, a < 4 → ∀ b, b < 4 → a ≠ b → (TX5 a).2.1 ≠ (TX5 b).2.1 := by decide +kernel
theorem tyX5_ok : ∀ k, k < 4 → parseFieldDescriptor (TX5 k).2.2.1 = some (tyX5 k) := by decide +kernel
abbrev cX5_init : ByteArray := prog_7_method_1_code
def yX5_init : MethodName := ⟨RX5, "<init>", "()V"⟩
abbrev cX5_add : ByteArray := prog_7_method_2_code
def yX5_add : MethodName := ⟨RX5, "add", "(I)V"⟩
abbrev cX5_clear : ByteArray := prog_7_method_3_code
def yX5_clear : MethodName := ⟨RX5, "clear", "()V"⟩
abbrev cX5_begin : ByteArray := prog_7_method_4_code
def yX5_begin : MethodName := ⟨RX5, "begin", "()V"⟩
abbrev cX5_readToken : ByteArray := prog_7_method_5_code
def yX5_readToken : MethodName := ⟨RX5, "readToken", "()V"⟩
abbrev cX5_readLetter : ByteArray := prog_7_method_6_code
def yX5_readLetter : MethodName := ⟨RX5, "readLetter", "()V"⟩
abbrev cX5_isOver : ByteArray := prog_7_method_7_code
def yX5_isOver : MethodName := ⟨RX5, "isOver", "()Z"⟩
abbrev cX5_isSign : ByteArray := prog_7_method_8_code
def yX5_isSign : MethodName := ⟨RX5, "isSign", "(C)Z"⟩
abbrev cX5_isRow : ByteArray := prog_7_method_9_code
def yX5_isRow : MethodName := ⟨RX5, "isRow", "(Ljava/lang/String;)Z"⟩
abbrev cX5_numberBelow : ByteArray := prog_7_method_10_code
def yX5_numberBelow : MethodName := ⟨RX5, "numberBelow", "(I)I"⟩
abbrev cX5_oneWord : ByteArray := prog_7_method_11_code
def yX5_oneWord : MethodName := ⟨RX5, "oneWord", "()I"⟩
abbrev cX5_risingWords : ByteArray := prog_7_method_12_code
def yX5_risingWords : MethodName := ⟨RX5, "risingWords", "()I"⟩
abbrev cX5_wordOf : ByteArray := prog_7_method_13_code
def yX5_wordOf : MethodName := ⟨RX5, "wordOf", "(I)I"⟩
abbrev cX5_sortOf : ByteArray := prog_7_method_14_code
def yX5_sortOf : MethodName := ⟨RX5, "sortOf", "(I)I"⟩
def RX6 : String := "ParrotSpeech$Tongue"
def TX6 : u_T := fun k => match k with
  | 0 => ("ParrotSpeech$Tongue", "signs", "[I", true)
  | 1 => ("ParrotSpeech$Tongue", "closedAt", "[I", true)
  | 2 => ("ParrotSpeech$Tongue", "open", "[I", true)
  | 3 => ("ParrotSpeech$Tongue", "heard", "[I", true)
  | 4 => ("ParrotSpeech$Tongue", "heardCount", "I", false)
  | 5 => ("ParrotSpeech$Tongue", "length", "I", false)
  | _ => ("ParrotSpeech$Tongue", "words", "I", false)
def tyX6 : Nat → FieldType := fun k => match k with
  | 0 => .array .int
  | 1 => .array .int
  | 2 => .array .int
  | 3 => .array .int
  | 4 => .int
  | 5 => .int
  | _ => .int
abbrev wsX60 : List Cond := u_ws RX6 TX6 7
theorem nmX6 : ∀ a, a < 7 → ∀ b, b < 7 → a ≠ b → (TX6 a).2.1 ≠ (TX6 b).2.1 := by decide +kernel
theorem tyX6_ok : ∀ k, k < 7 → parseFieldDescriptor (TX6 k).2.2.1 = some (tyX6 k) := by decide +kernel
abbrev cX6_init : ByteArray := prog_8_method_1_code
def yX6_init : MethodName := ⟨RX6, "<init>", "()V"⟩
abbrev cX6_faultIn : ByteArray := prog_8_method_2_code
def yX6_faultIn : MethodName := ⟨RX6, "faultIn", "(LParrotSpeech$Text;)I"⟩
abbrev cX6_take : ByteArray := prog_8_method_3_code
def yX6_take : MethodName := ⟨RX6, "take", "(LParrotSpeech$Text;)V"⟩
abbrev cX6_endsIn : ByteArray := prog_8_method_4_code
def yX6_endsIn : MethodName := ⟨RX6, "endsIn", "(LParrotSpeech$Speech;I)I"⟩
abbrev cX6_sumEnds : ByteArray := prog_8_method_5_code
def yX6_sumEnds : MethodName := ⟨RX6, "sumEnds", "(IIII)I"⟩
abbrev cX6_behindPart : ByteArray := prog_8_method_6_code
def yX6_behindPart : MethodName := ⟨RX6, "behindPart", "(I)I"⟩
abbrev cX6_repeatedEnds : ByteArray := prog_8_method_7_code
def yX6_repeatedEnds : MethodName := ⟨RX6, "repeatedEnds", "(IIII)I"⟩
abbrev cX6_partEnds : ByteArray := prog_8_method_8_code
def yX6_partEnds : MethodName := ⟨RX6, "partEnds", "(IIII)I"⟩
abbrev cX6_wordEnds : ByteArray := prog_8_method_9_code
def yX6_wordEnds : MethodName := ⟨RX6, "wordEnds", "(II)I"⟩
def RX7 : String := "ParrotSpeech$World"
def TX7 : u_T := fun k => match k with
  | 0 => ("ParrotSpeech$World", "birds", "I", false)
  | 1 => ("ParrotSpeech$World", "men", "I", false)
  | 2 => ("ParrotSpeech$World", "evening", "I", false)
  | 3 => ("ParrotSpeech$World", "covered", "I", false)
  | 4 => ("ParrotSpeech$World", "kind", "[I", true)
  | 5 => ("ParrotSpeech$World", "standsOn", "[I", true)
  | 6 => ("ParrotSpeech$World", "knows", "[I", true)
  | 7 => ("ParrotSpeech$World", "has", "[I", true)
  | _ => ("ParrotSpeech$World", "beside", "[I", true)
def tyX7 : Nat → FieldType := fun k => match k with
  | 0 => .int
  | 1 => .int
  | 2 => .int
  | 3 => .int
  | 4 => .array .int
  | 5 => .array .int
  | 6 => .array .int
  | 7 => .array .int
  | _ => .array .int
abbrev wsX70 : List Cond := u_ws RX7 TX7 9
theorem nmX7 : ∀ a, a < 9 → ∀ b, b < 9 → a ≠ b → (TX7 a).2.1 ≠ (TX7 b).2.1 := by decide +kernel
theorem tyX7_ok : ∀ k, k < 9 → parseFieldDescriptor (TX7 k).2.2.1 = some (tyX7 k) := by decide +kernel
abbrev cX7_init : ByteArray := prog_9_method_1_code
def yX7_init : MethodName := ⟨RX7, "<init>", "()V"⟩
abbrev cX7_become : ByteArray := prog_9_method_2_code
def yX7_become : MethodName := ⟨RX7, "become", "(LParrotSpeech$World;)V"⟩
abbrev cX7_clear : ByteArray := prog_9_method_3_code
def yX7_clear : MethodName := ⟨RX7, "clear", "()V"⟩
abbrev cX7_addBird : ByteArray := prog_9_method_4_code
def yX7_addBird : MethodName := ⟨RX7, "addBird", "(II)V"⟩
abbrev cX7_addMan : ByteArray := prog_9_method_5_code
def yX7_addMan : MethodName := ⟨RX7, "addMan", "(I)V"⟩
abbrev cX7_isCovered : ByteArray := prog_9_method_6_code
def yX7_isCovered : MethodName := ⟨RX7, "isCovered", "(I)Z"⟩
abbrev cX7_knowledge : ByteArray := prog_9_method_7_code
def yX7_knowledge : MethodName := ⟨RX7, "knowledge", "(II)I"⟩
abbrev cX7_allKnowledge : ByteArray := prog_9_method_8_code
def yX7_allKnowledge : MethodName := ⟨RX7, "allKnowledge", "(I)I"⟩
abbrev cX7_wellKnown : ByteArray := prog_9_method_9_code
def yX7_wellKnown : MethodName := ⟨RX7, "wellKnown", "(I)I"⟩
abbrev cX7_wellKnownBySome : ByteArray := prog_9_method_10_code
def yX7_wellKnownBySome : MethodName := ⟨RX7, "wellKnownBySome", "()I"⟩
abbrev cX7_allWordsOfMen : ByteArray := prog_9_method_11_code
def yX7_allWordsOfMen : MethodName := ⟨RX7, "allWordsOfMen", "()I"⟩
abbrev cX7_manBeside : ByteArray := prog_9_method_12_code
def yX7_manBeside : MethodName := ⟨RX7, "manBeside", "(I)I"⟩
abbrev cX7_seat : ByteArray := prog_9_method_13_code
def yX7_seat : MethodName := ⟨RX7, "seat", "(II)V"⟩
abbrev cX7_learn : ByteArray := prog_9_method_14_code
def yX7_learn : MethodName := ⟨RX7, "learn", "(III)V"⟩
abbrev cX7_halve : ByteArray := prog_9_method_15_code
def yX7_halve : MethodName := ⟨RX7, "halve", "(I)V"⟩
abbrev cX7_hearable : ByteArray := prog_9_method_16_code
def yX7_hearable : MethodName := ⟨RX7, "hearable", "(I)I"⟩
abbrev cX7_passEvening : ByteArray := prog_9_method_17_code
def yX7_passEvening : MethodName := ⟨RX7, "passEvening", "(LParrotSpeech$Speech;)V"⟩
abbrev cX7_handOver : ByteArray := prog_9_method_18_code
def yX7_handOver : MethodName := ⟨RX7, "handOver", "(I)V"⟩
abbrev cX7_awakeOn : ByteArray := prog_9_method_19_code
def yX7_awakeOn : MethodName := ⟨RX7, "awakeOn", "(I)I"⟩
abbrev cX7_isSilenced : ByteArray := prog_9_method_20_code
def yX7_isSilenced : MethodName := ⟨RX7, "isSilenced", "(I)Z"⟩
abbrev cX7_speakOn : ByteArray := prog_9_method_21_code
def yX7_speakOn : MethodName := ⟨RX7, "speakOn", "(IILParrotSpeech$Speech;)V"⟩
abbrev cX7_speak : ByteArray := prog_9_method_22_code
def yX7_speak : MethodName := ⟨RX7, "speak", "(IIILParrotSpeech$Speech;)V"⟩
abbrev cX7_bestKnown : ByteArray := prog_9_method_23_code
def yX7_bestKnown : MethodName := ⟨RX7, "bestKnown", "(II)I"⟩
abbrev cX7_spread : ByteArray := prog_9_method_24_code
def yX7_spread : MethodName := ⟨RX7, "spread", "(II)V"⟩
abbrev cX7_lose : ByteArray := prog_9_method_25_code
def yX7_lose : MethodName := ⟨RX7, "lose", "(I)V"⟩
def RX8 : String := "ParrotSpeech"
def TX8 : u_T := fun k => match k with
  | 0 => ("ParrotSpeech", "text", "LParrotSpeech$Text;", true)
  | 1 => ("ParrotSpeech", "reader", "LParrotSpeech$HarbourReader;", true)
  | 2 => ("ParrotSpeech", "grammar", "LParrotSpeech$Tongue;", true)
  | 3 => ("ParrotSpeech", "told", "LParrotSpeech$World;", true)
  | 4 => ("ParrotSpeech", "now", "LParrotSpeech$World;", true)
  | 5 => ("ParrotSpeech", "trial", "LParrotSpeech$World;", true)
  | 6 => ("ParrotSpeech", "speech", "LParrotSpeech$Speech;", true)
  | 7 => ("ParrotSpeech", "history", "LParrotSpeech$History;", true)
  | 8 => ("ParrotSpeech", "sightings", "LParrotSpeech$Sightings;", true)
  | 9 => ("ParrotSpeech", "reels", "[LParrotSpeech$Reel;", true)
  | _ => ("ParrotSpeech", "keptBy", "[I", true)
def tyX8 : Nat → FieldType := fun k => match k with
  | 0 => .object "ParrotSpeech$Text"
  | 1 => .object "ParrotSpeech$HarbourReader"
  | 2 => .object "ParrotSpeech$Tongue"
  | 3 => .object "ParrotSpeech$World"
  | 4 => .object "ParrotSpeech$World"
  | 5 => .object "ParrotSpeech$World"
  | 6 => .object "ParrotSpeech$Speech"
  | 7 => .object "ParrotSpeech$History"
  | 8 => .object "ParrotSpeech$Sightings"
  | 9 => .array (.object "ParrotSpeech$Reel")
  | _ => .array .int
abbrev wsX80 : List Cond := u_ws RX8 TX8 11
theorem nmX8 : ∀ a, a < 11 → ∀ b, b < 11 → a ≠ b → (TX8 a).2.1 ≠ (TX8 b).2.1 := by decide +kernel
theorem tyX8_ok : ∀ k, k < 11 → parseFieldDescriptor (TX8 k).2.2.1 = some (tyX8 k) := by decide +kernel
abbrev cX8_init : ByteArray := prog_1_method_1_code
def yX8_init : MethodName := ⟨RX8, "<init>", "()V"⟩
abbrev cX8_write : ByteArray := prog_1_method_2_code
def yX8_write : MethodName := ⟨RX8, "write", "(I)I"⟩
abbrev cX8_erase : ByteArray := prog_1_method_3_code
def yX8_erase : MethodName := ⟨RX8, "erase", "()I"⟩
abbrev cX8_fault : ByteArray := prog_1_method_4_code
def yX8_fault : MethodName := ⟨RX8, "fault", "(I)I"⟩
abbrev cX8_harbour : ByteArray := prog_1_method_5_code
def yX8_harbour : MethodName := ⟨RX8, "harbour", "()I"⟩
abbrev cX8_tongue : ByteArray := prog_1_method_6_code
def yX8_tongue : MethodName := ⟨RX8, "tongue", "()I"⟩
abbrev cX8_bird : ByteArray := prog_1_method_7_code
def yX8_bird : MethodName := ⟨RX8, "bird", "(II)I"⟩
abbrev cX8_man : ByteArray := prog_1_method_8_code
def yX8_man : MethodName := ⟨RX8, "man", "(II)I"⟩
abbrev cX8_known : ByteArray := prog_1_method_9_code
def yX8_known : MethodName := ⟨RX8, "known", "(III)I"⟩
abbrev cX8_as : ByteArray := prog_1_method_10_code
def yX8_as : MethodName := ⟨RX8, "as", "(II)I"⟩
abbrev cX8_evening : ByteArray := prog_1_method_11_code
def yX8_evening : MethodName := ⟨RX8, "evening", "(I)I"⟩
abbrev cX8_teach : ByteArray := prog_1_method_12_code
def yX8_teach : MethodName := ⟨RX8, "teach", "(II)I"⟩
abbrev cX8_moult : ByteArray := prog_1_method_13_code
def yX8_moult : MethodName := ⟨RX8, "moult", "(I)I"⟩
abbrev cX8_perch : ByteArray := prog_1_method_14_code
def yX8_perch : MethodName := ⟨RX8, "perch", "(II)I"⟩
abbrev cX8_cover : ByteArray := prog_1_method_15_code
def yX8_cover : MethodName := ⟨RX8, "cover", "(I)I"⟩
abbrev cX8_sit : ByteArray := prog_1_method_16_code
def yX8_sit : MethodName := ⟨RX8, "sit", "(II)I"⟩
abbrev cX8_undo : ByteArray := prog_1_method_17_code
def yX8_undo : MethodName := ⟨RX8, "undo", "()I"⟩
abbrev cX8_keep : ByteArray := prog_1_method_18_code
def yX8_keep : MethodName := ⟨RX8, "keep", "(I)I"⟩
abbrev cX8_back : ByteArray := prog_1_method_19_code
def yX8_back : MethodName := ⟨RX8, "back", "(I)I"⟩
abbrev cX8_said : ByteArray := prog_1_method_20_code
def yX8_said : MethodName := ⟨RX8, "said", "(II)I"⟩
abbrev cX8_when : ByteArray := prog_1_method_21_code
def yX8_when : MethodName := ⟨RX8, "when", "(III)I"⟩
abbrev cX8_keeps : ByteArray := prog_1_method_22_code
def yX8_keeps : MethodName := ⟨RX8, "keeps", "(III)I"⟩
abbrev cX8_match : ByteArray := prog_1_method_23_code
def yX8_match : MethodName := ⟨RX8, "match", "(II)I"⟩
abbrev cX8_clean : ByteArray := prog_1_method_24_code
def yX8_clean : MethodName := ⟨RX8, "clean", "(III)I"⟩
abbrev cX8_of : ByteArray := prog_1_method_25_code
def yX8_of : MethodName := ⟨RX8, "of", "(II)I"⟩
abbrev cX8_left : ByteArray := prog_1_method_26_code
def yX8_left : MethodName := ⟨RX8, "left", "(III)I"⟩
abbrev cX8_seen : ByteArray := prog_1_method_27_code
def yX8_seen : MethodName := ⟨RX8, "seen", "(III)I"⟩
abbrev cX8_forget : ByteArray := prog_1_method_28_code
def yX8_forget : MethodName := ⟨RX8, "forget", "()I"⟩
abbrev cX8_kinds : ByteArray := prog_1_method_29_code
def yX8_kinds : MethodName := ⟨RX8, "kinds", "(I)I"⟩
abbrev cX8_reel : ByteArray := prog_1_method_30_code
def yX8_reel : MethodName := ⟨RX8, "reel", "(III)I"⟩
abbrev cX8_record : ByteArray := prog_1_method_31_code
def yX8_record : MethodName := ⟨RX8, "record", "(IIII)I"⟩
abbrev cX8_play : ByteArray := prog_1_method_32_code
def yX8_play : MethodName := ⟨RX8, "play", "(III)I"⟩
abbrev cX8_splice : ByteArray := prog_1_method_33_code
def yX8_splice : MethodName := ⟨RX8, "splice", "(IIIII)I"⟩
abbrev cX8_drop : ByteArray := prog_1_method_34_code
def yX8_drop : MethodName := ⟨RX8, "drop", "(I)I"⟩
abbrev cX8_count : ByteArray := prog_1_method_35_code
def yX8_count : MethodName := ⟨RX8, "count", "(I)I"⟩
abbrev cX8_isNot : ByteArray := prog_1_method_36_code
def yX8_isNot : MethodName := ⟨RX8, "isNot", "(III)Z"⟩
abbrev cX8_noBird : ByteArray := prog_1_method_37_code
def yX8_noBird : MethodName := ⟨RX8, "noBird", "(I)Z"⟩
abbrev cX8_noMan : ByteArray := prog_1_method_38_code
def yX8_noMan : MethodName := ⟨RX8, "noMan", "(I)Z"⟩
abbrev cX8_noWord : ByteArray := prog_1_method_39_code
def yX8_noWord : MethodName := ⟨RX8, "noWord", "(I)Z"⟩
abbrev cX8_noPerch : ByteArray := prog_1_method_40_code
def yX8_noPerch : MethodName := ⟨RX8, "noPerch", "(I)Z"⟩
abbrev cX8_noReel : ByteArray := prog_1_method_41_code
def yX8_noReel : MethodName := ⟨RX8, "noReel", "(I)Z"⟩
abbrev cX8_noSort : ByteArray := prog_1_method_42_code
def yX8_noSort : MethodName := ⟨RX8, "noSort", "(I)Z"⟩
abbrev cX8_foretellSpeech : ByteArray := prog_1_method_43_code
def yX8_foretellSpeech : MethodName := ⟨RX8, "foretellSpeech", "()V"⟩
abbrev cX8_keptWords : ByteArray := prog_1_method_44_code
def yX8_keptWords : MethodName := ⟨RX8, "keptWords", "(III)I"⟩
abbrev cX8_mostKept : ByteArray := prog_1_method_45_code
def yX8_mostKept : MethodName := ⟨RX8, "mostKept", "(II)I"⟩
abbrev cX8_matchOf : ByteArray := prog_1_method_46_code
def yX8_matchOf : MethodName := ⟨RX8, "matchOf", "(I)I"⟩
abbrev cX8_leastChoice : ByteArray := prog_1_method_47_code
def yX8_leastChoice : MethodName := ⟨RX8, "leastChoice", "(II)I"⟩
abbrev cX8_staysClean : ByteArray := prog_1_method_48_code
def yX8_staysClean : MethodName := ⟨RX8, "staysClean", "(IIII)Z"⟩
abbrev cX8_commonDivisor : ByteArray := prog_1_method_49_code
def yX8_commonDivisor : MethodName := ⟨RX8, "commonDivisor", "(II)I"⟩
abbrev cX8_reelsThere : ByteArray := prog_1_method_50_code
def yX8_reelsThere : MethodName := ⟨RX8, "reelsThere", "()I"⟩
def RX9 : String := "ParrotSpeechModel"
def TX9 : u_T := fun k => match k with
  | 0 => ("ParrotSpeechModel", "row", "[I", true)
  | 1 => ("ParrotSpeechModel", "undos", "I", false)
  | 2 => ("ParrotSpeechModel", "isKept", "[Z", true)
  | 3 => ("ParrotSpeechModel", "text", "[I", true)
  | 4 => ("ParrotSpeechModel", "length", "I", false)
  | 5 => ("ParrotSpeechModel", "seenMany", "I", false)
  | 6 => ("ParrotSpeechModel", "seenPerch", "[I", true)
  | 7 => ("ParrotSpeechModel", "seenPlace", "[I", true)
  | 8 => ("ParrotSpeechModel", "seenWord", "[I", true)
  | 9 => ("ParrotSpeechModel", "tongueSize", "I", false)
  | 10 => ("ParrotSpeechModel", "letters", "[I", true)
  | 11 => ("ParrotSpeechModel", "ends", "[I", true)
  | 12 => ("ParrotSpeechModel", "begins", "[I", true)
  | 13 => ("ParrotSpeechModel", "sizes", "[I", true)
  | 14 => ("ParrotSpeechModel", "sorts", "[I", true)
  | 15 => ("ParrotSpeechModel", "places", "[I", true)
  | 16 => ("ParrotSpeechModel", "first", "I", false)
  | 17 => ("ParrotSpeechModel", "behind", "I", false)
  | 18 => ("ParrotSpeechModel", "readBirds", "I", false)
  | 19 => ("ParrotSpeechModel", "readMen", "I", false)
  | 20 => ("ParrotSpeechModel", "readBy", "[I", true)
  | 21 => ("ParrotSpeechModel", "clauses", "I", false)
  | 22 => ("ParrotSpeechModel", "doing", "Z", false)
  | 23 => ("ParrotSpeechModel", "harbourWord", "[I", true)
  | 24 => ("ParrotSpeechModel", "parrotWord", "[I", true)
  | 25 => ("ParrotSpeechModel", "greyWord", "[I", true)
  | 26 => ("ParrotSpeechModel", "cockatooWord", "[I", true)
  | 27 => ("ParrotSpeechModel", "hawkWord", "[I", true)
  | 28 => ("ParrotSpeechModel", "greenWord", "[I", true)
  | 29 => ("ParrotSpeechModel", "manWord", "[I", true)
  | 30 => ("ParrotSpeechModel", "knowsWord", "[I", true)
  | 31 => ("ParrotSpeechModel", "sitsWord", "[I", true)
  | 32 => ("ParrotSpeechModel", "coverWord", "[I", true)
  | 33 => ("ParrotSpeechModel", "open", "[I", true)
  | 34 => ("ParrotSpeechModel", "isNow", "[Z", true)
  | 35 => ("ParrotSpeechModel", "isThen", "[Z", true)
  | 36 => ("ParrotSpeechModel", "saidWords", "[I", true)
  | 37 => ("ParrotSpeechModel", "saidMany", "[I", true)
  | 38 => ("ParrotSpeechModel", "keepsBy", "[I", true)
  | 39 => ("ParrotSpeechModel", "line", "[I", true)
  | 40 => ("ParrotSpeechModel", "bestLine", "[I", true)
  | _ => ("ParrotSpeechModel", "moved", "[I", true)
def tyX9 : Nat → FieldType := fun k => match k with
  | 0 => .array .int
  | 1 => .int
  | 2 => .array .boolean
  | 3 => .array .int
  | 4 => .int
  | 5 => .int
  | 6 => .array .int
  | 7 => .array .int
  | 8 => .array .int
  | 9 => .int
  | 10 => .array .int
  | 11 => .array .int
  | 12 => .array .int
  | 13 => .array .int
  | 14 => .array .int
  | 15 => .array .int
  | 16 => .int
  | 17 => .int
  | 18 => .int
  | 19 => .int
  | 20 => .array .int
  | 21 => .int
  | 22 => .boolean
  | 23 => .array .int
  | 24 => .array .int
  | 25 => .array .int
  | 26 => .array .int
  | 27 => .array .int
  | 28 => .array .int
  | 29 => .array .int
  | 30 => .array .int
  | 31 => .array .int
  | 32 => .array .int
  | 33 => .array .int
  | 34 => .array .boolean
  | 35 => .array .boolean
  | 36 => .array .int
  | 37 => .array .int
  | 38 => .array .int
  | 39 => .array .int
  | 40 => .array .int
  | _ => .array .int
abbrev wsX90 : List Cond := u_ws RX9 TX9 42
theorem nmX9 : ∀ a, a < 42 → ∀ b, b < 42 → a ≠ b → (TX9 a).2.1 ≠ (TX9 b).2.1 := by decide +kernel
theorem tyX9_ok : ∀ k, k < 42 → parseFieldDescriptor (TX9 k).2.2.1 = some (tyX9 k) := by decide +kernel
abbrev cX9_init : ByteArray := prog_11_method_1_code
def yX9_init : MethodName := ⟨RX9, "<init>", "()V"⟩
abbrev cX9_in : ByteArray := prog_11_method_2_code
def yX9_in : MethodName := ⟨RX9, "in", "(JJJ)Z"⟩
abbrev cX9_has : ByteArray := prog_11_method_3_code
def yX9_has : MethodName := ⟨RX9, "has", "(II)Z"⟩
abbrev cX9_bits : ByteArray := prog_11_method_4_code
def yX9_bits : MethodName := ⟨RX9, "bits", "(I)I"⟩
abbrev cX9_write : ByteArray := prog_11_method_5_code
def yX9_write : MethodName := ⟨RX9, "write", "(I)I"⟩
abbrev cX9_erase : ByteArray := prog_11_method_6_code
def yX9_erase : MethodName := ⟨RX9, "erase", "()I"⟩
abbrev cX9_isLetter : ByteArray := prog_11_method_7_code
def yX9_isLetter : MethodName := ⟨RX9, "isLetter", "(I)Z"⟩
abbrev cX9_isDigit : ByteArray := prog_11_method_8_code
def yX9_isDigit : MethodName := ⟨RX9, "isDigit", "(I)Z"⟩
abbrev cX9_nextToken : ByteArray := prog_11_method_9_code
def yX9_nextToken : MethodName := ⟨RX9, "nextToken", "()V"⟩
abbrev cX9_isWord : ByteArray := prog_11_method_10_code
def yX9_isWord : MethodName := ⟨RX9, "isWord", "([I)Z"⟩
abbrev cX9_numberHere : ByteArray := prog_11_method_11_code
def yX9_numberHere : MethodName := ⟨RX9, "numberHere", "(I)I"⟩
abbrev cX9_number : ByteArray := prog_11_method_12_code
def yX9_number : MethodName := ⟨RX9, "number", "(I)I"⟩
abbrev cX9_words : ByteArray := prog_11_method_13_code
def yX9_words : MethodName := ⟨RX9, "words", "(I)I"⟩
abbrev cX9_kindHere : ByteArray := prog_11_method_14_code
def yX9_kindHere : MethodName := ⟨RX9, "kindHere", "()I"⟩
abbrev cX9_readsBird : ByteArray := prog_11_method_15_code
def yX9_readsBird : MethodName := ⟨RX9, "readsBird", "(I)Z"⟩
abbrev cX9_readsMan : ByteArray := prog_11_method_16_code
def yX9_readsMan : MethodName := ⟨RX9, "readsMan", "()Z"⟩
abbrev cX9_readsKnows : ByteArray := prog_11_method_17_code
def yX9_readsKnows : MethodName := ⟨RX9, "readsKnows", "()Z"⟩
abbrev cX9_readsSits : ByteArray := prog_11_method_18_code
def yX9_readsSits : MethodName := ⟨RX9, "readsSits", "()Z"⟩
abbrev cX9_readsCover : ByteArray := prog_11_method_19_code
def yX9_readsCover : MethodName := ⟨RX9, "readsCover", "()Z"⟩
abbrev cX9_readsHarbour : ByteArray := prog_11_method_20_code
def yX9_readsHarbour : MethodName := ⟨RX9, "readsHarbour", "()Z"⟩
abbrev cX9_readsClause : ByteArray := prog_11_method_21_code
def yX9_readsClause : MethodName := ⟨RX9, "readsClause", "()Z"⟩
abbrev cX9_reads : ByteArray := prog_11_method_22_code
def yX9_reads : MethodName := ⟨RX9, "reads", "(Z)Z"⟩
abbrev cX9_copyHarbour : ByteArray := prog_11_method_23_code
def yX9_copyHarbour : MethodName := ⟨RX9, "copyHarbour", "(II)V"⟩
abbrev cX9_harbour : ByteArray := prog_11_method_24_code
def yX9_harbour : MethodName := ⟨RX9, "harbour", "()I"⟩
abbrev cX9_tongueFault : ByteArray := prog_11_method_25_code
def yX9_tongueFault : MethodName := ⟨RX9, "tongueFault", "()I"⟩
abbrev cX9_fault : ByteArray := prog_11_method_26_code
def yX9_fault : MethodName := ⟨RX9, "fault", "(I)I"⟩
abbrev cX9_layTongue : ByteArray := prog_11_method_27_code
def yX9_layTongue : MethodName := ⟨RX9, "layTongue", "()V"⟩
abbrev cX9_tongue : ByteArray := prog_11_method_28_code
def yX9_tongue : MethodName := ⟨RX9, "tongue", "()I"⟩
abbrev cX9_mark : ByteArray := prog_11_method_29_code
def yX9_mark : MethodName := ⟨RX9, "mark", "(I)Z"⟩
abbrev cX9_goesOn : ByteArray := prog_11_method_30_code
def yX9_goesOn : MethodName := ⟨RX9, "goesOn", "(I)Z"⟩
abbrev cX9_goOnAll : ByteArray := prog_11_method_31_code
def yX9_goOnAll : MethodName := ⟨RX9, "goOnAll", "()V"⟩
abbrev cX9_hearWord : ByteArray := prog_11_method_32_code
def yX9_hearWord : MethodName := ⟨RX9, "hearWord", "(I)V"⟩
abbrev cX9_hears : ByteArray := prog_11_method_33_code
def yX9_hears : MethodName := ⟨RX9, "hears", "(I)I"⟩
abbrev cX9_gets : ByteArray := prog_11_method_34_code
def yX9_gets : MethodName := ⟨RX9, "gets", "(I)I"⟩
abbrev cX9_says : ByteArray := prog_11_method_35_code
def yX9_says : MethodName := ⟨RX9, "says", "(I)I"⟩
abbrev cX9_loses : ByteArray := prog_11_method_36_code
def yX9_loses : MethodName := ⟨RX9, "loses", "(I)I"⟩
abbrev cX9_isBird : ByteArray := prog_11_method_37_code
def yX9_isBird : MethodName := ⟨RX9, "isBird", "(I)Z"⟩
abbrev cX9_isMan : ByteArray := prog_11_method_38_code
def yX9_isMan : MethodName := ⟨RX9, "isMan", "(I)Z"⟩
abbrev cX9_isWordNumber : ByteArray := prog_11_method_39_code
def yX9_isWordNumber : MethodName := ⟨RX9, "isWordNumber", "(I)Z"⟩
abbrev cX9_isOpen : ByteArray := prog_11_method_40_code
def yX9_isOpen : MethodName := ⟨RX9, "isOpen", "(II)Z"⟩
abbrev cX9_learns : ByteArray := prog_11_method_41_code
def yX9_learns : MethodName := ⟨RX9, "learns", "(IIII)V"⟩
abbrev cX9_manOf : ByteArray := prog_11_method_42_code
def yX9_manOf : MethodName := ⟨RX9, "manOf", "(II)I"⟩
abbrev cX9_wellKnown : ByteArray := prog_11_method_43_code
def yX9_wellKnown : MethodName := ⟨RX9, "wellKnown", "(II)I"⟩
abbrev cX9_bird : ByteArray := prog_11_method_44_code
def yX9_bird : MethodName := ⟨RX9, "bird", "(II)I"⟩
abbrev cX9_man : ByteArray := prog_11_method_45_code
def yX9_man : MethodName := ⟨RX9, "man", "(II)I"⟩
abbrev cX9_as : ByteArray := prog_11_method_46_code
def yX9_as : MethodName := ⟨RX9, "as", "(II)I"⟩
abbrev cX9_handOver : ByteArray := prog_11_method_47_code
def yX9_handOver : MethodName := ⟨RX9, "handOver", "(I)V"⟩
abbrev cX9_isSilent : ByteArray := prog_11_method_48_code
def yX9_isSilent : MethodName := ⟨RX9, "isSilent", "(II)Z"⟩
abbrev cX9_bestWord : ByteArray := prog_11_method_49_code
def yX9_bestWord : MethodName := ⟨RX9, "bestWord", "(III)I"⟩
abbrev cX9_say : ByteArray := prog_11_method_50_code
def yX9_say : MethodName := ⟨RX9, "say", "(IIII)V"⟩
abbrev cX9_speak : ByteArray := prog_11_method_51_code
def yX9_speak : MethodName := ⟨RX9, "speak", "(II)V"⟩
abbrev cX9_lose : ByteArray := prog_11_method_52_code
def yX9_lose : MethodName := ⟨RX9, "lose", "(I)V"⟩
abbrev cX9_passes : ByteArray := prog_11_method_53_code
def yX9_passes : MethodName := ⟨RX9, "passes", "(I)V"⟩
abbrev cX9_layTried : ByteArray := prog_11_method_54_code
def yX9_layTried : MethodName := ⟨RX9, "layTried", "()V"⟩
abbrev cX9_passTried : ByteArray := prog_11_method_55_code
def yX9_passTried : MethodName := ⟨RX9, "passTried", "(I)V"⟩
abbrev cX9_known : ByteArray := prog_11_method_56_code
def yX9_known : MethodName := ⟨RX9, "known", "(III)I"⟩
abbrev cX9_keepPast : ByteArray := prog_11_method_57_code
def yX9_keepPast : MethodName := ⟨RX9, "keepPast", "()V"⟩
abbrev cX9_evening : ByteArray := prog_11_method_58_code
def yX9_evening : MethodName := ⟨RX9, "evening", "(I)I"⟩
abbrev cX9_teach : ByteArray := prog_11_method_59_code
def yX9_teach : MethodName := ⟨RX9, "teach", "(II)I"⟩
abbrev cX9_moult : ByteArray := prog_11_method_60_code
def yX9_moult : MethodName := ⟨RX9, "moult", "(I)I"⟩
abbrev cX9_perch : ByteArray := prog_11_method_61_code
def yX9_perch : MethodName := ⟨RX9, "perch", "(II)I"⟩
abbrev cX9_cover : ByteArray := prog_11_method_62_code
def yX9_cover : MethodName := ⟨RX9, "cover", "(I)I"⟩
abbrev cX9_sets : ByteArray := prog_11_method_63_code
def yX9_sets : MethodName := ⟨RX9, "sets", "(III)V"⟩
abbrev cX9_sit : ByteArray := prog_11_method_64_code
def yX9_sit : MethodName := ⟨RX9, "sit", "(II)I"⟩
abbrev cX9_undo : ByteArray := prog_11_method_65_code
def yX9_undo : MethodName := ⟨RX9, "undo", "()I"⟩
abbrev cX9_keep : ByteArray := prog_11_method_66_code
def yX9_keep : MethodName := ⟨RX9, "keep", "(I)I"⟩
abbrev cX9_back : ByteArray := prog_11_method_67_code
def yX9_back : MethodName := ⟨RX9, "back", "(I)I"⟩
abbrev cX9_saidAt : ByteArray := prog_11_method_68_code
def yX9_saidAt : MethodName := ⟨RX9, "saidAt", "(II)I"⟩
abbrev cX9_said : ByteArray := prog_11_method_69_code
def yX9_said : MethodName := ⟨RX9, "said", "(II)I"⟩
abbrev cX9_when : ByteArray := prog_11_method_70_code
def yX9_when : MethodName := ⟨RX9, "when", "(III)I"⟩
abbrev cX9_keptBy : ByteArray := prog_11_method_71_code
def yX9_keptBy : MethodName := ⟨RX9, "keptBy", "(III)I"⟩
abbrev cX9_keeps : ByteArray := prog_11_method_72_code
def yX9_keeps : MethodName := ⟨RX9, "keeps", "(III)I"⟩
abbrev cX9_keptByLine : ByteArray := prog_11_method_73_code
def yX9_keptByLine : MethodName := ⟨RX9, "keptByLine", "()I"⟩
abbrev cX9_nextLine : ByteArray := prog_11_method_74_code
def yX9_nextLine : MethodName := ⟨RX9, "nextLine", "()Z"⟩
abbrev cX9_match : ByteArray := prog_11_method_75_code
def yX9_match : MethodName := ⟨RX9, "match", "(II)I"⟩
abbrev cX9_clean : ByteArray := prog_11_method_76_code
def yX9_clean : MethodName := ⟨RX9, "clean", "(III)I"⟩
abbrev cX9_of : ByteArray := prog_11_method_77_code
def yX9_of : MethodName := ⟨RX9, "of", "(II)I"⟩
abbrev cX9_left : ByteArray := prog_11_method_78_code
def yX9_left : MethodName := ⟨RX9, "left", "(III)I"⟩
abbrev cX9_seen : ByteArray := prog_11_method_79_code
def yX9_seen : MethodName := ⟨RX9, "seen", "(III)I"⟩
abbrev cX9_forget : ByteArray := prog_11_method_80_code
def yX9_forget : MethodName := ⟨RX9, "forget", "()I"⟩
abbrev cX9_kinds : ByteArray := prog_11_method_81_code
def yX9_kinds : MethodName := ⟨RX9, "kinds", "(I)I"⟩
abbrev cX9_isReel : ByteArray := prog_11_method_82_code
def yX9_isReel : MethodName := ⟨RX9, "isReel", "(I)Z"⟩
abbrev cX9_reel : ByteArray := prog_11_method_83_code
def yX9_reel : MethodName := ⟨RX9, "reel", "(III)I"⟩
abbrev cX9_noPlace : ByteArray := prog_11_method_84_code
def yX9_noPlace : MethodName := ⟨RX9, "noPlace", "(III)I"⟩
abbrev cX9_record : ByteArray := prog_11_method_85_code
def yX9_record : MethodName := ⟨RX9, "record", "(IIII)I"⟩
abbrev cX9_play : ByteArray := prog_11_method_86_code
def yX9_play : MethodName := ⟨RX9, "play", "(III)I"⟩
abbrev cX9_isSpan : ByteArray := prog_11_method_87_code
def yX9_isSpan : MethodName := ⟨RX9, "isSpan", "(III)Z"⟩
abbrev cX9_splice : ByteArray := prog_11_method_88_code
def yX9_splice : MethodName := ⟨RX9, "splice", "(IIIII)I"⟩
abbrev cX9_drop : ByteArray := prog_11_method_89_code
def yX9_drop : MethodName := ⟨RX9, "drop", "(I)I"⟩
abbrev cX9_menWords : ByteArray := prog_11_method_90_code
def yX9_menWords : MethodName := ⟨RX9, "menWords", "()I"⟩
abbrev cX9_allWellKnown : ByteArray := prog_11_method_91_code
def yX9_allWellKnown : MethodName := ⟨RX9, "allWellKnown", "()I"⟩
abbrev cX9_reelsThere : ByteArray := prog_11_method_92_code
def yX9_reelsThere : MethodName := ⟨RX9, "reelsThere", "()I"⟩
abbrev cX9_count : ByteArray := prog_11_method_93_code
def yX9_count : MethodName := ⟨RX9, "count", "(I)I"⟩
def RJ6 : String := "java/lang/Integer"
def TJ6 : u_T := fun k => match k with
  | _ => ("", "", "", false)
def tyJ6 : Nat → FieldType := fun k => match k with
  | _ => .int
abbrev wsJ60 : List Cond := u_ws RJ6 TJ6 0
theorem nmJ6 : ∀ a, a < 0 → ∀ b, b < 0 → a ≠ b → (TJ6 a).2.1 ≠ (TJ6 b).2.1 := by decide +kernel
theorem tyJ6_ok : ∀ k, k < 0 → parseFieldDescriptor (TJ6 k).2.2.1 = some (tyJ6 k) := by decide +kernel
abbrev cJ6_numberOfTrailingZeros_0f7a4 : ByteArray := prog_12_method_48_code
def yJ6_numberOfTrailingZeros_0f7a4 : MethodName := ⟨RJ6, "numberOfTrailingZeros", "(I)I"⟩
abbrev cJ6_bitCount_0f7a4 : ByteArray := prog_12_method_49_code
def yJ6_bitCount_0f7a4 : MethodName := ⟨RJ6, "bitCount", "(I)I"⟩
def RJ9 : String := "java/lang/Math"
def TJ9 : u_T := fun k => match k with
  | _ => ("", "", "", false)
def tyJ9 : Nat → FieldType := fun k => match k with
  | _ => .int
abbrev wsJ90 : List Cond := u_ws RJ9 TJ9 0
theorem nmJ9 : ∀ a, a < 0 → ∀ b, b < 0 → a ≠ b → (TJ9 a).2.1 ≠ (TJ9 b).2.1 := by decide +kernel
theorem tyJ9_ok : ∀ k, k < 0 → parseFieldDescriptor (TJ9 k).2.2.1 = some (tyJ9 k) := by decide +kernel
abbrev cJ9_max_7cf53 : ByteArray := prog_13_method_65_code
def yJ9_max_7cf53 : MethodName := ⟨RJ9, "max", "(II)I"⟩
abbrev cJ9_min_7cf53 : ByteArray := prog_13_method_69_code
def yJ9_min_7cf53 : MethodName := ⟨RJ9, "min", "(II)I"⟩
def RJ0 : String := "java/lang/String"
def TJ0 : u_T := fun k => match k with
  | _ => ("", "", "", false)
def tyJ0 : Nat → FieldType := fun k => match k with
  | _ => .int
abbrev wsJ00 : List Cond := u_ws RJ0 TJ0 0
theorem nmJ0 : ∀ a, a < 0 → ∀ b, b < 0 → a ≠ b → (TJ0 a).2.1 ≠ (TJ0 b).2.1 := by decide +kernel
theorem tyJ0_ok : ∀ k, k < 0 → parseFieldDescriptor (TJ0 k).2.2.1 = some (tyJ0 k) := by decide +kernel
abbrev cJ0_length_8abf5 : ByteArray := prog_14_method_54_code
def yJ0_length_8abf5 : MethodName := ⟨RJ0, "length", "()I"⟩
abbrev cJ0_charAt_5068e : ByteArray := prog_14_method_56_code
def yJ0_charAt_5068e : MethodName := ⟨RJ0, "charAt", "(I)C"⟩
abbrev cJ0_coder_7d493 : ByteArray := prog_14_method_152_code
def yJ0_coder_7d493 : MethodName := ⟨RJ0, "coder", "()B"⟩
abbrev cJ0_isLatin1_aae02 : ByteArray := prog_14_method_154_code
def yJ0_isLatin1_aae02 : MethodName := ⟨RJ0, "isLatin1", "()Z"⟩
abbrev cJ0_checkIndex_df160 : ByteArray := prog_14_method_155_code
def yJ0_checkIndex_df160 : MethodName := ⟨RJ0, "checkIndex", "(II)V"⟩
def RJ1 : String := "java/lang/StringLatin1"
def TJ1 : u_T := fun k => match k with
  | _ => ("", "", "", false)
def tyJ1 : Nat → FieldType := fun k => match k with
  | _ => .int
abbrev wsJ10 : List Cond := u_ws RJ1 TJ1 0
theorem nmJ1 : ∀ a, a < 0 → ∀ b, b < 0 → a ≠ b → (TJ1 a).2.1 ≠ (TJ1 b).2.1 := by decide +kernel
theorem tyJ1_ok : ∀ k, k < 0 → parseFieldDescriptor (TJ1 k).2.2.1 = some (tyJ1 k) := by decide +kernel
abbrev cJ1_charAt_3b067 : ByteArray := prog_15_method_2_code
def yJ1_charAt_3b067 : MethodName := ⟨RJ1, "charAt", "([BI)C"⟩
def RJ2 : String := "java/lang/StringUTF16"
def TJ2 : u_T := fun k => match k with
  | _ => ("", "", "", false)
def tyJ2 : Nat → FieldType := fun k => match k with
  | _ => .int
abbrev wsJ20 : List Cond := u_ws RJ2 TJ2 0
theorem nmJ2 : ∀ a, a < 0 → ∀ b, b < 0 → a ≠ b → (TJ2 a).2.1 ≠ (TJ2 b).2.1 := by decide +kernel
theorem tyJ2_ok : ∀ k, k < 0 → parseFieldDescriptor (TJ2 k).2.2.1 = some (tyJ2 k) := by decide +kernel
abbrev cJ2_getChar_3b067 : ByteArray := prog_16_method_5_code
def yJ2_getChar_3b067 : MethodName := ⟨RJ2, "getChar", "([BI)C"⟩
abbrev cJ2_length_9d52b : ByteArray := prog_16_method_6_code
def yJ2_length_9d52b : MethodName := ⟨RJ2, "length", "([B)I"⟩
abbrev cJ2_charAt_3b067 : ByteArray := prog_16_method_83_code
def yJ2_charAt_3b067 : MethodName := ⟨RJ2, "charAt", "([BI)C"⟩
abbrev cJ2_checkIndex_2214a : ByteArray := prog_16_method_91_code
def yJ2_checkIndex_2214a : MethodName := ⟨RJ2, "checkIndex", "(I[B)V"⟩
def RJ10 : String := "java/lang/System"
def TJ10 : u_T := fun k => match k with
  | _ => ("", "", "", false)
def tyJ10 : Nat → FieldType := fun k => match k with
  | _ => .int
abbrev wsJ100 : List Cond := u_ws RJ10 TJ10 0
theorem nmJ10 : ∀ a, a < 0 → ∀ b, b < 0 → a ≠ b → (TJ10 a).2.1 ≠ (TJ10 b).2.1 := by decide +kernel
theorem tyJ10_ok : ∀ k, k < 0 → parseFieldDescriptor (TJ10 k).2.2.1 = some (tyJ10 k) := by decide +kernel
def RJ3 : String := "jdk/internal/util/Preconditions"
def TJ3 : u_T := fun k => match k with
  | _ => ("", "", "", false)
def tyJ3 : Nat → FieldType := fun k => match k with
  | _ => .int
abbrev wsJ30 : List Cond := u_ws RJ3 TJ3 0
theorem nmJ3 : ∀ a, a < 0 → ∀ b, b < 0 → a ≠ b → (TJ3 a).2.1 ≠ (TJ3 b).2.1 := by decide +kernel
theorem tyJ3_ok : ∀ k, k < 0 → parseFieldDescriptor (TJ3 k).2.2.1 = some (tyJ3 k) := by decide +kernel
abbrev cJ3_checkIndex_8e157 : ByteArray := prog_18_method_11_code
def yJ3_checkIndex_8e157 : MethodName := ⟨RJ3, "checkIndex", "(IILjava/util/function/BiFunction;)I"⟩
def RL : String := "ParrotSpeechLaw"
abbrev cL_law : ByteArray := code
abbrev vwCl : List vw_C := [(RX0, TX0, 3), (RX1, TX1, 5), (RX2, TX2, 4), (RX3, TX3, 4), (RX4, TX4, 2), (RX5, TX5, 4), (RX6, TX6, 7), (RX7, TX7, 9), (RX8, TX8, 11), (RX9, TX9, 42)]
