section
-- ===== PART A: goes FIRST, ahead of the names: the tables' words, and 'selects' of the private methods out of them =====
/-- a private method of a class that the tables say can be made, by its rows of tables_1 -/
def lw_okq (q : MethodName × Nat) : Prop := (q.1.cls ≠ "java/lang/invoke/MethodHandle" ∧ q.1.cls ≠ "java/lang/invoke/VarHandle") ∧ Cond.instantiable q.1.cls q.2 ∈ tables_1 ∧ Cond.privateMethod q.1 ∈ tables_1 ∧ Cond.instanceMethod q.1 ∈ tables_1
theorem lw_p0 : lw_okq (⟨"ParrotSpeech$HarbourReader", "readClause", "()Z"⟩, 3) := ⟨⟨by decide +kernel, by decide +kernel⟩, List.mem_of_getElem? (i := 52) (by decide +kernel), List.mem_of_getElem? (i := 323) (by decide +kernel), List.mem_of_getElem? (i := 324) (by decide +kernel)⟩
theorem lw_p1 : lw_okq (⟨"ParrotSpeech$HarbourReader", "kindNamed", "()I"⟩, 3) := ⟨⟨by decide +kernel, by decide +kernel⟩, List.mem_of_getElem? (i := 52) (by decide +kernel), List.mem_of_getElem? (i := 327) (by decide +kernel), List.mem_of_getElem? (i := 328) (by decide +kernel)⟩
theorem lw_p2 : lw_okq (⟨"ParrotSpeech$HarbourReader", "readBird", "(I)Z"⟩, 3) := ⟨⟨by decide +kernel, by decide +kernel⟩, List.mem_of_getElem? (i := 52) (by decide +kernel), List.mem_of_getElem? (i := 388) (by decide +kernel), List.mem_of_getElem? (i := 389) (by decide +kernel)⟩
theorem lw_p3 : lw_okq (⟨"ParrotSpeech$HarbourReader", "readNumber", "(I)I"⟩, 3) := ⟨⟨by decide +kernel, by decide +kernel⟩, List.mem_of_getElem? (i := 52) (by decide +kernel), List.mem_of_getElem? (i := 392) (by decide +kernel), List.mem_of_getElem? (i := 393) (by decide +kernel)⟩
theorem lw_p4 : lw_okq (⟨"ParrotSpeech$HarbourReader", "readMan", "()Z"⟩, 3) := ⟨⟨by decide +kernel, by decide +kernel⟩, List.mem_of_getElem? (i := 52) (by decide +kernel), List.mem_of_getElem? (i := 410) (by decide +kernel), List.mem_of_getElem? (i := 411) (by decide +kernel)⟩
theorem lw_p5 : lw_okq (⟨"ParrotSpeech$HarbourReader", "readKnows", "()Z"⟩, 3) := ⟨⟨by decide +kernel, by decide +kernel⟩, List.mem_of_getElem? (i := 52) (by decide +kernel), List.mem_of_getElem? (i := 426) (by decide +kernel), List.mem_of_getElem? (i := 427) (by decide +kernel)⟩
theorem lw_p6 : lw_okq (⟨"ParrotSpeech$HarbourReader", "readSits", "()Z"⟩, 3) := ⟨⟨by decide +kernel, by decide +kernel⟩, List.mem_of_getElem? (i := 52) (by decide +kernel), List.mem_of_getElem? (i := 435) (by decide +kernel), List.mem_of_getElem? (i := 436) (by decide +kernel)⟩
theorem lw_p7 : lw_okq (⟨"ParrotSpeech$HarbourReader", "readCover", "()Z"⟩, 3) := ⟨⟨by decide +kernel, by decide +kernel⟩, List.mem_of_getElem? (i := 52) (by decide +kernel), List.mem_of_getElem? (i := 449) (by decide +kernel), List.mem_of_getElem? (i := 450) (by decide +kernel)⟩
theorem lw_p8 : lw_okq (⟨"ParrotSpeech", "noBird", "(I)Z"⟩, 11) := ⟨⟨by decide +kernel, by decide +kernel⟩, List.mem_of_getElem? (i := 19) (by decide +kernel), List.mem_of_getElem? (i := 493) (by decide +kernel), List.mem_of_getElem? (i := 494) (by decide +kernel)⟩
theorem lw_p9 : lw_okq (⟨"ParrotSpeech", "noMan", "(I)Z"⟩, 11) := ⟨⟨by decide +kernel, by decide +kernel⟩, List.mem_of_getElem? (i := 19) (by decide +kernel), List.mem_of_getElem? (i := 514) (by decide +kernel), List.mem_of_getElem? (i := 515) (by decide +kernel)⟩
theorem lw_p10 : lw_okq (⟨"ParrotSpeech$World", "handOver", "(I)V"⟩, 9) := ⟨⟨by decide +kernel, by decide +kernel⟩, List.mem_of_getElem? (i := 58) (by decide +kernel), List.mem_of_getElem? (i := 529) (by decide +kernel), List.mem_of_getElem? (i := 530) (by decide +kernel)⟩
theorem lw_p11 : lw_okq (⟨"ParrotSpeech$World", "awakeOn", "(I)I"⟩, 9) := ⟨⟨by decide +kernel, by decide +kernel⟩, List.mem_of_getElem? (i := 58) (by decide +kernel), List.mem_of_getElem? (i := 548) (by decide +kernel), List.mem_of_getElem? (i := 549) (by decide +kernel)⟩
theorem lw_p12 : lw_okq (⟨"ParrotSpeech$World", "isSilenced", "(I)Z"⟩, 9) := ⟨⟨by decide +kernel, by decide +kernel⟩, List.mem_of_getElem? (i := 58) (by decide +kernel), List.mem_of_getElem? (i := 552) (by decide +kernel), List.mem_of_getElem? (i := 553) (by decide +kernel)⟩
theorem lw_p13 : lw_okq (⟨"ParrotSpeech$World", "speakOn", "(IILParrotSpeech$Speech;)V"⟩, 9) := ⟨⟨by decide +kernel, by decide +kernel⟩, List.mem_of_getElem? (i := 58) (by decide +kernel), List.mem_of_getElem? (i := 556) (by decide +kernel), List.mem_of_getElem? (i := 557) (by decide +kernel)⟩
theorem lw_p14 : lw_okq (⟨"ParrotSpeech$World", "speak", "(IIILParrotSpeech$Speech;)V"⟩, 9) := ⟨⟨by decide +kernel, by decide +kernel⟩, List.mem_of_getElem? (i := 58) (by decide +kernel), List.mem_of_getElem? (i := 560) (by decide +kernel), List.mem_of_getElem? (i := 561) (by decide +kernel)⟩
theorem lw_p15 : lw_okq (⟨"ParrotSpeech$World", "bestKnown", "(II)I"⟩, 9) := ⟨⟨by decide +kernel, by decide +kernel⟩, List.mem_of_getElem? (i := 58) (by decide +kernel), List.mem_of_getElem? (i := 566) (by decide +kernel), List.mem_of_getElem? (i := 567) (by decide +kernel)⟩
def lw_privs_1 : List (MethodName × Nat) := [(⟨"ParrotSpeech$HarbourReader", "readClause", "()Z"⟩, 3), (⟨"ParrotSpeech$HarbourReader", "kindNamed", "()I"⟩, 3), (⟨"ParrotSpeech$HarbourReader", "readBird", "(I)Z"⟩, 3), (⟨"ParrotSpeech$HarbourReader", "readNumber", "(I)I"⟩, 3), (⟨"ParrotSpeech$HarbourReader", "readMan", "()Z"⟩, 3), (⟨"ParrotSpeech$HarbourReader", "readKnows", "()Z"⟩, 3), (⟨"ParrotSpeech$HarbourReader", "readSits", "()Z"⟩, 3), (⟨"ParrotSpeech$HarbourReader", "readCover", "()Z"⟩, 3), (⟨"ParrotSpeech", "noBird", "(I)Z"⟩, 11), (⟨"ParrotSpeech", "noMan", "(I)Z"⟩, 11), (⟨"ParrotSpeech$World", "handOver", "(I)V"⟩, 9), (⟨"ParrotSpeech$World", "awakeOn", "(I)I"⟩, 9), (⟨"ParrotSpeech$World", "isSilenced", "(I)Z"⟩, 9), (⟨"ParrotSpeech$World", "speakOn", "(IILParrotSpeech$Speech;)V"⟩, 9), (⟨"ParrotSpeech$World", "speak", "(IIILParrotSpeech$Speech;)V"⟩, 9), (⟨"ParrotSpeech$World", "bestKnown", "(II)I"⟩, 9)]
theorem lw_r1 : ∀ q ∈ lw_privs_1, lw_okq q := List.forall_mem_cons.mpr ⟨lw_p0, List.forall_mem_cons.mpr ⟨lw_p1, List.forall_mem_cons.mpr ⟨lw_p2, List.forall_mem_cons.mpr ⟨lw_p3, List.forall_mem_cons.mpr ⟨lw_p4, List.forall_mem_cons.mpr ⟨lw_p5, List.forall_mem_cons.mpr ⟨lw_p6, List.forall_mem_cons.mpr ⟨lw_p7, List.forall_mem_cons.mpr ⟨lw_p8, List.forall_mem_cons.mpr ⟨lw_p9, List.forall_mem_cons.mpr ⟨lw_p10, List.forall_mem_cons.mpr ⟨lw_p11, List.forall_mem_cons.mpr ⟨lw_p12, List.forall_mem_cons.mpr ⟨lw_p13, List.forall_mem_cons.mpr ⟨lw_p14, List.forall_mem_cons.mpr ⟨lw_p15, fun _ h => absurd h List.not_mem_nil⟩⟩⟩⟩⟩⟩⟩⟩⟩⟩⟩⟩⟩⟩⟩⟩
theorem lw_p16 : lw_okq (⟨"ParrotSpeech$World", "spread", "(II)V"⟩, 9) := ⟨⟨by decide +kernel, by decide +kernel⟩, List.mem_of_getElem? (i := 58) (by decide +kernel), List.mem_of_getElem? (i := 574) (by decide +kernel), List.mem_of_getElem? (i := 575) (by decide +kernel)⟩
theorem lw_p17 : lw_okq (⟨"ParrotSpeech$World", "lose", "(I)V"⟩, 9) := ⟨⟨by decide +kernel, by decide +kernel⟩, List.mem_of_getElem? (i := 58) (by decide +kernel), List.mem_of_getElem? (i := 580) (by decide +kernel), List.mem_of_getElem? (i := 581) (by decide +kernel)⟩
theorem lw_p18 : lw_okq (⟨"ParrotSpeech", "foretellSpeech", "()V"⟩, 11) := ⟨⟨by decide +kernel, by decide +kernel⟩, List.mem_of_getElem? (i := 19) (by decide +kernel), List.mem_of_getElem? (i := 672) (by decide +kernel), List.mem_of_getElem? (i := 673) (by decide +kernel)⟩
theorem lw_p19 : lw_okq (⟨"ParrotSpeech", "keptWords", "(III)I"⟩, 11) := ⟨⟨by decide +kernel, by decide +kernel⟩, List.mem_of_getElem? (i := 19) (by decide +kernel), List.mem_of_getElem? (i := 688) (by decide +kernel), List.mem_of_getElem? (i := 689) (by decide +kernel)⟩
theorem lw_p20 : lw_okq (⟨"ParrotSpeech", "mostKept", "(II)I"⟩, 11) := ⟨⟨by decide +kernel, by decide +kernel⟩, List.mem_of_getElem? (i := 19) (by decide +kernel), List.mem_of_getElem? (i := 702) (by decide +kernel), List.mem_of_getElem? (i := 703) (by decide +kernel)⟩
theorem lw_p21 : lw_okq (⟨"ParrotSpeech", "matchOf", "(I)I"⟩, 11) := ⟨⟨by decide +kernel, by decide +kernel⟩, List.mem_of_getElem? (i := 19) (by decide +kernel), List.mem_of_getElem? (i := 707) (by decide +kernel), List.mem_of_getElem? (i := 708) (by decide +kernel)⟩
theorem lw_p22 : lw_okq (⟨"ParrotSpeech", "leastChoice", "(II)I"⟩, 11) := ⟨⟨by decide +kernel, by decide +kernel⟩, List.mem_of_getElem? (i := 19) (by decide +kernel), List.mem_of_getElem? (i := 711) (by decide +kernel), List.mem_of_getElem? (i := 712) (by decide +kernel)⟩
theorem lw_p23 : lw_okq (⟨"ParrotSpeech", "staysClean", "(IIII)Z"⟩, 11) := ⟨⟨by decide +kernel, by decide +kernel⟩, List.mem_of_getElem? (i := 19) (by decide +kernel), List.mem_of_getElem? (i := 723) (by decide +kernel), List.mem_of_getElem? (i := 724) (by decide +kernel)⟩
theorem lw_p24 : lw_okq (⟨"ParrotSpeech$Tongue", "sumEnds", "(IIII)I"⟩, 7) := ⟨⟨by decide +kernel, by decide +kernel⟩, List.mem_of_getElem? (i := 116) (by decide +kernel), List.mem_of_getElem? (i := 736) (by decide +kernel), List.mem_of_getElem? (i := 737) (by decide +kernel)⟩
theorem lw_p25 : lw_okq (⟨"ParrotSpeech$Tongue", "behindPart", "(I)I"⟩, 7) := ⟨⟨by decide +kernel, by decide +kernel⟩, List.mem_of_getElem? (i := 116) (by decide +kernel), List.mem_of_getElem? (i := 740) (by decide +kernel), List.mem_of_getElem? (i := 741) (by decide +kernel)⟩
theorem lw_p26 : lw_okq (⟨"ParrotSpeech$Tongue", "repeatedEnds", "(IIII)I"⟩, 7) := ⟨⟨by decide +kernel, by decide +kernel⟩, List.mem_of_getElem? (i := 116) (by decide +kernel), List.mem_of_getElem? (i := 745) (by decide +kernel), List.mem_of_getElem? (i := 746) (by decide +kernel)⟩
theorem lw_p27 : lw_okq (⟨"ParrotSpeech$Tongue", "partEnds", "(IIII)I"⟩, 7) := ⟨⟨by decide +kernel, by decide +kernel⟩, List.mem_of_getElem? (i := 116) (by decide +kernel), List.mem_of_getElem? (i := 749) (by decide +kernel), List.mem_of_getElem? (i := 750) (by decide +kernel)⟩
theorem lw_p28 : lw_okq (⟨"ParrotSpeech$Tongue", "wordEnds", "(II)I"⟩, 7) := ⟨⟨by decide +kernel, by decide +kernel⟩, List.mem_of_getElem? (i := 116) (by decide +kernel), List.mem_of_getElem? (i := 753) (by decide +kernel), List.mem_of_getElem? (i := 754) (by decide +kernel)⟩
theorem lw_p29 : lw_okq (⟨"ParrotSpeech", "reelsThere", "()I"⟩, 11) := ⟨⟨by decide +kernel, by decide +kernel⟩, List.mem_of_getElem? (i := 19) (by decide +kernel), List.mem_of_getElem? (i := 844) (by decide +kernel), List.mem_of_getElem? (i := 845) (by decide +kernel)⟩
theorem lw_p30 : lw_okq (⟨"ParrotSpeechModel", "reads", "(Z)Z"⟩, 42) := ⟨⟨by decide +kernel, by decide +kernel⟩, List.mem_of_getElem? (i := 853) (by decide +kernel), List.mem_of_getElem? (i := 1003) (by decide +kernel), List.mem_of_getElem? (i := 1004) (by decide +kernel)⟩
theorem lw_p31 : lw_okq (⟨"ParrotSpeechModel", "nextToken", "()V"⟩, 42) := ⟨⟨by decide +kernel, by decide +kernel⟩, List.mem_of_getElem? (i := 853) (by decide +kernel), List.mem_of_getElem? (i := 1007) (by decide +kernel), List.mem_of_getElem? (i := 1008) (by decide +kernel)⟩
def lw_privs_2 : List (MethodName × Nat) := [(⟨"ParrotSpeech$World", "spread", "(II)V"⟩, 9), (⟨"ParrotSpeech$World", "lose", "(I)V"⟩, 9), (⟨"ParrotSpeech", "foretellSpeech", "()V"⟩, 11), (⟨"ParrotSpeech", "keptWords", "(III)I"⟩, 11), (⟨"ParrotSpeech", "mostKept", "(II)I"⟩, 11), (⟨"ParrotSpeech", "matchOf", "(I)I"⟩, 11), (⟨"ParrotSpeech", "leastChoice", "(II)I"⟩, 11), (⟨"ParrotSpeech", "staysClean", "(IIII)Z"⟩, 11), (⟨"ParrotSpeech$Tongue", "sumEnds", "(IIII)I"⟩, 7), (⟨"ParrotSpeech$Tongue", "behindPart", "(I)I"⟩, 7), (⟨"ParrotSpeech$Tongue", "repeatedEnds", "(IIII)I"⟩, 7), (⟨"ParrotSpeech$Tongue", "partEnds", "(IIII)I"⟩, 7), (⟨"ParrotSpeech$Tongue", "wordEnds", "(II)I"⟩, 7), (⟨"ParrotSpeech", "reelsThere", "()I"⟩, 11), (⟨"ParrotSpeechModel", "reads", "(Z)Z"⟩, 42), (⟨"ParrotSpeechModel", "nextToken", "()V"⟩, 42)]
theorem lw_r2 : ∀ q ∈ lw_privs_2, lw_okq q := List.forall_mem_cons.mpr ⟨lw_p16, List.forall_mem_cons.mpr ⟨lw_p17, List.forall_mem_cons.mpr ⟨lw_p18, List.forall_mem_cons.mpr ⟨lw_p19, List.forall_mem_cons.mpr ⟨lw_p20, List.forall_mem_cons.mpr ⟨lw_p21, List.forall_mem_cons.mpr ⟨lw_p22, List.forall_mem_cons.mpr ⟨lw_p23, List.forall_mem_cons.mpr ⟨lw_p24, List.forall_mem_cons.mpr ⟨lw_p25, List.forall_mem_cons.mpr ⟨lw_p26, List.forall_mem_cons.mpr ⟨lw_p27, List.forall_mem_cons.mpr ⟨lw_p28, List.forall_mem_cons.mpr ⟨lw_p29, List.forall_mem_cons.mpr ⟨lw_p30, List.forall_mem_cons.mpr ⟨lw_p31, fun _ h => absurd h List.not_mem_nil⟩⟩⟩⟩⟩⟩⟩⟩⟩⟩⟩⟩⟩⟩⟩⟩
theorem lw_p32 : lw_okq (⟨"ParrotSpeechModel", "readsClause", "()Z"⟩, 42) := ⟨⟨by decide +kernel, by decide +kernel⟩, List.mem_of_getElem? (i := 853) (by decide +kernel), List.mem_of_getElem? (i := 1021) (by decide +kernel), List.mem_of_getElem? (i := 1022) (by decide +kernel)⟩
theorem lw_p33 : lw_okq (⟨"ParrotSpeechModel", "kindHere", "()I"⟩, 42) := ⟨⟨by decide +kernel, by decide +kernel⟩, List.mem_of_getElem? (i := 853) (by decide +kernel), List.mem_of_getElem? (i := 1025) (by decide +kernel), List.mem_of_getElem? (i := 1026) (by decide +kernel)⟩
theorem lw_p34 : lw_okq (⟨"ParrotSpeechModel", "isWord", "([I)Z"⟩, 42) := ⟨⟨by decide +kernel, by decide +kernel⟩, List.mem_of_getElem? (i := 853) (by decide +kernel), List.mem_of_getElem? (i := 1029) (by decide +kernel), List.mem_of_getElem? (i := 1030) (by decide +kernel)⟩
theorem lw_p35 : lw_okq (⟨"ParrotSpeechModel", "readsBird", "(I)Z"⟩, 42) := ⟨⟨by decide +kernel, by decide +kernel⟩, List.mem_of_getElem? (i := 853) (by decide +kernel), List.mem_of_getElem? (i := 1033) (by decide +kernel), List.mem_of_getElem? (i := 1034) (by decide +kernel)⟩
theorem lw_p36 : lw_okq (⟨"ParrotSpeechModel", "number", "(I)I"⟩, 42) := ⟨⟨by decide +kernel, by decide +kernel⟩, List.mem_of_getElem? (i := 853) (by decide +kernel), List.mem_of_getElem? (i := 1037) (by decide +kernel), List.mem_of_getElem? (i := 1038) (by decide +kernel)⟩
theorem lw_p37 : lw_okq (⟨"ParrotSpeechModel", "numberHere", "(I)I"⟩, 42) := ⟨⟨by decide +kernel, by decide +kernel⟩, List.mem_of_getElem? (i := 853) (by decide +kernel), List.mem_of_getElem? (i := 1041) (by decide +kernel), List.mem_of_getElem? (i := 1042) (by decide +kernel)⟩
theorem lw_p38 : lw_okq (⟨"ParrotSpeechModel", "readsMan", "()Z"⟩, 42) := ⟨⟨by decide +kernel, by decide +kernel⟩, List.mem_of_getElem? (i := 853) (by decide +kernel), List.mem_of_getElem? (i := 1045) (by decide +kernel), List.mem_of_getElem? (i := 1046) (by decide +kernel)⟩
theorem lw_p39 : lw_okq (⟨"ParrotSpeechModel", "words", "(I)I"⟩, 42) := ⟨⟨by decide +kernel, by decide +kernel⟩, List.mem_of_getElem? (i := 853) (by decide +kernel), List.mem_of_getElem? (i := 1049) (by decide +kernel), List.mem_of_getElem? (i := 1050) (by decide +kernel)⟩
theorem lw_p40 : lw_okq (⟨"ParrotSpeechModel", "readsHarbour", "()Z"⟩, 42) := ⟨⟨by decide +kernel, by decide +kernel⟩, List.mem_of_getElem? (i := 853) (by decide +kernel), List.mem_of_getElem? (i := 1053) (by decide +kernel), List.mem_of_getElem? (i := 1054) (by decide +kernel)⟩
theorem lw_p41 : lw_okq (⟨"ParrotSpeechModel", "readsKnows", "()Z"⟩, 42) := ⟨⟨by decide +kernel, by decide +kernel⟩, List.mem_of_getElem? (i := 853) (by decide +kernel), List.mem_of_getElem? (i := 1057) (by decide +kernel), List.mem_of_getElem? (i := 1058) (by decide +kernel)⟩
theorem lw_p42 : lw_okq (⟨"ParrotSpeechModel", "readsSits", "()Z"⟩, 42) := ⟨⟨by decide +kernel, by decide +kernel⟩, List.mem_of_getElem? (i := 853) (by decide +kernel), List.mem_of_getElem? (i := 1064) (by decide +kernel), List.mem_of_getElem? (i := 1065) (by decide +kernel)⟩
theorem lw_p43 : lw_okq (⟨"ParrotSpeechModel", "readsCover", "()Z"⟩, 42) := ⟨⟨by decide +kernel, by decide +kernel⟩, List.mem_of_getElem? (i := 853) (by decide +kernel), List.mem_of_getElem? (i := 1068) (by decide +kernel), List.mem_of_getElem? (i := 1069) (by decide +kernel)⟩
theorem lw_p44 : lw_okq (⟨"ParrotSpeechModel", "copyHarbour", "(II)V"⟩, 42) := ⟨⟨by decide +kernel, by decide +kernel⟩, List.mem_of_getElem? (i := 853) (by decide +kernel), List.mem_of_getElem? (i := 1072) (by decide +kernel), List.mem_of_getElem? (i := 1073) (by decide +kernel)⟩
theorem lw_p45 : lw_okq (⟨"ParrotSpeechModel", "tongueFault", "()I"⟩, 42) := ⟨⟨by decide +kernel, by decide +kernel⟩, List.mem_of_getElem? (i := 853) (by decide +kernel), List.mem_of_getElem? (i := 1080) (by decide +kernel), List.mem_of_getElem? (i := 1081) (by decide +kernel)⟩
theorem lw_p46 : lw_okq (⟨"ParrotSpeechModel", "layTongue", "()V"⟩, 42) := ⟨⟨by decide +kernel, by decide +kernel⟩, List.mem_of_getElem? (i := 853) (by decide +kernel), List.mem_of_getElem? (i := 1089) (by decide +kernel), List.mem_of_getElem? (i := 1090) (by decide +kernel)⟩
theorem lw_p47 : lw_okq (⟨"ParrotSpeechModel", "isBird", "(I)Z"⟩, 42) := ⟨⟨by decide +kernel, by decide +kernel⟩, List.mem_of_getElem? (i := 853) (by decide +kernel), List.mem_of_getElem? (i := 1097) (by decide +kernel), List.mem_of_getElem? (i := 1098) (by decide +kernel)⟩
def lw_privs_3 : List (MethodName × Nat) := [(⟨"ParrotSpeechModel", "readsClause", "()Z"⟩, 42), (⟨"ParrotSpeechModel", "kindHere", "()I"⟩, 42), (⟨"ParrotSpeechModel", "isWord", "([I)Z"⟩, 42), (⟨"ParrotSpeechModel", "readsBird", "(I)Z"⟩, 42), (⟨"ParrotSpeechModel", "number", "(I)I"⟩, 42), (⟨"ParrotSpeechModel", "numberHere", "(I)I"⟩, 42), (⟨"ParrotSpeechModel", "readsMan", "()Z"⟩, 42), (⟨"ParrotSpeechModel", "words", "(I)I"⟩, 42), (⟨"ParrotSpeechModel", "readsHarbour", "()Z"⟩, 42), (⟨"ParrotSpeechModel", "readsKnows", "()Z"⟩, 42), (⟨"ParrotSpeechModel", "readsSits", "()Z"⟩, 42), (⟨"ParrotSpeechModel", "readsCover", "()Z"⟩, 42), (⟨"ParrotSpeechModel", "copyHarbour", "(II)V"⟩, 42), (⟨"ParrotSpeechModel", "tongueFault", "()I"⟩, 42), (⟨"ParrotSpeechModel", "layTongue", "()V"⟩, 42), (⟨"ParrotSpeechModel", "isBird", "(I)Z"⟩, 42)]
theorem lw_r3 : ∀ q ∈ lw_privs_3, lw_okq q := List.forall_mem_cons.mpr ⟨lw_p32, List.forall_mem_cons.mpr ⟨lw_p33, List.forall_mem_cons.mpr ⟨lw_p34, List.forall_mem_cons.mpr ⟨lw_p35, List.forall_mem_cons.mpr ⟨lw_p36, List.forall_mem_cons.mpr ⟨lw_p37, List.forall_mem_cons.mpr ⟨lw_p38, List.forall_mem_cons.mpr ⟨lw_p39, List.forall_mem_cons.mpr ⟨lw_p40, List.forall_mem_cons.mpr ⟨lw_p41, List.forall_mem_cons.mpr ⟨lw_p42, List.forall_mem_cons.mpr ⟨lw_p43, List.forall_mem_cons.mpr ⟨lw_p44, List.forall_mem_cons.mpr ⟨lw_p45, List.forall_mem_cons.mpr ⟨lw_p46, List.forall_mem_cons.mpr ⟨lw_p47, fun _ h => absurd h List.not_mem_nil⟩⟩⟩⟩⟩⟩⟩⟩⟩⟩⟩⟩⟩⟩⟩⟩
theorem lw_p48 : lw_okq (⟨"ParrotSpeechModel", "manOf", "(II)I"⟩, 42) := ⟨⟨by decide +kernel, by decide +kernel⟩, List.mem_of_getElem? (i := 853) (by decide +kernel), List.mem_of_getElem? (i := 1101) (by decide +kernel), List.mem_of_getElem? (i := 1102) (by decide +kernel)⟩
theorem lw_p49 : lw_okq (⟨"ParrotSpeechModel", "wellKnown", "(II)I"⟩, 42) := ⟨⟨by decide +kernel, by decide +kernel⟩, List.mem_of_getElem? (i := 853) (by decide +kernel), List.mem_of_getElem? (i := 1105) (by decide +kernel), List.mem_of_getElem? (i := 1106) (by decide +kernel)⟩
theorem lw_p50 : lw_okq (⟨"ParrotSpeechModel", "isMan", "(I)Z"⟩, 42) := ⟨⟨by decide +kernel, by decide +kernel⟩, List.mem_of_getElem? (i := 853) (by decide +kernel), List.mem_of_getElem? (i := 1113) (by decide +kernel), List.mem_of_getElem? (i := 1114) (by decide +kernel)⟩
theorem lw_p51 : lw_okq (⟨"ParrotSpeechModel", "layTried", "()V"⟩, 42) := ⟨⟨by decide +kernel, by decide +kernel⟩, List.mem_of_getElem? (i := 853) (by decide +kernel), List.mem_of_getElem? (i := 1134) (by decide +kernel), List.mem_of_getElem? (i := 1135) (by decide +kernel)⟩
theorem lw_p52 : lw_okq (⟨"ParrotSpeechModel", "passTried", "(I)V"⟩, 42) := ⟨⟨by decide +kernel, by decide +kernel⟩, List.mem_of_getElem? (i := 853) (by decide +kernel), List.mem_of_getElem? (i := 1138) (by decide +kernel), List.mem_of_getElem? (i := 1139) (by decide +kernel)⟩
theorem lw_p53 : lw_okq (⟨"ParrotSpeechModel", "passes", "(I)V"⟩, 42) := ⟨⟨by decide +kernel, by decide +kernel⟩, List.mem_of_getElem? (i := 853) (by decide +kernel), List.mem_of_getElem? (i := 1142) (by decide +kernel), List.mem_of_getElem? (i := 1143) (by decide +kernel)⟩
theorem lw_p54 : lw_okq (⟨"ParrotSpeechModel", "handOver", "(I)V"⟩, 42) := ⟨⟨by decide +kernel, by decide +kernel⟩, List.mem_of_getElem? (i := 853) (by decide +kernel), List.mem_of_getElem? (i := 1146) (by decide +kernel), List.mem_of_getElem? (i := 1147) (by decide +kernel)⟩
theorem lw_p55 : lw_okq (⟨"ParrotSpeechModel", "isOpen", "(II)Z"⟩, 42) := ⟨⟨by decide +kernel, by decide +kernel⟩, List.mem_of_getElem? (i := 853) (by decide +kernel), List.mem_of_getElem? (i := 1150) (by decide +kernel), List.mem_of_getElem? (i := 1151) (by decide +kernel)⟩
theorem lw_p56 : lw_okq (⟨"ParrotSpeechModel", "learns", "(IIII)V"⟩, 42) := ⟨⟨by decide +kernel, by decide +kernel⟩, List.mem_of_getElem? (i := 853) (by decide +kernel), List.mem_of_getElem? (i := 1154) (by decide +kernel), List.mem_of_getElem? (i := 1155) (by decide +kernel)⟩
theorem lw_p57 : lw_okq (⟨"ParrotSpeechModel", "isSilent", "(II)Z"⟩, 42) := ⟨⟨by decide +kernel, by decide +kernel⟩, List.mem_of_getElem? (i := 853) (by decide +kernel), List.mem_of_getElem? (i := 1158) (by decide +kernel), List.mem_of_getElem? (i := 1159) (by decide +kernel)⟩
theorem lw_p58 : lw_okq (⟨"ParrotSpeechModel", "speak", "(II)V"⟩, 42) := ⟨⟨by decide +kernel, by decide +kernel⟩, List.mem_of_getElem? (i := 853) (by decide +kernel), List.mem_of_getElem? (i := 1162) (by decide +kernel), List.mem_of_getElem? (i := 1163) (by decide +kernel)⟩
theorem lw_p59 : lw_okq (⟨"ParrotSpeechModel", "bestWord", "(III)I"⟩, 42) := ⟨⟨by decide +kernel, by decide +kernel⟩, List.mem_of_getElem? (i := 853) (by decide +kernel), List.mem_of_getElem? (i := 1166) (by decide +kernel), List.mem_of_getElem? (i := 1167) (by decide +kernel)⟩
theorem lw_p60 : lw_okq (⟨"ParrotSpeechModel", "say", "(IIII)V"⟩, 42) := ⟨⟨by decide +kernel, by decide +kernel⟩, List.mem_of_getElem? (i := 853) (by decide +kernel), List.mem_of_getElem? (i := 1173) (by decide +kernel), List.mem_of_getElem? (i := 1174) (by decide +kernel)⟩
theorem lw_p61 : lw_okq (⟨"ParrotSpeechModel", "lose", "(I)V"⟩, 42) := ⟨⟨by decide +kernel, by decide +kernel⟩, List.mem_of_getElem? (i := 853) (by decide +kernel), List.mem_of_getElem? (i := 1180) (by decide +kernel), List.mem_of_getElem? (i := 1181) (by decide +kernel)⟩
theorem lw_p62 : lw_okq (⟨"ParrotSpeechModel", "keepPast", "()V"⟩, 42) := ⟨⟨by decide +kernel, by decide +kernel⟩, List.mem_of_getElem? (i := 853) (by decide +kernel), List.mem_of_getElem? (i := 1193) (by decide +kernel), List.mem_of_getElem? (i := 1194) (by decide +kernel)⟩
theorem lw_p63 : lw_okq (⟨"ParrotSpeechModel", "sets", "(III)V"⟩, 42) := ⟨⟨by decide +kernel, by decide +kernel⟩, List.mem_of_getElem? (i := 853) (by decide +kernel), List.mem_of_getElem? (i := 1218) (by decide +kernel), List.mem_of_getElem? (i := 1219) (by decide +kernel)⟩
def lw_privs_4 : List (MethodName × Nat) := [(⟨"ParrotSpeechModel", "manOf", "(II)I"⟩, 42), (⟨"ParrotSpeechModel", "wellKnown", "(II)I"⟩, 42), (⟨"ParrotSpeechModel", "isMan", "(I)Z"⟩, 42), (⟨"ParrotSpeechModel", "layTried", "()V"⟩, 42), (⟨"ParrotSpeechModel", "passTried", "(I)V"⟩, 42), (⟨"ParrotSpeechModel", "passes", "(I)V"⟩, 42), (⟨"ParrotSpeechModel", "handOver", "(I)V"⟩, 42), (⟨"ParrotSpeechModel", "isOpen", "(II)Z"⟩, 42), (⟨"ParrotSpeechModel", "learns", "(IIII)V"⟩, 42), (⟨"ParrotSpeechModel", "isSilent", "(II)Z"⟩, 42), (⟨"ParrotSpeechModel", "speak", "(II)V"⟩, 42), (⟨"ParrotSpeechModel", "bestWord", "(III)I"⟩, 42), (⟨"ParrotSpeechModel", "say", "(IIII)V"⟩, 42), (⟨"ParrotSpeechModel", "lose", "(I)V"⟩, 42), (⟨"ParrotSpeechModel", "keepPast", "()V"⟩, 42), (⟨"ParrotSpeechModel", "sets", "(III)V"⟩, 42)]
theorem lw_r4 : ∀ q ∈ lw_privs_4, lw_okq q := List.forall_mem_cons.mpr ⟨lw_p48, List.forall_mem_cons.mpr ⟨lw_p49, List.forall_mem_cons.mpr ⟨lw_p50, List.forall_mem_cons.mpr ⟨lw_p51, List.forall_mem_cons.mpr ⟨lw_p52, List.forall_mem_cons.mpr ⟨lw_p53, List.forall_mem_cons.mpr ⟨lw_p54, List.forall_mem_cons.mpr ⟨lw_p55, List.forall_mem_cons.mpr ⟨lw_p56, List.forall_mem_cons.mpr ⟨lw_p57, List.forall_mem_cons.mpr ⟨lw_p58, List.forall_mem_cons.mpr ⟨lw_p59, List.forall_mem_cons.mpr ⟨lw_p60, List.forall_mem_cons.mpr ⟨lw_p61, List.forall_mem_cons.mpr ⟨lw_p62, List.forall_mem_cons.mpr ⟨lw_p63, fun _ h => absurd h List.not_mem_nil⟩⟩⟩⟩⟩⟩⟩⟩⟩⟩⟩⟩⟩⟩⟩⟩
theorem lw_p64 : lw_okq (⟨"ParrotSpeechModel", "saidAt", "(II)I"⟩, 42) := ⟨⟨by decide +kernel, by decide +kernel⟩, List.mem_of_getElem? (i := 853) (by decide +kernel), List.mem_of_getElem? (i := 1239) (by decide +kernel), List.mem_of_getElem? (i := 1240) (by decide +kernel)⟩
theorem lw_p65 : lw_okq (⟨"ParrotSpeechModel", "keptBy", "(III)I"⟩, 42) := ⟨⟨by decide +kernel, by decide +kernel⟩, List.mem_of_getElem? (i := 853) (by decide +kernel), List.mem_of_getElem? (i := 1252) (by decide +kernel), List.mem_of_getElem? (i := 1253) (by decide +kernel)⟩
theorem lw_p66 : lw_okq (⟨"ParrotSpeechModel", "keptByLine", "()I"⟩, 42) := ⟨⟨by decide +kernel, by decide +kernel⟩, List.mem_of_getElem? (i := 853) (by decide +kernel), List.mem_of_getElem? (i := 1263) (by decide +kernel), List.mem_of_getElem? (i := 1264) (by decide +kernel)⟩
theorem lw_p67 : lw_okq (⟨"ParrotSpeechModel", "nextLine", "()Z"⟩, 42) := ⟨⟨by decide +kernel, by decide +kernel⟩, List.mem_of_getElem? (i := 853) (by decide +kernel), List.mem_of_getElem? (i := 1267) (by decide +kernel), List.mem_of_getElem? (i := 1268) (by decide +kernel)⟩
theorem lw_p68 : lw_okq (⟨"ParrotSpeechModel", "goOnAll", "()V"⟩, 42) := ⟨⟨by decide +kernel, by decide +kernel⟩, List.mem_of_getElem? (i := 853) (by decide +kernel), List.mem_of_getElem? (i := 1279) (by decide +kernel), List.mem_of_getElem? (i := 1280) (by decide +kernel)⟩
theorem lw_p69 : lw_okq (⟨"ParrotSpeechModel", "goesOn", "(I)Z"⟩, 42) := ⟨⟨by decide +kernel, by decide +kernel⟩, List.mem_of_getElem? (i := 853) (by decide +kernel), List.mem_of_getElem? (i := 1283) (by decide +kernel), List.mem_of_getElem? (i := 1284) (by decide +kernel)⟩
theorem lw_p70 : lw_okq (⟨"ParrotSpeechModel", "mark", "(I)Z"⟩, 42) := ⟨⟨by decide +kernel, by decide +kernel⟩, List.mem_of_getElem? (i := 853) (by decide +kernel), List.mem_of_getElem? (i := 1287) (by decide +kernel), List.mem_of_getElem? (i := 1288) (by decide +kernel)⟩
theorem lw_p71 : lw_okq (⟨"ParrotSpeechModel", "hearWord", "(I)V"⟩, 42) := ⟨⟨by decide +kernel, by decide +kernel⟩, List.mem_of_getElem? (i := 853) (by decide +kernel), List.mem_of_getElem? (i := 1291) (by decide +kernel), List.mem_of_getElem? (i := 1292) (by decide +kernel)⟩
theorem lw_p72 : lw_okq (⟨"ParrotSpeechModel", "noPlace", "(III)I"⟩, 42) := ⟨⟨by decide +kernel, by decide +kernel⟩, List.mem_of_getElem? (i := 853) (by decide +kernel), List.mem_of_getElem? (i := 1324) (by decide +kernel), List.mem_of_getElem? (i := 1325) (by decide +kernel)⟩
theorem lw_p73 : lw_okq (⟨"ParrotSpeechModel", "isSpan", "(III)Z"⟩, 42) := ⟨⟨by decide +kernel, by decide +kernel⟩, List.mem_of_getElem? (i := 853) (by decide +kernel), List.mem_of_getElem? (i := 1339) (by decide +kernel), List.mem_of_getElem? (i := 1340) (by decide +kernel)⟩
theorem lw_p74 : lw_okq (⟨"ParrotSpeechModel", "menWords", "()I"⟩, 42) := ⟨⟨by decide +kernel, by decide +kernel⟩, List.mem_of_getElem? (i := 853) (by decide +kernel), List.mem_of_getElem? (i := 1351) (by decide +kernel), List.mem_of_getElem? (i := 1352) (by decide +kernel)⟩
theorem lw_p75 : lw_okq (⟨"ParrotSpeechModel", "reelsThere", "()I"⟩, 42) := ⟨⟨by decide +kernel, by decide +kernel⟩, List.mem_of_getElem? (i := 853) (by decide +kernel), List.mem_of_getElem? (i := 1355) (by decide +kernel), List.mem_of_getElem? (i := 1356) (by decide +kernel)⟩
theorem lw_p76 : lw_okq (⟨"ParrotSpeechModel", "allWellKnown", "()I"⟩, 42) := ⟨⟨by decide +kernel, by decide +kernel⟩, List.mem_of_getElem? (i := 853) (by decide +kernel), List.mem_of_getElem? (i := 1359) (by decide +kernel), List.mem_of_getElem? (i := 1360) (by decide +kernel)⟩
def lw_privs_5 : List (MethodName × Nat) := [(⟨"ParrotSpeechModel", "saidAt", "(II)I"⟩, 42), (⟨"ParrotSpeechModel", "keptBy", "(III)I"⟩, 42), (⟨"ParrotSpeechModel", "keptByLine", "()I"⟩, 42), (⟨"ParrotSpeechModel", "nextLine", "()Z"⟩, 42), (⟨"ParrotSpeechModel", "goOnAll", "()V"⟩, 42), (⟨"ParrotSpeechModel", "goesOn", "(I)Z"⟩, 42), (⟨"ParrotSpeechModel", "mark", "(I)Z"⟩, 42), (⟨"ParrotSpeechModel", "hearWord", "(I)V"⟩, 42), (⟨"ParrotSpeechModel", "noPlace", "(III)I"⟩, 42), (⟨"ParrotSpeechModel", "isSpan", "(III)Z"⟩, 42), (⟨"ParrotSpeechModel", "menWords", "()I"⟩, 42), (⟨"ParrotSpeechModel", "reelsThere", "()I"⟩, 42), (⟨"ParrotSpeechModel", "allWellKnown", "()I"⟩, 42)]
theorem lw_r5 : ∀ q ∈ lw_privs_5, lw_okq q := List.forall_mem_cons.mpr ⟨lw_p64, List.forall_mem_cons.mpr ⟨lw_p65, List.forall_mem_cons.mpr ⟨lw_p66, List.forall_mem_cons.mpr ⟨lw_p67, List.forall_mem_cons.mpr ⟨lw_p68, List.forall_mem_cons.mpr ⟨lw_p69, List.forall_mem_cons.mpr ⟨lw_p70, List.forall_mem_cons.mpr ⟨lw_p71, List.forall_mem_cons.mpr ⟨lw_p72, List.forall_mem_cons.mpr ⟨lw_p73, List.forall_mem_cons.mpr ⟨lw_p74, List.forall_mem_cons.mpr ⟨lw_p75, List.forall_mem_cons.mpr ⟨lw_p76, fun _ h => absurd h List.not_mem_nil⟩⟩⟩⟩⟩⟩⟩⟩⟩⟩⟩⟩⟩
def lw_privs : List (MethodName × Nat) := lw_privs_1 ++ (lw_privs_2 ++ (lw_privs_3 ++ (lw_privs_4 ++ (lw_privs_5))))
def lw_tbl : List Cond := k2_sels lw_privs ++ tables_1
theorem lw_privs_ok : ∀ q ∈ lw_privs, lw_okq q := by
  show ∀ q ∈ lw_privs_1 ++ (lw_privs_2 ++ (lw_privs_3 ++ (lw_privs_4 ++ (lw_privs_5)))), lw_okq q
  exact List.forall_mem_append.mpr ⟨lw_r1, List.forall_mem_append.mpr ⟨lw_r2, List.forall_mem_append.mpr ⟨lw_r3, List.forall_mem_append.mpr ⟨lw_r4, lw_r5⟩⟩⟩⟩
def RX0 : String := "ParrotSpeech$HarbourReader"
def TX0 : u_T := fun k => match k with
  | 0 => ("ParrotSpeech$HarbourReader", "text", "LParrotSpeech$Text;", true)
  | 1 => ("ParrotSpeech$HarbourReader", "world", "LParrotSpeech$World;", true)
  | _ => ("ParrotSpeech$HarbourReader", "clauses", "I", false)
def tyX0 : Nat → FieldType := fun k => match k with
  | 0 => .object "ParrotSpeech$Text"
  | 1 => .object "ParrotSpeech$World"
  | _ => .int
abbrev wsX00 : List Cond := u_ws RX0 TX0 3
theorem nmX0 : ∀ a, a < 3 → ∀ b, b < 3 → a ≠ b → (TX0 a).2.1 ≠ (TX0 b).2.1 := by decide +kernel
theorem tyX0_ok : ∀ k, k < 3 → parseFieldDescriptor (TX0 k).2.2.1 = some (tyX0 k) := by decide +kernel
abbrev cX0_init : ByteArray := prog_2_method_1_code
def yX0_init : MethodName := ⟨RX0, "<init>", "(LParrotSpeech$Text;)V"⟩
abbrev cX0_readOver : ByteArray := prog_2_method_2_code
def yX0_readOver : MethodName := ⟨RX0, "readOver", "(LParrotSpeech$World;)I"⟩
abbrev cX0_readClause : ByteArray := prog_2_method_3_code
def yX0_readClause : MethodName := ⟨RX0, "readClause", "()Z"⟩
abbrev cX0_kindNamed : ByteArray := prog_2_method_4_code
def yX0_kindNamed : MethodName := ⟨RX0, "kindNamed", "()I"⟩
abbrev cX0_readBird : ByteArray := prog_2_method_5_code
def yX0_readBird : MethodName := ⟨RX0, "readBird", "(I)Z"⟩
abbrev cX0_readMan : ByteArray := prog_2_method_6_code
def yX0_readMan : MethodName := ⟨RX0, "readMan", "()Z"⟩
abbrev cX0_readKnows : ByteArray := prog_2_method_7_code
def yX0_readKnows : MethodName := ⟨RX0, "readKnows", "()Z"⟩
abbrev cX0_readSits : ByteArray := prog_2_method_8_code
def yX0_readSits : MethodName := ⟨RX0, "readSits", "()Z"⟩
abbrev cX0_readCover : ByteArray := prog_2_method_9_code
def yX0_readCover : MethodName := ⟨RX0, "readCover", "()Z"⟩
abbrev cX0_readNumber : ByteArray := prog_2_method_10_code
def yX0_readNumber : MethodName := ⟨RX0, "readNumber", "(I)I"⟩
def RX1 : String := "ParrotSpeech$History"
def TX1 : u_T := fun k => match k with
  | 0 => ("ParrotSpeech$History", "before", "[LParrotSpeech$World;", true)
  | 1 => ("ParrotSpeech$History", "kept", "[LParrotSpeech$World;", true)
  | 2 => ("ParrotSpeech$History", "next", "I", false)
  | 3 => ("ParrotSpeech$History", "storedBits", "I", false)
  | _ => ("ParrotSpeech$History", "size", "I", false)
def tyX1 : Nat → FieldType := fun k => match k with
  | 0 => .array (.object "ParrotSpeech$World")
  | 1 => .array (.object "ParrotSpeech$World")
  | 2 => .int
  | 3 => .int
  | _ => .int
abbrev wsX10 : List Cond := u_ws RX1 TX1 5
theorem nmX1 : ∀ a, a < 5 → ∀ b, b < 5 → a ≠ b → (TX1 a).2.1 ≠ (TX1 b).2.1 := by decide +kernel
theorem tyX1_ok : ∀ k, k < 5 → parseFieldDescriptor (TX1 k).2.2.1 = some (tyX1 k) := by decide +kernel
abbrev cX1_init : ByteArray := prog_3_method_1_code
def yX1_init : MethodName := ⟨RX1, "<init>", "()V"⟩
abbrev cX1_clear : ByteArray := prog_3_method_2_code
def yX1_clear : MethodName := ⟨RX1, "clear", "()V"⟩
abbrev cX1_remember : ByteArray := prog_3_method_3_code
def yX1_remember : MethodName := ⟨RX1, "remember", "(LParrotSpeech$World;)V"⟩
abbrev cX1_takeBack : ByteArray := prog_3_method_4_code
def yX1_takeBack : MethodName := ⟨RX1, "takeBack", "(LParrotSpeech$World;)V"⟩
abbrev cX1_store : ByteArray := prog_3_method_5_code
def yX1_store : MethodName := ⟨RX1, "store", "(ILParrotSpeech$World;)V"⟩
abbrev cX1_isStored : ByteArray := prog_3_method_6_code
def yX1_isStored : MethodName := ⟨RX1, "isStored", "(I)Z"⟩
abbrev cX1_restore : ByteArray := prog_3_method_7_code
def yX1_restore : MethodName := ⟨RX1, "restore", "(ILParrotSpeech$World;)V"⟩
def RX2 : String := "ParrotSpeech$Reel"
def TX2 : u_T := fun k => match k with
  | 0 => ("ParrotSpeech$Reel", "places", "[I", true)
  | 1 => ("ParrotSpeech$Reel", "there", "Z", false)
  | 2 => ("ParrotSpeech$Reel", "sort", "I", false)
  | _ => ("ParrotSpeech$Reel", "length", "I", false)
def tyX2 : Nat → FieldType := fun k => match k with
  | 0 => .array .int
  | 1 => .boolean
  | 2 => .int
  | _ => .int
abbrev wsX20 : List Cond := u_ws RX2 TX2 4
theorem nmX2 : ∀ a, a < 4 → ∀ b, b < 4 → a ≠ b → (TX2 a).2.1 ≠ (TX2 b).2.1 := by decide +kernel
theorem tyX2_ok : ∀ k, k < 4 → parseFieldDescriptor (TX2 k).2.2.1 = some (tyX2 k) := by decide +kernel
abbrev cX2_init : ByteArray := prog_4_method_1_code
def yX2_init : MethodName := ⟨RX2, "<init>", "()V"⟩
abbrev cX2_wind : ByteArray := prog_4_method_2_code
def yX2_wind : MethodName := ⟨RX2, "wind", "(II)V"⟩
abbrev cX2_find : ByteArray := prog_4_method_3_code
def yX2_find : MethodName := ⟨RX2, "find", "(II)I"⟩
abbrev cX2_holds : ByteArray := prog_4_method_4_code
def yX2_holds : MethodName := ⟨RX2, "holds", "(II)Z"⟩
abbrev cX2_put : ByteArray := prog_4_method_5_code
def yX2_put : MethodName := ⟨RX2, "put", "(II)I"⟩
abbrev cX2_sound : ByteArray := prog_4_method_6_code
def yX2_sound : MethodName := ⟨RX2, "sound", "(I)I"⟩
def RX3 : String := "ParrotSpeech$Sightings"
def TX3 : u_T := fun k => match k with
  | 0 => ("ParrotSpeech$Sightings", "perches", "[I", true)
  | 1 => ("ParrotSpeech$Sightings", "turns", "[I", true)
  | 2 => ("ParrotSpeech$Sightings", "words", "[I", true)
  | _ => ("ParrotSpeech$Sightings", "size", "I", false)
def tyX3 : Nat → FieldType := fun k => match k with
  | 0 => .array .int
  | 1 => .array .int
  | 2 => .array .int
  | _ => .int
abbrev wsX30 : List Cond := u_ws RX3 TX3 4
theorem nmX3 : ∀ a, a < 4 → ∀ b, b < 4 → a ≠ b → (TX3 a).2.1 ≠ (TX3 b).2.1 := by decide +kernel
theorem tyX3_ok : ∀ k, k < 4 → parseFieldDescriptor (TX3 k).2.2.1 = some (tyX3 k) := by decide +kernel
abbrev cX3_init : ByteArray := prog_5_method_1_code
def yX3_init : MethodName := ⟨RX3, "<init>", "()V"⟩
abbrev cX3_clear : ByteArray := prog_5_method_2_code
def yX3_clear : MethodName := ⟨RX3, "clear", "()V"⟩
abbrev cX3_add : ByteArray := prog_5_method_3_code
def yX3_add : MethodName := ⟨RX3, "add", "(III)V"⟩
abbrev cX3_agreeWith : ByteArray := prog_5_method_4_code
def yX3_agreeWith : MethodName := ⟨RX3, "agreeWith", "(LParrotSpeech$Speech;)Z"⟩
def RX4 : String := "ParrotSpeech$Speech"
def TX4 : u_T := fun k => match k with
  | 0 => ("ParrotSpeech$Speech", "words", "[I", true)
  | _ => ("ParrotSpeech$Speech", "count", "[I", true)
def tyX4 : Nat → FieldType := fun k => match k with
  | 0 => .array .int
  | _ => .array .int
abbrev wsX40 : List Cond := u_ws RX4 TX4 2
theorem nmX4 : ∀ a, a < 2 → ∀ b, b < 2 → a ≠ b → (TX4 a).2.1 ≠ (TX4 b).2.1 := by decide +kernel
theorem tyX4_ok : ∀ k, k < 2 → parseFieldDescriptor (TX4 k).2.2.1 = some (tyX4 k) := by decide +kernel
abbrev cX4_init : ByteArray := prog_6_method_1_code
def yX4_init : MethodName := ⟨RX4, "<init>", "()V"⟩
abbrev cX4_clear : ByteArray := prog_6_method_2_code
def yX4_clear : MethodName := ⟨RX4, "clear", "()V"⟩
abbrev cX4_add : ByteArray := prog_6_method_3_code
def yX4_add : MethodName := ⟨RX4, "add", "(II)V"⟩
abbrev cX4_wordAt : ByteArray := prog_6_method_4_code
def yX4_wordAt : MethodName := ⟨RX4, "wordAt", "(II)I"⟩
def RX5 : String := "ParrotSpeech$Text"
def TX5 : u_T := fun k => match k with
  | 0 => ("ParrotSpeech$Text", "letters", "[I", true)
  | 1 => ("ParrotSpeech$Text", "length", "I", false)
  | 2 => ("ParrotSpeech$Text", "place", "I", false)
  | _ => ("ParrotSpeech$Text", "behind", "I", false)
def tyX5 : Nat → FieldType := fun k => match k with
  | 0 => .array .int
  | 1 => .int
  | 2 => .int
  | _ => .int
abbrev wsX50 : List Cond := u_ws RX5 TX5 4
theorem nmX5 : ∀ a, a < 4 → ∀ b, b < 4 → a ≠ b → (TX5 a).2.1 ≠ (TX5 b).2.1 := by decide +kernel
theorem tyX5_ok : ∀ k, k < 4 → parseFieldDescriptor (TX5 k).2.2.1 = some (tyX5 k) := by decide +kernel
abbrev cX5_init : ByteArray := prog_7_method_1_code
def yX5_init : MethodName := ⟨RX5, "<init>", "()V"⟩
abbrev cX5_add : ByteArray := prog_7_method_2_code
def yX5_add : MethodName := ⟨RX5, "add", "(I)V"⟩
abbrev cX5_clear : ByteArray := prog_7_method_3_code
def yX5_clear : MethodName := ⟨RX5, "clear", "()V"⟩
abbrev cX5_begin : ByteArray := prog_7_method_4_code
def yX5_begin : MethodName := ⟨RX5, "begin", "()V"⟩
abbrev cX5_readToken : ByteArray := prog_7_method_5_code
def yX5_readToken : MethodName := ⟨RX5, "readToken", "()V"⟩
abbrev cX5_readLetter : ByteArray := prog_7_method_6_code
def yX5_readLetter : MethodName := ⟨RX5, "readLetter", "()V"⟩
abbrev cX5_isOver : ByteArray := prog_7_method_7_code
def yX5_isOver : MethodName := ⟨RX5, "isOver", "()Z"⟩
abbrev cX5_isSign : ByteArray := prog_7_method_8_code
def yX5_isSign : MethodName := ⟨RX5, "isSign", "(C)Z"⟩
abbrev cX5_isRow : ByteArray := prog_7_method_9_code
def yX5_isRow : MethodName := ⟨RX5, "isRow", "(Ljava/lang/String;)Z"⟩
abbrev cX5_numberBelow : ByteArray := prog_7_method_10_code
def yX5_numberBelow : MethodName := ⟨RX5, "numberBelow", "(I)I"⟩
abbrev cX5_oneWord : ByteArray := prog_7_method_11_code
def yX5_oneWord : MethodName := ⟨RX5, "oneWord", "()I"⟩
abbrev cX5_risingWords : ByteArray := prog_7_method_12_code
def yX5_risingWords : MethodName := ⟨RX5, "risingWords", "()I"⟩
abbrev cX5_wordOf : ByteArray := prog_7_method_13_code
def yX5_wordOf : MethodName := ⟨RX5, "wordOf", "(I)I"⟩
abbrev cX5_sortOf : ByteArray := prog_7_method_14_code
def yX5_sortOf : MethodName := ⟨RX5, "sortOf", "(I)I"⟩
def RX6 : String := "ParrotSpeech$Tongue"
def TX6 : u_T := fun k => match k with
  | 0 => ("ParrotSpeech$Tongue", "signs", "[I", true)
  | 1 => ("ParrotSpeech$Tongue", "closedAt", "[I", true)
  | 2 => ("ParrotSpeech$Tongue", "open", "[I", true)
  | 3 => ("ParrotSpeech$Tongue", "heard", "[I", true)
  | 4 => ("ParrotSpeech$Tongue", "heardCount", "I", false)
  | 5 => ("ParrotSpeech$Tongue", "length", "I", false)
  | _ => ("ParrotSpeech$Tongue", "words", "I", false)
def tyX6 : Nat → FieldType := fun k => match k with
  | 0 => .array .int
  | 1 => .array .int
  | 2 => .array .int
  | 3 => .array .int
  | 4 => .int
  | 5 => .int
  | _ => .int
abbrev wsX60 : List Cond := u_ws RX6 TX6 7
theorem nmX6 : ∀ a, a < 7 → ∀ b, b < 7 → a ≠ b → (TX6 a).2.1 ≠ (TX6 b).2.1 := by decide +kernel
theorem tyX6_ok : ∀ k, k < 7 → parseFieldDescriptor (TX6 k).2.2.1 = some (tyX6 k) := by decide +kernel
abbrev cX6_init : ByteArray := prog_8_method_1_code
def yX6_init : MethodName := ⟨RX6, "<init>", "()V"⟩
abbrev cX6_faultIn : ByteArray := prog_8_method_2_code
def yX6_faultIn : MethodName := ⟨RX6, "faultIn", "(LParrotSpeech$Text;)I"⟩
abbrev cX6_take : ByteArray := prog_8_method_3_code
def yX6_take : MethodName := ⟨RX6, "take", "(LParrotSpeech$Text;)V"⟩
abbrev cX6_endsIn : ByteArray := prog_8_method_4_code
def yX6_endsIn : MethodName := ⟨RX6, "endsIn", "(LParrotSpeech$Speech;I)I"⟩
abbrev cX6_sumEnds : ByteArray := prog_8_method_5_code
def yX6_sumEnds : MethodName := ⟨RX6, "sumEnds", "(IIII)I"⟩
abbrev cX6_behindPart : ByteArray := prog_8_method_6_code
def yX6_behindPart : MethodName := ⟨RX6, "behindPart", "(I)I"⟩
abbrev cX6_repeatedEnds : ByteArray := prog_8_method_7_code
def yX6_repeatedEnds : MethodName := ⟨RX6, "repeatedEnds", "(IIII)I"⟩
abbrev cX6_partEnds : ByteArray := prog_8_method_8_code
def yX6_partEnds : MethodName := ⟨RX6, "partEnds", "(IIII)I"⟩
abbrev cX6_wordEnds : ByteArray := prog_8_method_9_code
def yX6_wordEnds : MethodName := ⟨RX6, "wordEnds", "(II)I"⟩
def RX7 : String := "ParrotSpeech$World"
def TX7 : u_T := fun k => match k with
  | 0 => ("ParrotSpeech$World", "birds", "I", false)
  | 1 => ("ParrotSpeech$World", "men", "I", false)
  | 2 => ("ParrotSpeech$World", "evening", "I", false)
  | 3 => ("ParrotSpeech$World", "covered", "I", false)
  | 4 => ("ParrotSpeech$World", "kind", "[I", true)
  | 5 => ("ParrotSpeech$World", "standsOn", "[I", true)
  | 6 => ("ParrotSpeech$World", "knows", "[I", true)
  | 7 => ("ParrotSpeech$World", "has", "[I", true)
  | _ => ("ParrotSpeech$World", "beside", "[I", true)
def tyX7 : Nat → FieldType := fun k => match k with
  | 0 => .int
  | 1 => .int
  | 2 => .int
  | 3 => .int
  | 4 => .array .int
  | 5 => .array .int
  | 6 => .array .int
  | 7 => .array .int
  | _ => .array .int
abbrev wsX70 : List Cond := u_ws RX7 TX7 9
theorem nmX7 : ∀ a, a < 9 → ∀ b, b < 9 → a ≠ b → (TX7 a).2.1 ≠ (TX7 b).2.1 := by decide +kernel
theorem tyX7_ok : ∀ k, k < 9 → parseFieldDescriptor (TX7 k).2.2.1 = some (tyX7 k) := by decide +kernel
abbrev cX7_init : ByteArray := prog_9_method_1_code
def yX7_init : MethodName := ⟨RX7, "<init>", "()V"⟩
abbrev cX7_become : ByteArray := prog_9_method_2_code
def yX7_become : MethodName := ⟨RX7, "become", "(LParrotSpeech$World;)V"⟩
abbrev cX7_clear : ByteArray := prog_9_method_3_code
def yX7_clear : MethodName := ⟨RX7, "clear", "()V"⟩
abbrev cX7_addBird : ByteArray := prog_9_method_4_code
def yX7_addBird : MethodName := ⟨RX7, "addBird", "(II)V"⟩
abbrev cX7_addMan : ByteArray := prog_9_method_5_code
def yX7_addMan : MethodName := ⟨RX7, "addMan", "(I)V"⟩
abbrev cX7_isCovered : ByteArray := prog_9_method_6_code
def yX7_isCovered : MethodName := ⟨RX7, "isCovered", "(I)Z"⟩
abbrev cX7_knowledge : ByteArray := prog_9_method_7_code
def yX7_knowledge : MethodName := ⟨RX7, "knowledge", "(II)I"⟩
abbrev cX7_allKnowledge : ByteArray := prog_9_method_8_code
def yX7_allKnowledge : MethodName := ⟨RX7, "allKnowledge", "(I)I"⟩
abbrev cX7_wellKnown : ByteArray := prog_9_method_9_code
def yX7_wellKnown : MethodName := ⟨RX7, "wellKnown", "(I)I"⟩
abbrev cX7_wellKnownBySome : ByteArray := prog_9_method_10_code
def yX7_wellKnownBySome : MethodName := ⟨RX7, "wellKnownBySome", "()I"⟩
abbrev cX7_allWordsOfMen : ByteArray := prog_9_method_11_code
def yX7_allWordsOfMen : MethodName := ⟨RX7, "allWordsOfMen", "()I"⟩
abbrev cX7_manBeside : ByteArray := prog_9_method_12_code
def yX7_manBeside : MethodName := ⟨RX7, "manBeside", "(I)I"⟩
abbrev cX7_seat : ByteArray := prog_9_method_13_code
def yX7_seat : MethodName := ⟨RX7, "seat", "(II)V"⟩
abbrev cX7_learn : ByteArray := prog_9_method_14_code
def yX7_learn : MethodName := ⟨RX7, "learn", "(III)V"⟩
abbrev cX7_halve : ByteArray := prog_9_method_15_code
def yX7_halve : MethodName := ⟨RX7, "halve", "(I)V"⟩
abbrev cX7_hearable : ByteArray := prog_9_method_16_code
def yX7_hearable : MethodName := ⟨RX7, "hearable", "(I)I"⟩
abbrev cX7_passEvening : ByteArray := prog_9_method_17_code
def yX7_passEvening : MethodName := ⟨RX7, "passEvening", "(LParrotSpeech$Speech;)V"⟩
abbrev cX7_handOver : ByteArray := prog_9_method_18_code
def yX7_handOver : MethodName := ⟨RX7, "handOver", "(I)V"⟩
abbrev cX7_awakeOn : ByteArray := prog_9_method_19_code
def yX7_awakeOn : MethodName := ⟨RX7, "awakeOn", "(I)I"⟩
abbrev cX7_isSilenced : ByteArray := prog_9_method_20_code
def yX7_isSilenced : MethodName := ⟨RX7, "isSilenced", "(I)Z"⟩
abbrev cX7_speakOn : ByteArray := prog_9_method_21_code
def yX7_speakOn : MethodName := ⟨RX7, "speakOn", "(IILParrotSpeech$Speech;)V"⟩
abbrev cX7_speak : ByteArray := prog_9_method_22_code
def yX7_speak : MethodName := ⟨RX7, "speak", "(IIILParrotSpeech$Speech;)V"⟩
abbrev cX7_bestKnown : ByteArray := prog_9_method_23_code
def yX7_bestKnown : MethodName := ⟨RX7, "bestKnown", "(II)I"⟩
abbrev cX7_spread : ByteArray := prog_9_method_24_code
def yX7_spread : MethodName := ⟨RX7, "spread", "(II)V"⟩
abbrev cX7_lose : ByteArray := prog_9_method_25_code
def yX7_lose : MethodName := ⟨RX7, "lose", "(I)V"⟩
def RX8 : String := "ParrotSpeech"
def TX8 : u_T := fun k => match k with
  | 0 => ("ParrotSpeech", "text", "LParrotSpeech$Text;", true)
  | 1 => ("ParrotSpeech", "reader", "LParrotSpeech$HarbourReader;", true)
  | 2 => ("ParrotSpeech", "grammar", "LParrotSpeech$Tongue;", true)
  | 3 => ("ParrotSpeech", "told", "LParrotSpeech$World;", true)
  | 4 => ("ParrotSpeech", "now", "LParrotSpeech$World;", true)
  | 5 => ("ParrotSpeech", "trial", "LParrotSpeech$World;", true)
  | 6 => ("ParrotSpeech", "speech", "LParrotSpeech$Speech;", true)
  | 7 => ("ParrotSpeech", "history", "LParrotSpeech$History;", true)
  | 8 => ("ParrotSpeech", "sightings", "LParrotSpeech$Sightings;", true)
  | 9 => ("ParrotSpeech", "reels", "[LParrotSpeech$Reel;", true)
  | _ => ("ParrotSpeech", "keptBy", "[I", true)
def tyX8 : Nat → FieldType := fun k => match k with
  | 0 => .object "ParrotSpeech$Text"
  | 1 => .object "ParrotSpeech$HarbourReader"
  | 2 => .object "ParrotSpeech$Tongue"
  | 3 => .object "ParrotSpeech$World"
  | 4 => .object "ParrotSpeech$World"
  | 5 => .object "ParrotSpeech$World"
  | 6 => .object "ParrotSpeech$Speech"
  | 7 => .object "ParrotSpeech$History"
  | 8 => .object "ParrotSpeech$Sightings"
  | 9 => .array (.object "ParrotSpeech$Reel")
  | _ => .array .int
abbrev wsX80 : List Cond := u_ws RX8 TX8 11
theorem nmX8 : ∀ a, a < 11 → ∀ b, b < 11 → a ≠ b → (TX8 a).2.1 ≠ (TX8 b).2.1 := by decide +kernel
theorem tyX8_ok : ∀ k, k < 11 → parseFieldDescriptor (TX8 k).2.2.1 = some (tyX8 k) := by decide +kernel
abbrev cX8_init : ByteArray := prog_1_method_1_code
def yX8_init : MethodName := ⟨RX8, "<init>", "()V"⟩
abbrev cX8_write : ByteArray := prog_1_method_2_code
def yX8_write : MethodName := ⟨RX8, "write", "(I)I"⟩
abbrev cX8_erase : ByteArray := prog_1_method_3_code
def yX8_erase : MethodName := ⟨RX8, "erase", "()I"⟩
abbrev cX8_fault : ByteArray := prog_1_method_4_code
def yX8_fault : MethodName := ⟨RX8, "fault", "(I)I"⟩
abbrev cX8_harbour : ByteArray := prog_1_method_5_code
def yX8_harbour : MethodName := ⟨RX8, "harbour", "()I"⟩
abbrev cX8_tongue : ByteArray := prog_1_method_6_code
def yX8_tongue : MethodName := ⟨RX8, "tongue", "()I"⟩
abbrev cX8_bird : ByteArray := prog_1_method_7_code
def yX8_bird : MethodName := ⟨RX8, "bird", "(II)I"⟩
abbrev cX8_man : ByteArray := prog_1_method_8_code
def yX8_man : MethodName := ⟨RX8, "man", "(II)I"⟩
abbrev cX8_known : ByteArray := prog_1_method_9_code
def yX8_known : MethodName := ⟨RX8, "known", "(III)I"⟩
abbrev cX8_as : ByteArray := prog_1_method_10_code
def yX8_as : MethodName := ⟨RX8, "as", "(II)I"⟩
abbrev cX8_evening : ByteArray := prog_1_method_11_code
def yX8_evening : MethodName := ⟨RX8, "evening", "(I)I"⟩
abbrev cX8_teach : ByteArray := prog_1_method_12_code
def yX8_teach : MethodName := ⟨RX8, "teach", "(II)I"⟩
abbrev cX8_moult : ByteArray := prog_1_method_13_code
def yX8_moult : MethodName := ⟨RX8, "moult", "(I)I"⟩
abbrev cX8_perch : ByteArray := prog_1_method_14_code
def yX8_perch : MethodName := ⟨RX8, "perch", "(II)I"⟩
abbrev cX8_cover : ByteArray := prog_1_method_15_code
def yX8_cover : MethodName := ⟨RX8, "cover", "(I)I"⟩
abbrev cX8_sit : ByteArray := prog_1_method_16_code
def yX8_sit : MethodName := ⟨RX8, "sit", "(II)I"⟩
abbrev cX8_undo : ByteArray := prog_1_method_17_code
def yX8_undo : MethodName := ⟨RX8, "undo", "()I"⟩
abbrev cX8_keep : ByteArray := prog_1_method_18_code
def yX8_keep : MethodName := ⟨RX8, "keep", "(I)I"⟩
abbrev cX8_back : ByteArray := prog_1_method_19_code
def yX8_back : MethodName := ⟨RX8, "back", "(I)I"⟩
abbrev cX8_said : ByteArray := prog_1_method_20_code
def yX8_said : MethodName := ⟨RX8, "said", "(II)I"⟩
abbrev cX8_when : ByteArray := prog_1_method_21_code
def yX8_when : MethodName := ⟨RX8, "when", "(III)I"⟩
abbrev cX8_keeps : ByteArray := prog_1_method_22_code
def yX8_keeps : MethodName := ⟨RX8, "keeps", "(III)I"⟩
abbrev cX8_match : ByteArray := prog_1_method_23_code
def yX8_match : MethodName := ⟨RX8, "match", "(II)I"⟩
abbrev cX8_clean : ByteArray := prog_1_method_24_code
def yX8_clean : MethodName := ⟨RX8, "clean", "(III)I"⟩
abbrev cX8_of : ByteArray := prog_1_method_25_code
def yX8_of : MethodName := ⟨RX8, "of", "(II)I"⟩
abbrev cX8_left : ByteArray := prog_1_method_26_code
def yX8_left : MethodName := ⟨RX8, "left", "(III)I"⟩
abbrev cX8_seen : ByteArray := prog_1_method_27_code
def yX8_seen : MethodName := ⟨RX8, "seen", "(III)I"⟩
abbrev cX8_forget : ByteArray := prog_1_method_28_code
def yX8_forget : MethodName := ⟨RX8, "forget", "()I"⟩
abbrev cX8_kinds : ByteArray := prog_1_method_29_code
def yX8_kinds : MethodName := ⟨RX8, "kinds", "(I)I"⟩
abbrev cX8_reel : ByteArray := prog_1_method_30_code
def yX8_reel : MethodName := ⟨RX8, "reel", "(III)I"⟩
abbrev cX8_record : ByteArray := prog_1_method_31_code
def yX8_record : MethodName := ⟨RX8, "record", "(IIII)I"⟩
abbrev cX8_play : ByteArray := prog_1_method_32_code
def yX8_play : MethodName := ⟨RX8, "play", "(III)I"⟩
abbrev cX8_splice : ByteArray := prog_1_method_33_code
def yX8_splice : MethodName := ⟨RX8, "splice", "(IIIII)I"⟩
abbrev cX8_drop : ByteArray := prog_1_method_34_code
def yX8_drop : MethodName := ⟨RX8, "drop", "(I)I"⟩
abbrev cX8_count : ByteArray := prog_1_method_35_code
def yX8_count : MethodName := ⟨RX8, "count", "(I)I"⟩
abbrev cX8_isNot : ByteArray := prog_1_method_36_code
def yX8_isNot : MethodName := ⟨RX8, "isNot", "(III)Z"⟩
abbrev cX8_noBird : ByteArray := prog_1_method_37_code
def yX8_noBird : MethodName := ⟨RX8, "noBird", "(I)Z"⟩
abbrev cX8_noMan : ByteArray := prog_1_method_38_code
def yX8_noMan : MethodName := ⟨RX8, "noMan", "(I)Z"⟩
abbrev cX8_noWord : ByteArray := prog_1_method_39_code
def yX8_noWord : MethodName := ⟨RX8, "noWord", "(I)Z"⟩
abbrev cX8_noPerch : ByteArray := prog_1_method_40_code
def yX8_noPerch : MethodName := ⟨RX8, "noPerch", "(I)Z"⟩
abbrev cX8_noReel : ByteArray := prog_1_method_41_code
def yX8_noReel : MethodName := ⟨RX8, "noReel", "(I)Z"⟩
abbrev cX8_noSort : ByteArray := prog_1_method_42_code
def yX8_noSort : MethodName := ⟨RX8, "noSort", "(I)Z"⟩
abbrev cX8_foretellSpeech : ByteArray := prog_1_method_43_code
def yX8_foretellSpeech : MethodName := ⟨RX8, "foretellSpeech", "()V"⟩
abbrev cX8_keptWords : ByteArray := prog_1_method_44_code
def yX8_keptWords : MethodName := ⟨RX8, "keptWords", "(III)I"⟩
abbrev cX8_mostKept : ByteArray := prog_1_method_45_code
def yX8_mostKept : MethodName := ⟨RX8, "mostKept", "(II)I"⟩
abbrev cX8_matchOf : ByteArray := prog_1_method_46_code
def yX8_matchOf : MethodName := ⟨RX8, "matchOf", "(I)I"⟩
abbrev cX8_leastChoice : ByteArray := prog_1_method_47_code
def yX8_leastChoice : MethodName := ⟨RX8, "leastChoice", "(II)I"⟩
abbrev cX8_staysClean : ByteArray := prog_1_method_48_code
def yX8_staysClean : MethodName := ⟨RX8, "staysClean", "(IIII)Z"⟩
abbrev cX8_commonDivisor : ByteArray := prog_1_method_49_code
def yX8_commonDivisor : MethodName := ⟨RX8, "commonDivisor", "(II)I"⟩
abbrev cX8_reelsThere : ByteArray := prog_1_method_50_code
def yX8_reelsThere : MethodName := ⟨RX8, "reelsThere", "()I"⟩
def RX9 : String := "ParrotSpeechModel"
def TX9 : u_T := fun k => match k with
  | 0 => ("ParrotSpeechModel", "row", "[I", true)
  | 1 => ("ParrotSpeechModel", "undos", "I", false)
  | 2 => ("ParrotSpeechModel", "isKept", "[Z", true)
  | 3 => ("ParrotSpeechModel", "text", "[I", true)
  | 4 => ("ParrotSpeechModel", "length", "I", false)
  | 5 => ("ParrotSpeechModel", "seenMany", "I", false)
  | 6 => ("ParrotSpeechModel", "seenPerch", "[I", true)
  | 7 => ("ParrotSpeechModel", "seenPlace", "[I", true)
  | 8 => ("ParrotSpeechModel", "seenWord", "[I", true)
  | 9 => ("ParrotSpeechModel", "tongueSize", "I", false)
  | 10 => ("ParrotSpeechModel", "letters", "[I", true)
  | 11 => ("ParrotSpeechModel", "ends", "[I", true)
  | 12 => ("ParrotSpeechModel", "begins", "[I", true)
  | 13 => ("ParrotSpeechModel", "sizes", "[I", true)
  | 14 => ("ParrotSpeechModel", "sorts", "[I", true)
  | 15 => ("ParrotSpeechModel", "places", "[I", true)
  | 16 => ("ParrotSpeechModel", "first", "I", false)
  | 17 => ("ParrotSpeechModel", "behind", "I", false)
  | 18 => ("ParrotSpeechModel", "readBirds", "I", false)
  | 19 => ("ParrotSpeechModel", "readMen", "I", false)
  | 20 => ("ParrotSpeechModel", "readBy", "[I", true)
  | 21 => ("ParrotSpeechModel", "clauses", "I", false)
  | 22 => ("ParrotSpeechModel", "doing", "Z", false)
  | 23 => ("ParrotSpeechModel", "harbourWord", "[I", true)
  | 24 => ("ParrotSpeechModel", "parrotWord", "[I", true)
  | 25 => ("ParrotSpeechModel", "greyWord", "[I", true)
  | 26 => ("ParrotSpeechModel", "cockatooWord", "[I", true)
  | 27 => ("ParrotSpeechModel", "hawkWord", "[I", true)
  | 28 => ("ParrotSpeechModel", "greenWord", "[I", true)
  | 29 => ("ParrotSpeechModel", "manWord", "[I", true)
  | 30 => ("ParrotSpeechModel", "knowsWord", "[I", true)
  | 31 => ("ParrotSpeechModel", "sitsWord", "[I", true)
  | 32 => ("ParrotSpeechModel", "coverWord", "[I", true)
  | 33 => ("ParrotSpeechModel", "open", "[I", true)
  | 34 => ("ParrotSpeechModel", "isNow", "[Z", true)
  | 35 => ("ParrotSpeechModel", "isThen", "[Z", true)
  | 36 => ("ParrotSpeechModel", "saidWords", "[I", true)
  | 37 => ("ParrotSpeechModel", "saidMany", "[I", true)
  | 38 => ("ParrotSpeechModel", "keepsBy", "[I", true)
  | 39 => ("ParrotSpeechModel", "line", "[I", true)
  | 40 => ("ParrotSpeechModel", "bestLine", "[I", true)
  | _ => ("ParrotSpeechModel", "moved", "[I", true)
def tyX9 : Nat → FieldType := fun k => match k with
  | 0 => .array .int
  | 1 => .int
  | 2 => .array .boolean
  | 3 => .array .int
  | 4 => .int
  | 5 => .int
  | 6 => .array .int
  | 7 => .array .int
  | 8 => .array .int
  | 9 => .int
  | 10 => .array .int
  | 11 => .array .int
  | 12 => .array .int
  | 13 => .array .int
  | 14 => .array .int
  | 15 => .array .int
  | 16 => .int
  | 17 => .int
  | 18 => .int
  | 19 => .int
  | 20 => .array .int
  | 21 => .int
  | 22 => .boolean
  | 23 => .array .int
  | 24 => .array .int
  | 25 => .array .int
  | 26 => .array .int
  | 27 => .array .int
  | 28 => .array .int
  | 29 => .array .int
  | 30 => .array .int
  | 31 => .array .int
  | 32 => .array .int
  | 33 => .array .int
  | 34 => .array .boolean
  | 35 => .array .boolean
  | 36 => .array .int
  | 37 => .array .int
  | 38 => .array .int
  | 39 => .array .int
  | 40 => .array .int
  | _ => .array .int
abbrev wsX90 : List Cond := u_ws RX9 TX9 42
theorem nmX9 : ∀ a, a < 42 → ∀ b, b < 42 → a ≠ b → (TX9 a).2.1 ≠ (TX9 b).2.1 := by decide +kernel
theorem tyX9_ok : ∀ k, k < 42 → parseFieldDescriptor (TX9 k).2.2.1 = some (tyX9 k) := by decide +kernel
abbrev cX9_init : ByteArray := prog_11_method_1_code
def yX9_init : MethodName := ⟨RX9, "<init>", "()V"⟩
abbrev cX9_in : ByteArray := prog_11_method_2_code
def yX9_in : MethodName := ⟨RX9, "in", "(JJJ)Z"⟩
abbrev cX9_has : ByteArray := prog_11_method_3_code
def yX9_has : MethodName := ⟨RX9, "has", "(II)Z"⟩
abbrev cX9_bits : ByteArray := prog_11_method_4_code
def yX9_bits : MethodName := ⟨RX9, "bits", "(I)I"⟩
abbrev cX9_write : ByteArray := prog_11_method_5_code
def yX9_write : MethodName := ⟨RX9, "write", "(I)I"⟩
abbrev cX9_erase : ByteArray := prog_11_method_6_code
def yX9_erase : MethodName := ⟨RX9, "erase", "()I"⟩
abbrev cX9_isLetter : ByteArray := prog_11_method_7_code
def yX9_isLetter : MethodName := ⟨RX9, "isLetter", "(I)Z"⟩
abbrev cX9_isDigit : ByteArray := prog_11_method_8_code
def yX9_isDigit : MethodName := ⟨RX9, "isDigit", "(I)Z"⟩
abbrev cX9_nextToken : ByteArray := prog_11_method_9_code
def yX9_nextToken : MethodName := ⟨RX9, "nextToken", "()V"⟩
abbrev cX9_isWord : ByteArray := prog_11_method_10_code
def yX9_isWord : MethodName := ⟨RX9, "isWord", "([I)Z"⟩
abbrev cX9_numberHere : ByteArray := prog_11_method_11_code
def yX9_numberHere : MethodName := ⟨RX9, "numberHere", "(I)I"⟩
abbrev cX9_number : ByteArray := prog_11_method_12_code
def yX9_number : MethodName := ⟨RX9, "number", "(I)I"⟩
abbrev cX9_words : ByteArray := prog_11_method_13_code
def yX9_words : MethodName := ⟨RX9, "words", "(I)I"⟩
abbrev cX9_kindHere : ByteArray := prog_11_method_14_code
def yX9_kindHere : MethodName := ⟨RX9, "kindHere", "()I"⟩
abbrev cX9_readsBird : ByteArray := prog_11_method_15_code
def yX9_readsBird : MethodName := ⟨RX9, "readsBird", "(I)Z"⟩
abbrev cX9_readsMan : ByteArray := prog_11_method_16_code
def yX9_readsMan : MethodName := ⟨RX9, "readsMan", "()Z"⟩
abbrev cX9_readsKnows : ByteArray := prog_11_method_17_code
def yX9_readsKnows : MethodName := ⟨RX9, "readsKnows", "()Z"⟩
abbrev cX9_readsSits : ByteArray := prog_11_method_18_code
def yX9_readsSits : MethodName := ⟨RX9, "readsSits", "()Z"⟩
abbrev cX9_readsCover : ByteArray := prog_11_method_19_code
def yX9_readsCover : MethodName := ⟨RX9, "readsCover", "()Z"⟩
abbrev cX9_readsHarbour : ByteArray := prog_11_method_20_code
def yX9_readsHarbour : MethodName := ⟨RX9, "readsHarbour", "()Z"⟩
abbrev cX9_readsClause : ByteArray := prog_11_method_21_code
def yX9_readsClause : MethodName := ⟨RX9, "readsClause", "()Z"⟩
abbrev cX9_reads : ByteArray := prog_11_method_22_code
def yX9_reads : MethodName := ⟨RX9, "reads", "(Z)Z"⟩
abbrev cX9_copyHarbour : ByteArray := prog_11_method_23_code
def yX9_copyHarbour : MethodName := ⟨RX9, "copyHarbour", "(II)V"⟩
abbrev cX9_harbour : ByteArray := prog_11_method_24_code
def yX9_harbour : MethodName := ⟨RX9, "harbour", "()I"⟩
abbrev cX9_tongueFault : ByteArray := prog_11_method_25_code
def yX9_tongueFault : MethodName := ⟨RX9, "tongueFault", "()I"⟩
abbrev cX9_fault : ByteArray := prog_11_method_26_code
def yX9_fault : MethodName := ⟨RX9, "fault", "(I)I"⟩
abbrev cX9_layTongue : ByteArray := prog_11_method_27_code
def yX9_layTongue : MethodName := ⟨RX9, "layTongue", "()V"⟩
abbrev cX9_tongue : ByteArray := prog_11_method_28_code
def yX9_tongue : MethodName := ⟨RX9, "tongue", "()I"⟩
abbrev cX9_mark : ByteArray := prog_11_method_29_code
def yX9_mark : MethodName := ⟨RX9, "mark", "(I)Z"⟩
abbrev cX9_goesOn : ByteArray := prog_11_method_30_code
def yX9_goesOn : MethodName := ⟨RX9, "goesOn", "(I)Z"⟩
abbrev cX9_goOnAll : ByteArray := prog_11_method_31_code
def yX9_goOnAll : MethodName := ⟨RX9, "goOnAll", "()V"⟩
abbrev cX9_hearWord : ByteArray := prog_11_method_32_code
def yX9_hearWord : MethodName := ⟨RX9, "hearWord", "(I)V"⟩
abbrev cX9_hears : ByteArray := prog_11_method_33_code
def yX9_hears : MethodName := ⟨RX9, "hears", "(I)I"⟩
abbrev cX9_gets : ByteArray := prog_11_method_34_code
def yX9_gets : MethodName := ⟨RX9, "gets", "(I)I"⟩
abbrev cX9_says : ByteArray := prog_11_method_35_code
def yX9_says : MethodName := ⟨RX9, "says", "(I)I"⟩
abbrev cX9_loses : ByteArray := prog_11_method_36_code
def yX9_loses : MethodName := ⟨RX9, "loses", "(I)I"⟩
abbrev cX9_isBird : ByteArray := prog_11_method_37_code
def yX9_isBird : MethodName := ⟨RX9, "isBird", "(I)Z"⟩
abbrev cX9_isMan : ByteArray := prog_11_method_38_code
def yX9_isMan : MethodName := ⟨RX9, "isMan", "(I)Z"⟩
abbrev cX9_isWordNumber : ByteArray := prog_11_method_39_code
def yX9_isWordNumber : MethodName := ⟨RX9, "isWordNumber", "(I)Z"⟩
abbrev cX9_isOpen : ByteArray := prog_11_method_40_code
def yX9_isOpen : MethodName := ⟨RX9, "isOpen", "(II)Z"⟩
abbrev cX9_learns : ByteArray := prog_11_method_41_code
def yX9_learns : MethodName := ⟨RX9, "learns", "(IIII)V"⟩
abbrev cX9_manOf : ByteArray := prog_11_method_42_code
def yX9_manOf : MethodName := ⟨RX9, "manOf", "(II)I"⟩
abbrev cX9_wellKnown : ByteArray := prog_11_method_43_code
def yX9_wellKnown : MethodName := ⟨RX9, "wellKnown", "(II)I"⟩
abbrev cX9_bird : ByteArray := prog_11_method_44_code
def yX9_bird : MethodName := ⟨RX9, "bird", "(II)I"⟩
abbrev cX9_man : ByteArray := prog_11_method_45_code
def yX9_man : MethodName := ⟨RX9, "man", "(II)I"⟩
abbrev cX9_as : ByteArray := prog_11_method_46_code
def yX9_as : MethodName := ⟨RX9, "as", "(II)I"⟩
abbrev cX9_handOver : ByteArray := prog_11_method_47_code
def yX9_handOver : MethodName := ⟨RX9, "handOver", "(I)V"⟩
abbrev cX9_isSilent : ByteArray := prog_11_method_48_code
def yX9_isSilent : MethodName := ⟨RX9, "isSilent", "(II)Z"⟩
abbrev cX9_bestWord : ByteArray := prog_11_method_49_code
def yX9_bestWord : MethodName := ⟨RX9, "bestWord", "(III)I"⟩
abbrev cX9_say : ByteArray := prog_11_method_50_code
def yX9_say : MethodName := ⟨RX9, "say", "(IIII)V"⟩
abbrev cX9_speak : ByteArray := prog_11_method_51_code
def yX9_speak : MethodName := ⟨RX9, "speak", "(II)V"⟩
abbrev cX9_lose : ByteArray := prog_11_method_52_code
def yX9_lose : MethodName := ⟨RX9, "lose", "(I)V"⟩
abbrev cX9_passes : ByteArray := prog_11_method_53_code
def yX9_passes : MethodName := ⟨RX9, "passes", "(I)V"⟩
abbrev cX9_layTried : ByteArray := prog_11_method_54_code
def yX9_layTried : MethodName := ⟨RX9, "layTried", "()V"⟩
abbrev cX9_passTried : ByteArray := prog_11_method_55_code
def yX9_passTried : MethodName := ⟨RX9, "passTried", "(I)V"⟩
abbrev cX9_known : ByteArray := prog_11_method_56_code
def yX9_known : MethodName := ⟨RX9, "known", "(III)I"⟩
abbrev cX9_keepPast : ByteArray := prog_11_method_57_code
def yX9_keepPast : MethodName := ⟨RX9, "keepPast", "()V"⟩
abbrev cX9_evening : ByteArray := prog_11_method_58_code
def yX9_evening : MethodName := ⟨RX9, "evening", "(I)I"⟩
abbrev cX9_teach : ByteArray := prog_11_method_59_code
def yX9_teach : MethodName := ⟨RX9, "teach", "(II)I"⟩
abbrev cX9_moult : ByteArray := prog_11_method_60_code
def yX9_moult : MethodName := ⟨RX9, "moult", "(I)I"⟩
abbrev cX9_perch : ByteArray := prog_11_method_61_code
def yX9_perch : MethodName := ⟨RX9, "perch", "(II)I"⟩
abbrev cX9_cover : ByteArray := prog_11_method_62_code
def yX9_cover : MethodName := ⟨RX9, "cover", "(I)I"⟩
abbrev cX9_sets : ByteArray := prog_11_method_63_code
def yX9_sets : MethodName := ⟨RX9, "sets", "(III)V"⟩
abbrev cX9_sit : ByteArray := prog_11_method_64_code
def yX9_sit : MethodName := ⟨RX9, "sit", "(II)I"⟩
abbrev cX9_undo : ByteArray := prog_11_method_65_code
def yX9_undo : MethodName := ⟨RX9, "undo", "()I"⟩
abbrev cX9_keep : ByteArray := prog_11_method_66_code
def yX9_keep : MethodName := ⟨RX9, "keep", "(I)I"⟩
abbrev cX9_back : ByteArray := prog_11_method_67_code
def yX9_back : MethodName := ⟨RX9, "back", "(I)I"⟩
abbrev cX9_saidAt : ByteArray := prog_11_method_68_code
def yX9_saidAt : MethodName := ⟨RX9, "saidAt", "(II)I"⟩
abbrev cX9_said : ByteArray := prog_11_method_69_code
def yX9_said : MethodName := ⟨RX9, "said", "(II)I"⟩
abbrev cX9_when : ByteArray := prog_11_method_70_code
def yX9_when : MethodName := ⟨RX9, "when", "(III)I"⟩
abbrev cX9_keptBy : ByteArray := prog_11_method_71_code
def yX9_keptBy : MethodName := ⟨RX9, "keptBy", "(III)I"⟩
abbrev cX9_keeps : ByteArray := prog_11_method_72_code
def yX9_keeps : MethodName := ⟨RX9, "keeps", "(III)I"⟩
abbrev cX9_keptByLine : ByteArray := prog_11_method_73_code
def yX9_keptByLine : MethodName := ⟨RX9, "keptByLine", "()I"⟩
abbrev cX9_nextLine : ByteArray := prog_11_method_74_code
def yX9_nextLine : MethodName := ⟨RX9, "nextLine", "()Z"⟩
abbrev cX9_match : ByteArray := prog_11_method_75_code
def yX9_match : MethodName := ⟨RX9, "match", "(II)I"⟩
abbrev cX9_clean : ByteArray := prog_11_method_76_code
def yX9_clean : MethodName := ⟨RX9, "clean", "(III)I"⟩
abbrev cX9_of : ByteArray := prog_11_method_77_code
def yX9_of : MethodName := ⟨RX9, "of", "(II)I"⟩
abbrev cX9_left : ByteArray := prog_11_method_78_code
def yX9_left : MethodName := ⟨RX9, "left", "(III)I"⟩
abbrev cX9_seen : ByteArray := prog_11_method_79_code
def yX9_seen : MethodName := ⟨RX9, "seen", "(III)I"⟩
abbrev cX9_forget : ByteArray := prog_11_method_80_code
def yX9_forget : MethodName := ⟨RX9, "forget", "()I"⟩
abbrev cX9_kinds : ByteArray := prog_11_method_81_code
def yX9_kinds : MethodName := ⟨RX9, "kinds", "(I)I"⟩
abbrev cX9_isReel : ByteArray := prog_11_method_82_code
def yX9_isReel : MethodName := ⟨RX9, "isReel", "(I)Z"⟩
abbrev cX9_reel : ByteArray := prog_11_method_83_code
def yX9_reel : MethodName := ⟨RX9, "reel", "(III)I"⟩
abbrev cX9_noPlace : ByteArray := prog_11_method_84_code
def yX9_noPlace : MethodName := ⟨RX9, "noPlace", "(III)I"⟩
abbrev cX9_record : ByteArray := prog_11_method_85_code
def yX9_record : MethodName := ⟨RX9, "record", "(IIII)I"⟩
abbrev cX9_play : ByteArray := prog_11_method_86_code
def yX9_play : MethodName := ⟨RX9, "play", "(III)I"⟩
abbrev cX9_isSpan : ByteArray := prog_11_method_87_code
def yX9_isSpan : MethodName := ⟨RX9, "isSpan", "(III)Z"⟩
abbrev cX9_splice : ByteArray := prog_11_method_88_code
def yX9_splice : MethodName := ⟨RX9, "splice", "(IIIII)I"⟩
abbrev cX9_drop : ByteArray := prog_11_method_89_code
def yX9_drop : MethodName := ⟨RX9, "drop", "(I)I"⟩
abbrev cX9_menWords : ByteArray := prog_11_method_90_code
def yX9_menWords : MethodName := ⟨RX9, "menWords", "()I"⟩
abbrev cX9_allWellKnown : ByteArray := prog_11_method_91_code
def yX9_allWellKnown : MethodName := ⟨RX9, "allWellKnown", "()I"⟩
abbrev cX9_reelsThere : ByteArray := prog_11_method_92_code
def yX9_reelsThere : MethodName := ⟨RX9, "reelsThere", "()I"⟩
abbrev cX9_count : ByteArray := prog_11_method_93_code
def yX9_count : MethodName := ⟨RX9, "count", "(I)I"⟩
def RJ6 : String := "java/lang/Integer"
def TJ6 : u_T := fun k => match k with
  | _ => ("", "", "", false)
def tyJ6 : Nat → FieldType := fun k => match k with
  | _ => .int
abbrev wsJ60 : List Cond := u_ws RJ6 TJ6 0
theorem nmJ6 : ∀ a, a < 0 → ∀ b, b < 0 → a ≠ b → (TJ6 a).2.1 ≠ (TJ6 b).2.1 := by decide +kernel
theorem tyJ6_ok : ∀ k, k < 0 → parseFieldDescriptor (TJ6 k).2.2.1 = some (tyJ6 k) := by decide +kernel
abbrev cJ6_numberOfTrailingZeros_0f7a4 : ByteArray := prog_12_method_48_code
def yJ6_numberOfTrailingZeros_0f7a4 : MethodName := ⟨RJ6, "numberOfTrailingZeros", "(I)I"⟩
abbrev cJ6_bitCount_0f7a4 : ByteArray := prog_12_method_49_code
def yJ6_bitCount_0f7a4 : MethodName := ⟨RJ6, "bitCount", "(I)I"⟩
def RJ9 : String := "java/lang/Math"
def TJ9 : u_T := fun k => match k with
  | _ => ("", "", "", false)
def tyJ9 : Nat → FieldType := fun k => match k with
  | _ => .int
abbrev wsJ90 : List Cond := u_ws RJ9 TJ9 0
theorem nmJ9 : ∀ a, a < 0 → ∀ b, b < 0 → a ≠ b → (TJ9 a).2.1 ≠ (TJ9 b).2.1 := by decide +kernel
theorem tyJ9_ok : ∀ k, k < 0 → parseFieldDescriptor (TJ9 k).2.2.1 = some (tyJ9 k) := by decide +kernel
abbrev cJ9_max_7cf53 : ByteArray := prog_13_method_65_code
def yJ9_max_7cf53 : MethodName := ⟨RJ9, "max", "(II)I"⟩
abbrev cJ9_min_7cf53 : ByteArray := prog_13_method_69_code
def yJ9_min_7cf53 : MethodName := ⟨RJ9, "min", "(II)I"⟩
def RJ0 : String := "java/lang/String"
def TJ0 : u_T := fun k => match k with
  | _ => ("", "", "", false)
def tyJ0 : Nat → FieldType := fun k => match k with
  | _ => .int
abbrev wsJ00 : List Cond := u_ws RJ0 TJ0 0
theorem nmJ0 : ∀ a, a < 0 → ∀ b, b < 0 → a ≠ b → (TJ0 a).2.1 ≠ (TJ0 b).2.1 := by decide +kernel
theorem tyJ0_ok : ∀ k, k < 0 → parseFieldDescriptor (TJ0 k).2.2.1 = some (tyJ0 k) := by decide +kernel
abbrev cJ0_length_8abf5 : ByteArray := prog_14_method_54_code
def yJ0_length_8abf5 : MethodName := ⟨RJ0, "length", "()I"⟩
abbrev cJ0_charAt_5068e : ByteArray := prog_14_method_56_code
def yJ0_charAt_5068e : MethodName := ⟨RJ0, "charAt", "(I)C"⟩
abbrev cJ0_coder_7d493 : ByteArray := prog_14_method_152_code
def yJ0_coder_7d493 : MethodName := ⟨RJ0, "coder", "()B"⟩
abbrev cJ0_isLatin1_aae02 : ByteArray := prog_14_method_154_code
def yJ0_isLatin1_aae02 : MethodName := ⟨RJ0, "isLatin1", "()Z"⟩
abbrev cJ0_checkIndex_df160 : ByteArray := prog_14_method_155_code
def yJ0_checkIndex_df160 : MethodName := ⟨RJ0, "checkIndex", "(II)V"⟩
def RJ1 : String := "java/lang/StringLatin1"
def TJ1 : u_T := fun k => match k with
  | _ => ("", "", "", false)
def tyJ1 : Nat → FieldType := fun k => match k with
  | _ => .int
abbrev wsJ10 : List Cond := u_ws RJ1 TJ1 0
theorem nmJ1 : ∀ a, a < 0 → ∀ b, b < 0 → a ≠ b → (TJ1 a).2.1 ≠ (TJ1 b).2.1 := by decide +kernel
theorem tyJ1_ok : ∀ k, k < 0 → parseFieldDescriptor (TJ1 k).2.2.1 = some (tyJ1 k) := by decide +kernel
abbrev cJ1_charAt_3b067 : ByteArray := prog_15_method_2_code
def yJ1_charAt_3b067 : MethodName := ⟨RJ1, "charAt", "([BI)C"⟩
def RJ2 : String := "java/lang/StringUTF16"
def TJ2 : u_T := fun k => match k with
  | _ => ("", "", "", false)
def tyJ2 : Nat → FieldType := fun k => match k with
  | _ => .int
abbrev wsJ20 : List Cond := u_ws RJ2 TJ2 0
theorem nmJ2 : ∀ a, a < 0 → ∀ b, b < 0 → a ≠ b → (TJ2 a).2.1 ≠ (TJ2 b).2.1 := by decide +kernel
theorem tyJ2_ok : ∀ k, k < 0 → parseFieldDescriptor (TJ2 k).2.2.1 = some (tyJ2 k) := by decide +kernel
abbrev cJ2_getChar_3b067 : ByteArray := prog_16_method_5_code
def yJ2_getChar_3b067 : MethodName := ⟨RJ2, "getChar", "([BI)C"⟩
abbrev cJ2_length_9d52b : ByteArray := prog_16_method_6_code
def yJ2_length_9d52b : MethodName := ⟨RJ2, "length", "([B)I"⟩
abbrev cJ2_charAt_3b067 : ByteArray := prog_16_method_83_code
def yJ2_charAt_3b067 : MethodName := ⟨RJ2, "charAt", "([BI)C"⟩
abbrev cJ2_checkIndex_2214a : ByteArray := prog_16_method_91_code
def yJ2_checkIndex_2214a : MethodName := ⟨RJ2, "checkIndex", "(I[B)V"⟩
def RJ10 : String := "java/lang/System"
def TJ10 : u_T := fun k => match k with
  | _ => ("", "", "", false)
def tyJ10 : Nat → FieldType := fun k => match k with
  | _ => .int
abbrev wsJ100 : List Cond := u_ws RJ10 TJ10 0
theorem nmJ10 : ∀ a, a < 0 → ∀ b, b < 0 → a ≠ b → (TJ10 a).2.1 ≠ (TJ10 b).2.1 := by decide +kernel
theorem tyJ10_ok : ∀ k, k < 0 → parseFieldDescriptor (TJ10 k).2.2.1 = some (tyJ10 k) := by decide +kernel
def RJ3 : String := "jdk/internal/util/Preconditions"
def TJ3 : u_T := fun k => match k with
  | _ => ("", "", "", false)
def tyJ3 : Nat → FieldType := fun k => match k with
  | _ => .int
abbrev wsJ30 : List Cond := u_ws RJ3 TJ3 0
theorem nmJ3 : ∀ a, a < 0 → ∀ b, b < 0 → a ≠ b → (TJ3 a).2.1 ≠ (TJ3 b).2.1 := by decide +kernel
theorem tyJ3_ok : ∀ k, k < 0 → parseFieldDescriptor (TJ3 k).2.2.1 = some (tyJ3 k) := by decide +kernel
abbrev cJ3_checkIndex_8e157 : ByteArray := prog_18_method_11_code
def yJ3_checkIndex_8e157 : MethodName := ⟨RJ3, "checkIndex", "(IILjava/util/function/BiFunction;)I"⟩
def RL : String := "ParrotSpeechLaw"
abbrev cL_law : ByteArray := code
abbrev vwCl : List vw_C := [(RX0, TX0, 3), (RX1, TX1, 5), (RX2, TX2, 4), (RX3, TX3, 4), (RX4, TX4, 2), (RX5, TX5, 4), (RX6, TX6, 7), (RX7, TX7, 9), (RX8, TX8, 11), (RX9, TX9, 42)]
end
section
/-! ===== the layout: cells by number, in the order in which the two constructors make them; method heads ===== -/
abbrev xV : Type := Int32 ⊕ (Int64 ⊕ (Nat × Nat × Nat))
abbrev xI (x : Int32) : xV := .inl x
abbrev xL (x : Int64) : xV := .inr (.inl x)
abbrev xR (s k i : Nat) : xV := .inr (.inr (s, k, i))
abbrev xM : Type := Nat → Nat → Int32
abbrev xRow : Type := Nat × Instr × Nat × Nat × Nat
abbrev xHd : Type := MethodName × ByteArray × Nat × Option FieldType
def xkd : List (Nat × Nat) := [(0, 8), (0, 5), (1, 200), (0, 0), (0, 7), (1, 8), (1, 8), (1, 80), (1, 4), (1, 4), (0, 6), (1, 200), (1, 200), (1, 6), (1, 16), (0, 7), (1, 8), (1, 8), (1, 80), (1, 4), (1, 4), (0, 7), (1, 8), (1, 8), (1, 80), (1, 4), (1, 4), (0, 7), (1, 8), (1, 8), (1, 80), (1, 4), (1, 4), (0, 4), (1, 64), (1, 4), (0, 1), (3, 8), (3, 2), (0, 7), (1, 8), (1, 8), (1, 80), (1, 4), (1, 4), (0, 7), (1, 8), (1, 8), (1, 80), (1, 4), (1, 4), (0, 7), (1, 8), (1, 8), (1, 80), (1, 4), (1, 4), (0, 7), (1, 8), (1, 8), (1, 80), (1, 4), (1, 4), (0, 7), (1, 8), (1, 8), (1, 80), (1, 4), (1, 4), (0, 7), (1, 8), (1, 8), (1, 80), (1, 4), (1, 4), (0, 7), (1, 8), (1, 8), (1, 80), (1, 4), (1, 4), (0, 7), (1, 8), (1, 8), (1, 80), (1, 4), (1, 4), (0, 7), (1, 8), (1, 8), (1, 80), (1, 4), (1, 4), (0, 7), (1, 8), (1, 8), (1, 80), (1, 4), (1, 4), (0, 3), (1, 6), (1, 6), (1, 6), (6, 3), (0, 2), (1, 12), (0, 2), (1, 12), (0, 2), (1, 12), (1, 32), (0, 9), (1, 1404), (2, 2), (1, 200), (1, 6), (1, 6), (1, 6), (1, 202), (1, 202), (1, 202), (1, 3), (1, 3), (1, 36), (1, 4), (1, 7), (1, 6), (1, 4), (1, 8), (1, 4), (1, 5), (1, 3), (1, 5), (1, 4), (1, 5), (1, 8), (2, 203), (2, 203), (1, 64), (1, 4), (1, 32), (1, 4), (1, 4), (1, 12)]
def xfr : List (List (Option (Nat × Nat × Nat × Bool))) := [[some (0, 5, 1, false), some (0, 7, 4, false), none],
  [some (3, 8, 37, false), some (3, 2, 38, false), none, none, none],
  [some (1, 12, 1, true), none, none, none],
  [some (1, 6, 100, false), some (1, 6, 101, false), some (1, 6, 102, false), none],
  [some (1, 64, 34, false), some (1, 4, 35, false)],
  [some (1, 200, 2, false), none, none, none],
  [some (1, 200, 11, false), some (1, 200, 12, false), some (1, 6, 13, false), some (1, 16, 14, false), none, none, none],
  [none, none, none, none, some (1, 8, 1, true), some (1, 8, 2, true), some (1, 80, 3, true), some (1, 4, 4, true), some (1, 4, 5, true)],
  [some (0, 5, 1, false), some (0, 0, 3, false), some (0, 6, 10, false), some (0, 7, 15, false), some (0, 7, 21, false), some (0, 7, 27, false), some (0, 4, 33, false), some (0, 1, 36, false), some (0, 3, 99, false), some (6, 3, 103, false), some (1, 32, 110, false)],
  [some (1, 1404, 112, false), none, some (2, 2, 113, false), some (1, 200, 114, false), none, none, some (1, 6, 115, false), some (1, 6, 116, false), some (1, 6, 117, false), none, some (1, 202, 118, false), some (1, 202, 119, false), some (1, 202, 120, false), some (1, 3, 121, false), some (1, 3, 122, false), some (1, 36, 123, false), none, none, none, none, some (1, 4, 124, false), none, none, some (1, 7, 125, false), some (1, 6, 126, false), some (1, 4, 127, false), some (1, 8, 128, false), some (1, 4, 129, false), some (1, 5, 130, false), some (1, 3, 131, false), some (1, 5, 132, false), some (1, 4, 133, false), some (1, 5, 134, false), some (1, 8, 135, false), some (2, 203, 136, false), some (2, 203, 137, false), some (1, 64, 138, false), some (1, 4, 139, false), some (1, 32, 140, false), some (1, 4, 141, false), some (1, 4, 142, false), some (1, 12, 143, false)]]
abbrev q_x : Nat := 0
abbrev q_text : Nat := 1
abbrev q_reader : Nat := 3
abbrev q_rworld : Nat := 4
abbrev q_grammar : Nat := 10
abbrev q_told : Nat := 15
abbrev q_now : Nat := 21
abbrev q_trial : Nat := 27
abbrev q_speech : Nat := 33
abbrev q_history : Nat := 36
abbrev q_sightings : Nat := 99
abbrev q_keptBy : Nat := 110
abbrev q_m : Nat := 111
abbrev q_m_row : Nat := 112
abbrev q_m_isKept : Nat := 113
abbrev q_m_text : Nat := 114
abbrev q_m_seenPerch : Nat := 115
abbrev q_m_seenPlace : Nat := 116
abbrev q_m_seenWord : Nat := 117
abbrev q_m_letters : Nat := 118
abbrev q_m_ends : Nat := 119
abbrev q_m_begins : Nat := 120
abbrev q_m_sizes : Nat := 121
abbrev q_m_sorts : Nat := 122
abbrev q_m_places : Nat := 123
abbrev q_m_readBy : Nat := 124
abbrev q_m_harbourWord : Nat := 125
abbrev q_m_parrotWord : Nat := 126
abbrev q_m_greyWord : Nat := 127
abbrev q_m_cockatooWord : Nat := 128
abbrev q_m_hawkWord : Nat := 129
abbrev q_m_greenWord : Nat := 130
abbrev q_m_manWord : Nat := 131
abbrev q_m_knowsWord : Nat := 132
abbrev q_m_sitsWord : Nat := 133
abbrev q_m_coverWord : Nat := 134
abbrev q_m_open : Nat := 135
abbrev q_m_isNow : Nat := 136
abbrev q_m_isThen : Nat := 137
abbrev q_m_saidWords : Nat := 138
abbrev q_m_saidMany : Nat := 139
abbrev q_m_keepsBy : Nat := 140
abbrev q_m_line : Nat := 141
abbrev q_m_bestLine : Nat := 142
abbrev q_m_moved : Nat := 143
abbrev xB0 : Nat := 39
abbrev xK0 : Nat := 87
abbrev xR0 : Nat := 104
abbrev xNC : Nat := 144
def xsg : List (MethodName × ByteArray × Nat × Option FieldType) := [
  (yX0_init, cX0_init, 2, none),
  (yX0_readOver, cX0_readOver, 2, some .int),
  (yX0_readClause, cX0_readClause, 2, some .boolean),
  (yX0_kindNamed, cX0_kindNamed, 1, some .int),
  (yX0_readBird, cX0_readBird, 3, some .boolean),
  (yX0_readMan, cX0_readMan, 2, some .boolean),
  (yX0_readKnows, cX0_readKnows, 4, some .boolean),
  (yX0_readSits, cX0_readSits, 4, some .boolean),
  (yX0_readCover, cX0_readCover, 2, some .boolean),
  (yX0_readNumber, cX0_readNumber, 2, some .int),
  (yX1_init, cX1_init, 2, none),
  (yX1_clear, cX1_clear, 1, none),
  (yX1_remember, cX1_remember, 2, none),
  (yX1_takeBack, cX1_takeBack, 2, none),
  (yX1_store, cX1_store, 3, none),
  (yX1_isStored, cX1_isStored, 2, some .boolean),
  (yX1_restore, cX1_restore, 3, none),
  (yX2_init, cX2_init, 1, none),
  (yX2_wind, cX2_wind, 4, none),
  (yX2_find, cX2_find, 3, some .int),
  (yX2_holds, cX2_holds, 3, some .boolean),
  (yX2_put, cX2_put, 3, some .int),
  (yX2_sound, cX2_sound, 3, some .int),
  (yX3_init, cX3_init, 1, none),
  (yX3_clear, cX3_clear, 1, none),
  (yX3_add, cX3_add, 4, none),
  (yX3_agreeWith, cX3_agreeWith, 3, some .boolean),
  (yX4_init, cX4_init, 1, none),
  (yX4_clear, cX4_clear, 2, none),
  (yX4_add, cX4_add, 3, none),
  (yX4_wordAt, cX4_wordAt, 3, some .int),
  (yX5_init, cX5_init, 1, none),
  (yX5_add, cX5_add, 2, none),
  (yX5_clear, cX5_clear, 1, none),
  (yX5_begin, cX5_begin, 1, none),
  (yX5_readToken, cX5_readToken, 1, none),
  (yX5_readLetter, cX5_readLetter, 1, none),
  (yX5_isOver, cX5_isOver, 1, some .boolean),
  (yX5_isSign, cX5_isSign, 2, some .boolean),
  (yX5_isRow, cX5_isRow, 3, some .boolean),
  (yX5_numberBelow, cX5_numberBelow, 3, some .int),
  (yX5_oneWord, cX5_oneWord, 1, some .int),
  (yX5_risingWords, cX5_risingWords, 5, some .int),
  (yX5_wordOf, cX5_wordOf, 1, some .int),
  (yX5_sortOf, cX5_sortOf, 1, some .int),
  (yX6_init, cX6_init, 1, none),
  (yX6_faultIn, cX6_faultIn, 5, some .int),
  (yX6_take, cX6_take, 5, none),
  (yX6_endsIn, cX6_endsIn, 4, some .int),
  (yX6_sumEnds, cX6_sumEnds, 9, some .int),
  (yX6_behindPart, cX6_behindPart, 2, some .int),
  (yX6_repeatedEnds, cX6_repeatedEnds, 8, some .int),
  (yX6_partEnds, cX6_partEnds, 5, some .int),
  (yX6_wordEnds, cX6_wordEnds, 5, some .int),
  (yX7_init, cX7_init, 1, none),
  (yX7_become, cX7_become, 2, none),
  (yX7_clear, cX7_clear, 1, none),
  (yX7_addBird, cX7_addBird, 4, none),
  (yX7_addMan, cX7_addMan, 2, none),
  (yX7_isCovered, cX7_isCovered, 2, some .boolean),
  (yX7_knowledge, cX7_knowledge, 3, some .int),
  (yX7_allKnowledge, cX7_allKnowledge, 4, some .int),
  (yX7_wellKnown, cX7_wellKnown, 4, some .int),
  (yX7_wellKnownBySome, cX7_wellKnownBySome, 3, some .int),
  (yX7_allWordsOfMen, cX7_allWordsOfMen, 3, some .int),
  (yX7_manBeside, cX7_manBeside, 3, some .int),
  (yX7_seat, cX7_seat, 4, none),
  (yX7_learn, cX7_learn, 5, none),
  (yX7_halve, cX7_halve, 3, none),
  (yX7_hearable, cX7_hearable, 2, some .int),
  (yX7_passEvening, cX7_passEvening, 4, none),
  (yX7_handOver, cX7_handOver, 4, none),
  (yX7_awakeOn, cX7_awakeOn, 4, some .int),
  (yX7_isSilenced, cX7_isSilenced, 3, some .boolean),
  (yX7_speakOn, cX7_speakOn, 5, none),
  (yX7_speak, cX7_speak, 8, none),
  (yX7_bestKnown, cX7_bestKnown, 7, some .int),
  (yX7_spread, cX7_spread, 4, none),
  (yX7_lose, cX7_lose, 4, none),
  (yX8_init, cX8_init, 2, none),
  (yX8_write, cX8_write, 2, some .int),
  (yX8_erase, cX8_erase, 2, some .int),
  (yX8_fault, cX8_fault, 2, some .int),
  (yX8_harbour, cX8_harbour, 1, some .int),
  (yX8_tongue, cX8_tongue, 1, some .int),
  (yX8_bird, cX8_bird, 3, some .int),
  (yX8_man, cX8_man, 3, some .int),
  (yX8_known, cX8_known, 5, some .int),
  (yX8_as, cX8_as, 4, some .int),
  (yX8_evening, cX8_evening, 3, some .int),
  (yX8_teach, cX8_teach, 3, some .int),
  (yX8_moult, cX8_moult, 2, some .int),
  (yX8_perch, cX8_perch, 4, some .int),
  (yX8_cover, cX8_cover, 2, some .int),
  (yX8_sit, cX8_sit, 4, some .int),
  (yX8_undo, cX8_undo, 1, some .int),
  (yX8_keep, cX8_keep, 2, some .int),
  (yX8_back, cX8_back, 2, some .int),
  (yX8_said, cX8_said, 3, some .int),
  (yX8_when, cX8_when, 5, some .int),
  (yX8_keeps, cX8_keeps, 4, some .int),
  (yX8_match, cX8_match, 5, some .int),
  (yX8_clean, cX8_clean, 7, some .int),
  (yX8_of, cX8_of, 5, some .int),
  (yX8_left, cX8_left, 8, some .int),
  (yX8_seen, cX8_seen, 4, some .int),
  (yX8_forget, cX8_forget, 2, some .int),
  (yX8_kinds, cX8_kinds, 4, some .int),
  (yX8_reel, cX8_reel, 4, some .int),
  (yX8_record, cX8_record, 6, some .int),
  (yX8_play, cX8_play, 5, some .int),
  (yX8_splice, cX8_splice, 8, some .int),
  (yX8_drop, cX8_drop, 2, some .int),
  (yX8_count, cX8_count, 2, some .int),
  (yX8_isNot, cX8_isNot, 3, some .boolean),
  (yX8_noBird, cX8_noBird, 2, some .boolean),
  (yX8_noMan, cX8_noMan, 2, some .boolean),
  (yX8_noWord, cX8_noWord, 1, some .boolean),
  (yX8_noPerch, cX8_noPerch, 1, some .boolean),
  (yX8_noReel, cX8_noReel, 1, some .boolean),
  (yX8_noSort, cX8_noSort, 1, some .boolean),
  (yX8_foretellSpeech, cX8_foretellSpeech, 1, none),
  (yX8_keptWords, cX8_keptWords, 5, some .int),
  (yX8_mostKept, cX8_mostKept, 5, some .int),
  (yX8_matchOf, cX8_matchOf, 5, some .int),
  (yX8_leastChoice, cX8_leastChoice, 5, some .int),
  (yX8_staysClean, cX8_staysClean, 6, some .boolean),
  (yX8_commonDivisor, cX8_commonDivisor, 6, some .int),
  (yX8_reelsThere, cX8_reelsThere, 3, some .int),
  (yX9_init, cX9_init, 1, none),
  (yX9_in, cX9_in, 6, some .boolean),
  (yX9_has, cX9_has, 2, some .boolean),
  (yX9_bits, cX9_bits, 3, some .int),
  (yX9_write, cX9_write, 2, some .int),
  (yX9_erase, cX9_erase, 2, some .int),
  (yX9_isLetter, cX9_isLetter, 1, some .boolean),
  (yX9_isDigit, cX9_isDigit, 1, some .boolean),
  (yX9_nextToken, cX9_nextToken, 1, none),
  (yX9_isWord, cX9_isWord, 4, some .boolean),
  (yX9_numberHere, cX9_numberHere, 3, some .int),
  (yX9_number, cX9_number, 3, some .int),
  (yX9_words, cX9_words, 6, some .int),
  (yX9_kindHere, cX9_kindHere, 1, some .int),
  (yX9_readsBird, cX9_readsBird, 3, some .boolean),
  (yX9_readsMan, cX9_readsMan, 2, some .boolean),
  (yX9_readsKnows, cX9_readsKnows, 5, some .boolean),
  (yX9_readsSits, cX9_readsSits, 5, some .boolean),
  (yX9_readsCover, cX9_readsCover, 2, some .boolean),
  (yX9_readsHarbour, cX9_readsHarbour, 2, some .boolean),
  (yX9_readsClause, cX9_readsClause, 1, some .boolean),
  (yX9_reads, cX9_reads, 3, some .boolean),
  (yX9_copyHarbour, cX9_copyHarbour, 4, none),
  (yX9_harbour, cX9_harbour, 1, some .int),
  (yX9_tongueFault, cX9_tongueFault, 8, some .int),
  (yX9_fault, cX9_fault, 2, some .int),
  (yX9_layTongue, cX9_layTongue, 4, none),
  (yX9_tongue, cX9_tongue, 3, some .int),
  (yX9_mark, cX9_mark, 3, some .boolean),
  (yX9_goesOn, cX9_goesOn, 5, some .boolean),
  (yX9_goOnAll, cX9_goOnAll, 3, none),
  (yX9_hearWord, cX9_hearWord, 3, none),
  (yX9_hears, cX9_hears, 1, some .int),
  (yX9_gets, cX9_gets, 1, some .int),
  (yX9_says, cX9_says, 1, some .int),
  (yX9_loses, cX9_loses, 1, some .int),
  (yX9_isBird, cX9_isBird, 2, some .boolean),
  (yX9_isMan, cX9_isMan, 2, some .boolean),
  (yX9_isWordNumber, cX9_isWordNumber, 1, some .boolean),
  (yX9_isOpen, cX9_isOpen, 3, some .boolean),
  (yX9_learns, cX9_learns, 6, none),
  (yX9_manOf, cX9_manOf, 5, some .int),
  (yX9_wellKnown, cX9_wellKnown, 5, some .int),
  (yX9_bird, cX9_bird, 3, some .int),
  (yX9_man, cX9_man, 3, some .int),
  (yX9_as, cX9_as, 5, some .int),
  (yX9_handOver, cX9_handOver, 6, none),
  (yX9_isSilent, cX9_isSilent, 5, some .boolean),
  (yX9_bestWord, cX9_bestWord, 8, some .int),
  (yX9_say, cX9_say, 6, none),
  (yX9_speak, cX9_speak, 7, none),
  (yX9_lose, cX9_lose, 5, none),
  (yX9_passes, cX9_passes, 3, none),
  (yX9_layTried, cX9_layTried, 1, none),
  (yX9_passTried, cX9_passTried, 3, none),
  (yX9_known, cX9_known, 4, some .int),
  (yX9_keepPast, cX9_keepPast, 2, none),
  (yX9_evening, cX9_evening, 3, some .int),
  (yX9_teach, cX9_teach, 3, some .int),
  (yX9_moult, cX9_moult, 4, some .int),
  (yX9_perch, cX9_perch, 4, some .int),
  (yX9_cover, cX9_cover, 2, some .int),
  (yX9_sets, cX9_sets, 5, none),
  (yX9_sit, cX9_sit, 4, some .int),
  (yX9_undo, cX9_undo, 1, some .int),
  (yX9_keep, cX9_keep, 2, some .int),
  (yX9_back, cX9_back, 2, some .int),
  (yX9_saidAt, cX9_saidAt, 3, some .int),
  (yX9_said, cX9_said, 3, some .int),
  (yX9_when, cX9_when, 5, some .int),
  (yX9_keptBy, cX9_keptBy, 4, some .int),
  (yX9_keeps, cX9_keeps, 4, some .int),
  (yX9_keptByLine, cX9_keptByLine, 6, some .int),
  (yX9_nextLine, cX9_nextLine, 2, some .boolean),
  (yX9_match, cX9_match, 7, some .int),
  (yX9_clean, cX9_clean, 7, some .int),
  (yX9_of, cX9_of, 5, some .int),
  (yX9_left, cX9_left, 9, some .int),
  (yX9_seen, cX9_seen, 4, some .int),
  (yX9_forget, cX9_forget, 2, some .int),
  (yX9_kinds, cX9_kinds, 6, some .int),
  (yX9_isReel, cX9_isReel, 1, some .boolean),
  (yX9_reel, cX9_reel, 5, some .int),
  (yX9_noPlace, cX9_noPlace, 4, some .int),
  (yX9_record, cX9_record, 7, some .int),
  (yX9_play, cX9_play, 6, some .int),
  (yX9_isSpan, cX9_isSpan, 4, some .boolean),
  (yX9_splice, cX9_splice, 7, some .int),
  (yX9_drop, cX9_drop, 3, some .int),
  (yX9_menWords, cX9_menWords, 3, some .int),
  (yX9_allWellKnown, cX9_allWellKnown, 3, some .int),
  (yX9_reelsThere, cX9_reelsThere, 3, some .int),
  (yX9_count, cX9_count, 2, some .int),
  (yJ6_numberOfTrailingZeros_0f7a4, cJ6_numberOfTrailingZeros_0f7a4, 2, some .int),
  (yJ6_bitCount_0f7a4, cJ6_bitCount_0f7a4, 1, some .int),
  (yJ9_max_7cf53, cJ9_max_7cf53, 2, some .int),
  (yJ9_min_7cf53, cJ9_min_7cf53, 2, some .int),
  (yJ0_length_8abf5, cJ0_length_8abf5, 1, some .int),
  (yJ0_charAt_5068e, cJ0_charAt_5068e, 2, some .char),
  (yJ0_coder_7d493, cJ0_coder_7d493, 1, some .byte),
  (yJ0_isLatin1_aae02, cJ0_isLatin1_aae02, 1, some .boolean),
  (yJ0_checkIndex_df160, cJ0_checkIndex_df160, 2, none),
  (yJ1_charAt_3b067, cJ1_charAt_3b067, 2, some .char),
  (yJ2_getChar_3b067, cJ2_getChar_3b067, 2, some .char),
  (yJ2_length_9d52b, cJ2_length_9d52b, 1, some .int),
  (yJ2_charAt_3b067, cJ2_charAt_3b067, 2, some .char),
  (yJ2_checkIndex_2214a, cJ2_checkIndex_2214a, 2, none),
  (yJ3_checkIndex_8e157, cJ3_checkIndex_8e157, 3, some .int)]
abbrev iX0_init : Nat := 0
abbrev iX0_readOver : Nat := 1
abbrev iX0_readClause : Nat := 2
abbrev iX0_kindNamed : Nat := 3
abbrev iX0_readBird : Nat := 4
abbrev iX0_readMan : Nat := 5
abbrev iX0_readKnows : Nat := 6
abbrev iX0_readSits : Nat := 7
abbrev iX0_readCover : Nat := 8
abbrev iX0_readNumber : Nat := 9
abbrev iX1_init : Nat := 10
abbrev iX1_clear : Nat := 11
abbrev iX1_remember : Nat := 12
abbrev iX1_takeBack : Nat := 13
abbrev iX1_store : Nat := 14
abbrev iX1_isStored : Nat := 15
abbrev iX1_restore : Nat := 16
abbrev iX2_init : Nat := 17
abbrev iX2_wind : Nat := 18
abbrev iX2_find : Nat := 19
abbrev iX2_holds : Nat := 20
abbrev iX2_put : Nat := 21
abbrev iX2_sound : Nat := 22
abbrev iX3_init : Nat := 23
abbrev iX3_clear : Nat := 24
abbrev iX3_add : Nat := 25
abbrev iX3_agreeWith : Nat := 26
abbrev iX4_init : Nat := 27
abbrev iX4_clear : Nat := 28
abbrev iX4_add : Nat := 29
abbrev iX4_wordAt : Nat := 30
abbrev iX5_init : Nat := 31
abbrev iX5_add : Nat := 32
abbrev iX5_clear : Nat := 33
abbrev iX5_begin : Nat := 34
abbrev iX5_readToken : Nat := 35
abbrev iX5_readLetter : Nat := 36
abbrev iX5_isOver : Nat := 37
abbrev iX5_isSign : Nat := 38
abbrev iX5_isRow : Nat := 39
abbrev iX5_numberBelow : Nat := 40
abbrev iX5_oneWord : Nat := 41
abbrev iX5_risingWords : Nat := 42
abbrev iX5_wordOf : Nat := 43
abbrev iX5_sortOf : Nat := 44
abbrev iX6_init : Nat := 45
abbrev iX6_faultIn : Nat := 46
abbrev iX6_take : Nat := 47
abbrev iX6_endsIn : Nat := 48
abbrev iX6_sumEnds : Nat := 49
abbrev iX6_behindPart : Nat := 50
abbrev iX6_repeatedEnds : Nat := 51
abbrev iX6_partEnds : Nat := 52
abbrev iX6_wordEnds : Nat := 53
abbrev iX7_init : Nat := 54
abbrev iX7_become : Nat := 55
abbrev iX7_clear : Nat := 56
abbrev iX7_addBird : Nat := 57
abbrev iX7_addMan : Nat := 58
abbrev iX7_isCovered : Nat := 59
abbrev iX7_knowledge : Nat := 60
abbrev iX7_allKnowledge : Nat := 61
abbrev iX7_wellKnown : Nat := 62
abbrev iX7_wellKnownBySome : Nat := 63
abbrev iX7_allWordsOfMen : Nat := 64
abbrev iX7_manBeside : Nat := 65
abbrev iX7_seat : Nat := 66
abbrev iX7_learn : Nat := 67
abbrev iX7_halve : Nat := 68
abbrev iX7_hearable : Nat := 69
abbrev iX7_passEvening : Nat := 70
abbrev iX7_handOver : Nat := 71
abbrev iX7_awakeOn : Nat := 72
abbrev iX7_isSilenced : Nat := 73
abbrev iX7_speakOn : Nat := 74
abbrev iX7_speak : Nat := 75
abbrev iX7_bestKnown : Nat := 76
abbrev iX7_spread : Nat := 77
abbrev iX7_lose : Nat := 78
abbrev iX8_init : Nat := 79
abbrev iX8_write : Nat := 80
abbrev iX8_erase : Nat := 81
abbrev iX8_fault : Nat := 82
abbrev iX8_harbour : Nat := 83
abbrev iX8_tongue : Nat := 84
abbrev iX8_bird : Nat := 85
abbrev iX8_man : Nat := 86
abbrev iX8_known : Nat := 87
abbrev iX8_as : Nat := 88
abbrev iX8_evening : Nat := 89
abbrev iX8_teach : Nat := 90
abbrev iX8_moult : Nat := 91
abbrev iX8_perch : Nat := 92
abbrev iX8_cover : Nat := 93
abbrev iX8_sit : Nat := 94
abbrev iX8_undo : Nat := 95
abbrev iX8_keep : Nat := 96
abbrev iX8_back : Nat := 97
abbrev iX8_said : Nat := 98
abbrev iX8_when : Nat := 99
abbrev iX8_keeps : Nat := 100
abbrev iX8_match : Nat := 101
abbrev iX8_clean : Nat := 102
abbrev iX8_of : Nat := 103
abbrev iX8_left : Nat := 104
abbrev iX8_seen : Nat := 105
abbrev iX8_forget : Nat := 106
abbrev iX8_kinds : Nat := 107
abbrev iX8_reel : Nat := 108
abbrev iX8_record : Nat := 109
abbrev iX8_play : Nat := 110
abbrev iX8_splice : Nat := 111
abbrev iX8_drop : Nat := 112
abbrev iX8_count : Nat := 113
abbrev iX8_isNot : Nat := 114
abbrev iX8_noBird : Nat := 115
abbrev iX8_noMan : Nat := 116
abbrev iX8_noWord : Nat := 117
abbrev iX8_noPerch : Nat := 118
abbrev iX8_noReel : Nat := 119
abbrev iX8_noSort : Nat := 120
abbrev iX8_foretellSpeech : Nat := 121
abbrev iX8_keptWords : Nat := 122
abbrev iX8_mostKept : Nat := 123
abbrev iX8_matchOf : Nat := 124
abbrev iX8_leastChoice : Nat := 125
abbrev iX8_staysClean : Nat := 126
abbrev iX8_commonDivisor : Nat := 127
abbrev iX8_reelsThere : Nat := 128
abbrev iX9_init : Nat := 129
abbrev iX9_in : Nat := 130
abbrev iX9_has : Nat := 131
abbrev iX9_bits : Nat := 132
abbrev iX9_write : Nat := 133
abbrev iX9_erase : Nat := 134
abbrev iX9_isLetter : Nat := 135
abbrev iX9_isDigit : Nat := 136
abbrev iX9_nextToken : Nat := 137
abbrev iX9_isWord : Nat := 138
abbrev iX9_numberHere : Nat := 139
abbrev iX9_number : Nat := 140
abbrev iX9_words : Nat := 141
abbrev iX9_kindHere : Nat := 142
abbrev iX9_readsBird : Nat := 143
abbrev iX9_readsMan : Nat := 144
abbrev iX9_readsKnows : Nat := 145
abbrev iX9_readsSits : Nat := 146
abbrev iX9_readsCover : Nat := 147
abbrev iX9_readsHarbour : Nat := 148
abbrev iX9_readsClause : Nat := 149
abbrev iX9_reads : Nat := 150
abbrev iX9_copyHarbour : Nat := 151
abbrev iX9_harbour : Nat := 152
abbrev iX9_tongueFault : Nat := 153
abbrev iX9_fault : Nat := 154
abbrev iX9_layTongue : Nat := 155
abbrev iX9_tongue : Nat := 156
abbrev iX9_mark : Nat := 157
abbrev iX9_goesOn : Nat := 158
abbrev iX9_goOnAll : Nat := 159
abbrev iX9_hearWord : Nat := 160
abbrev iX9_hears : Nat := 161
abbrev iX9_gets : Nat := 162
abbrev iX9_says : Nat := 163
abbrev iX9_loses : Nat := 164
abbrev iX9_isBird : Nat := 165
abbrev iX9_isMan : Nat := 166
abbrev iX9_isWordNumber : Nat := 167
abbrev iX9_isOpen : Nat := 168
abbrev iX9_learns : Nat := 169
abbrev iX9_manOf : Nat := 170
abbrev iX9_wellKnown : Nat := 171
abbrev iX9_bird : Nat := 172
abbrev iX9_man : Nat := 173
abbrev iX9_as : Nat := 174
abbrev iX9_handOver : Nat := 175
abbrev iX9_isSilent : Nat := 176
abbrev iX9_bestWord : Nat := 177
abbrev iX9_say : Nat := 178
abbrev iX9_speak : Nat := 179
abbrev iX9_lose : Nat := 180
abbrev iX9_passes : Nat := 181
abbrev iX9_layTried : Nat := 182
abbrev iX9_passTried : Nat := 183
abbrev iX9_known : Nat := 184
abbrev iX9_keepPast : Nat := 185
abbrev iX9_evening : Nat := 186
abbrev iX9_teach : Nat := 187
abbrev iX9_moult : Nat := 188
abbrev iX9_perch : Nat := 189
abbrev iX9_cover : Nat := 190
abbrev iX9_sets : Nat := 191
abbrev iX9_sit : Nat := 192
abbrev iX9_undo : Nat := 193
abbrev iX9_keep : Nat := 194
abbrev iX9_back : Nat := 195
abbrev iX9_saidAt : Nat := 196
abbrev iX9_said : Nat := 197
abbrev iX9_when : Nat := 198
abbrev iX9_keptBy : Nat := 199
abbrev iX9_keeps : Nat := 200
abbrev iX9_keptByLine : Nat := 201
abbrev iX9_nextLine : Nat := 202
abbrev iX9_match : Nat := 203
abbrev iX9_clean : Nat := 204
abbrev iX9_of : Nat := 205
abbrev iX9_left : Nat := 206
abbrev iX9_seen : Nat := 207
abbrev iX9_forget : Nat := 208
abbrev iX9_kinds : Nat := 209
abbrev iX9_isReel : Nat := 210
abbrev iX9_reel : Nat := 211
abbrev iX9_noPlace : Nat := 212
abbrev iX9_record : Nat := 213
abbrev iX9_play : Nat := 214
abbrev iX9_isSpan : Nat := 215
abbrev iX9_splice : Nat := 216
abbrev iX9_drop : Nat := 217
abbrev iX9_menWords : Nat := 218
abbrev iX9_allWellKnown : Nat := 219
abbrev iX9_reelsThere : Nat := 220
abbrev iX9_count : Nat := 221
abbrev iJ6_numberOfTrailingZeros_0f7a4 : Nat := 222
abbrev iJ6_bitCount_0f7a4 : Nat := 223
abbrev iJ9_max_7cf53 : Nat := 224
abbrev iJ9_min_7cf53 : Nat := 225
abbrev iJ0_length_8abf5 : Nat := 226
abbrev iJ0_charAt_5068e : Nat := 227
abbrev iJ0_coder_7d493 : Nat := 228
abbrev iJ0_isLatin1_aae02 : Nat := 229
abbrev iJ0_checkIndex_df160 : Nat := 230
abbrev iJ1_charAt_3b067 : Nat := 231
abbrev iJ2_getChar_3b067 : Nat := 232
abbrev iJ2_length_9d52b : Nat := 233
abbrev iJ2_charAt_3b067 : Nat := 234
abbrev iJ2_checkIndex_2214a : Nat := 235
abbrev iJ3_checkIndex_8e157 : Nat := 236
def xsn (k : Nat) : String := ["", "HEARS", "GETS", "SAYS", "LOSES", "IS"].getD k ""
def xtab : List (List Int32) := [[], [1, 1, 1, 0, 2], [3, 5, 3, 0, 0], [1, 1, 2, 0, 0], [1, 0, 1, 0, 0], [3, 7, 11, 17, 49]]
def xtv (k j : Nat) : Int32 := (xtab.getD k []).getD j 0
def xsp (k : Nat) : Nat := [89, 91, 93, 95, 97, 60, 69, 74, 79, 84].getD k 0
def xsx (k : Nat) : String := ["parrot", "grey", "cockatoo", "hawk", "green", "harbour", "man", "knows", "sits", "cover"].getD k ""
def xsl : List Nat := [6, 4, 8, 4, 5, 7, 3, 5, 4, 5]
def xsb : List (List Int32) := [[112, 97, 114, 114, 111, 116], [103, 114, 101, 121], [99, 111, 99, 107, 97, 116, 111, 111], [104, 97, 119, 107], [103, 114, 101, 101, 110], [104, 97, 114, 98, 111, 117, 114], [109, 97, 110], [107, 110, 111, 119, 115], [115, 105, 116, 115], [99, 111, 118, 101, 114]]
def xnst : List (Nat × String) := [(88, "GETS"), (102, "SAYS"), (115, "HEARS"), (118, "LOSES")]
def xfl : List (Nat × String × Nat × Nat) := [(7, "ParrotSpeechModel", 9, 0), (9, "ParrotSpeech$Reel", 2, 0), (9, "ParrotSpeech$Sightings", 3, 0), (9, "ParrotSpeech$Speech", 4, 0), (9, "ParrotSpeech$Text", 5, 0), (9, "ParrotSpeech$Tongue", 6, 0), (9, "ParrotSpeech$World", 7, 4), (10, "ParrotSpeech", 8, 0), (11, "ParrotSpeech$History", 1, 0), (12, "ParrotSpeech$HarbourReader", 0, 1), (13, "ParrotSpeechModel", 9, 2), (15, "ParrotSpeech$Reel", 2, 1), (15, "ParrotSpeech$Sightings", 3, 1), (15, "ParrotSpeech$Speech", 4, 1), (15, "ParrotSpeech$Text", 5, 1), (15, "ParrotSpeech$Tongue", 6, 1), (15, "ParrotSpeech$World", 7, 5), (17, "ParrotSpeech$History", 1, 1), (17, "ParrotSpeechModel", 9, 3), (18, "ParrotSpeech$HarbourReader", 0, 0), (18, "ParrotSpeech$Sightings", 3, 2), (18, "ParrotSpeech$Tongue", 6, 2), (18, "ParrotSpeech$World", 7, 6), (19, "ParrotSpeech$Reel", 2, 2), (19, "ParrotSpeech$Text", 5, 2), (20, "ParrotSpeechModel", 9, 6), (21, "ParrotSpeech", 8, 1), (21, "ParrotSpeech$History", 1, 4), (21, "ParrotSpeech$Sightings", 3, 3), (21, "ParrotSpeech$Tongue", 6, 3), (21, "ParrotSpeech$World", 7, 7), (22, "ParrotSpeech$Text", 5, 3), (23, "ParrotSpeech$Reel", 2, 3), (23, "ParrotSpeechModel", 9, 7), (24, "ParrotSpeech$World", 7, 8), (25, "ParrotSpeech$History", 1, 3), (26, "ParrotSpeechModel", 9, 8), (27, "ParrotSpeech$World", 7, 0), (28, "ParrotSpeech", 8, 2), (28, "ParrotSpeech$History", 1, 2), (29, "ParrotSpeechModel", 9, 10), (31, "ParrotSpeech$HarbourReader", 0, 2), (31, "ParrotSpeech$World", 7, 1), (32, "ParrotSpeechModel", 9, 11), (34, "ParrotSpeech$World", 7, 2), (35, "ParrotSpeech", 8, 3), (35, "ParrotSpeechModel", 9, 12), (37, "ParrotSpeech$World", 7, 3), (38, "ParrotSpeechModel", 9, 13), (39, "ParrotSpeech", 8, 4), (41, "ParrotSpeechModel", 9, 14), (42, "ParrotSpeech", 8, 5), (42, "ParrotSpeech$HarbourReader", 5, 2), (44, "ParrotSpeech$Tongue", 5, 2), (44, "ParrotSpeechModel", 9, 15), (47, "ParrotSpeechModel", 9, 20), (48, "ParrotSpeech", 8, 6), (48, "ParrotSpeech$Tongue", 5, 1), (50, "ParrotSpeechModel", 9, 23), (51, "ParrotSpeech$Tongue", 6, 5), (52, "ParrotSpeech$Tongue", 6, 6), (53, "ParrotSpeechModel", 9, 24), (55, "ParrotSpeech", 8, 7), (55, "ParrotSpeech$Tongue", 5, 0), (56, "ParrotSpeechModel", 9, 25), (59, "ParrotSpeechModel", 9, 26), (62, "ParrotSpeech", 8, 8), (62, "ParrotSpeech$Tongue", 4, 1), (62, "ParrotSpeechModel", 9, 27), (65, "ParrotSpeechModel", 9, 28), (67, "ParrotSpeech$Tongue", 6, 4), (68, "ParrotSpeech", 8, 9), (68, "ParrotSpeechModel", 9, 29), (71, "ParrotSpeechModel", 9, 30), (73, "ParrotSpeech", 8, 10), (74, "ParrotSpeechModel", 9, 31), (77, "ParrotSpeechModel", 9, 32), (80, "ParrotSpeechModel", 9, 33), (81, "ParrotSpeech", 5, 1), (83, "ParrotSpeechModel", 9, 34), (86, "ParrotSpeechModel", 9, 35), (89, "ParrotSpeechModel", 9, 36), (92, "ParrotSpeechModel", 9, 37), (95, "ParrotSpeechModel", 9, 38), (98, "ParrotSpeechModel", 9, 39), (99, "ParrotSpeech$HarbourReader", 7, 0), (100, "ParrotSpeech", 0, 1), (101, "ParrotSpeechModel", 9, 40), (104, "ParrotSpeechModel", 9, 41), (109, "ParrotSpeech", 0, 2), (110, "ParrotSpeech$HarbourReader", 7, 1), (113, "ParrotSpeechModel", 9, 4), (115, "ParrotSpeech", 6, 6), (122, "ParrotSpeech", 7, 4), (123, "ParrotSpeech$HarbourReader", 7, 6), (125, "ParrotSpeech", 7, 5), (125, "ParrotSpeechModel", 9, 17), (128, "ParrotSpeechModel", 9, 16), (132, "ParrotSpeech$HarbourReader", 7, 3), (141, "ParrotSpeech", 7, 7), (144, "ParrotSpeech", 7, 8), (149, "ParrotSpeechModel", 9, 18), (155, "ParrotSpeechModel", 9, 22), (159, "ParrotSpeechModel", 9, 19), (164, "ParrotSpeech", 7, 2), (183, "ParrotSpeech", 7, 3), (190, "ParrotSpeech", 1, 4), (192, "ParrotSpeechModel", 9, 21), (206, "ParrotSpeechModel", 9, 1), (209, "ParrotSpeechModel", 9, 5), (216, "ParrotSpeech", 7, 1), (217, "ParrotSpeechModel", 9, 9), (219, "ParrotSpeech", 7, 0), (240, "ParrotSpeech", 6, 5), (245, "ParrotSpeech", 4, 1), (251, "ParrotSpeech", 3, 3), (276, "ParrotSpeech", 2, 1), (280, "ParrotSpeech", 2, 2), (287, "ParrotSpeech", 2, 0), (296, "ParrotSpeech", 2, 3)]
def xflp : List Nat := [935, 292, 271, 230, 109, 198, 151, 309, 248, 181, 937, 294, 272, 231, 111, 199, 153, 249, 938, 180, 273, 200, 155, 296, 116, 941, 310, 252, 274, 201, 157, 117, 298, 942, 159, 251, 943, 140, 311, 250, 945, 183, 143, 946, 146, 312, 947, 148, 948, 313, 949, 314, 114, 115, 950, 955, 315, 113, 958, 203, 205, 959, 316, 110, 960, 961, 317, 232, 962, 963, 202, 318, 964, 965, 319, 966, 967, 968, 112, 969, 970, 971, 972, 973, 974, 141, 182, 975, 976, 184, 144, 939, 206, 152, 156, 154, 952, 951, 149, 158, 160, 953, 957, 954, 147, 150, 253, 956, 936, 940, 145, 944, 142, 204, 233, 275, 295, 297, 293, 299]
def xpl : List (Nat × String × Nat × Nat) := [(15, "ParrotSpeech$Reel", 2, 101), (15, "ParrotSpeech$Text", 5, 1), (19, "ParrotSpeech$Reel", 2, 2), (19, "ParrotSpeech$Text", 5, 2), (21, "ParrotSpeech$History", 1, 4), (21, "ParrotSpeech$Sightings", 3, 3), (22, "ParrotSpeech$Text", 5, 3), (23, "ParrotSpeech$Reel", 2, 3), (25, "ParrotSpeech$History", 1, 3), (27, "ParrotSpeech$World", 7, 0), (28, "ParrotSpeech$History", 1, 2), (31, "ParrotSpeech$HarbourReader", 0, 2), (31, "ParrotSpeech$World", 7, 1), (34, "ParrotSpeech$World", 7, 2), (37, "ParrotSpeech$World", 7, 3), (51, "ParrotSpeech$Tongue", 6, 5), (52, "ParrotSpeech$Tongue", 6, 6), (67, "ParrotSpeech$Tongue", 6, 4), (113, "ParrotSpeechModel", 9, 4), (125, "ParrotSpeechModel", 9, 17), (128, "ParrotSpeechModel", 9, 16), (132, "ParrotSpeech$HarbourReader", 7, 3), (149, "ParrotSpeechModel", 9, 18), (155, "ParrotSpeechModel", 9, 122), (159, "ParrotSpeechModel", 9, 19), (183, "ParrotSpeech", 7, 3), (192, "ParrotSpeechModel", 9, 21), (206, "ParrotSpeechModel", 9, 1), (209, "ParrotSpeechModel", 9, 5), (217, "ParrotSpeechModel", 9, 9), (276, "ParrotSpeech", 2, 101)]
def xplp : List Nat := [294, 111, 296, 116, 252, 274, 117, 298, 251, 140, 250, 183, 143, 146, 148, 203, 205, 202, 939, 952, 951, 149, 953, 957, 954, 150, 956, 936, 940, 944, 295]
def xml : List (Nat × String × Nat) := [(9, "java/lang/StringLatin1", 230), (13, "ParrotSpeechLaw", 80), (17, "ParrotSpeechLaw", 133), (18, "ParrotSpeechLaw", 81), (22, "ParrotSpeech$HarbourReader", 55), (22, "ParrotSpeechLaw", 134), (23, "ParrotSpeechLaw", 82), (24, "ParrotSpeech$Tongue", 34), (25, "ParrotSpeech$Sightings", 30), (25, "ParrotSpeech$Text", 36), (26, "ParrotSpeech$HarbourReader", 34), (26, "ParrotSpeechLaw", 154), (27, "ParrotSpeechLaw", 83), (28, "ParrotSpeech$Text", 37), (29, "ParrotSpeech$Tongue", 36), (30, "ParrotSpeechLaw", 152), (31, "ParrotSpeech$History", 55), (31, "ParrotSpeechLaw", 84), (32, "ParrotSpeech$Text", 44), (32, "ParrotSpeech$Tongue", 37), (34, "ParrotSpeechLaw", 156), (35, "ParrotSpeech$HarbourReader", 35), (35, "ParrotSpeech$History", 225), (35, "ParrotSpeechLaw", 85), (36, "ParrotSpeech$Text", 225), (36, "ParrotSpeech$Tongue", 41), (38, "ParrotSpeech$HarbourReader", 2), (39, "ParrotSpeechLaw", 172), (40, "ParrotSpeech$Tongue", 38), (40, "ParrotSpeechLaw", 86), (42, "ParrotSpeech$Text", 226), (43, "ParrotSpeechLaw", 173), (44, "ParrotSpeechLaw", 87), (45, "ParrotSpeech$HarbourReader", 37), (46, "ParrotSpeech$World", 60), (47, "ParrotSpeech$Text", 227), (48, "ParrotSpeech$HarbourReader", 38), (48, "ParrotSpeechLaw", 184), (49, "ParrotSpeechLaw", 88), (50, "ParrotSpeech$World", 62), (51, "ParrotSpeech$Text", 43), (52, "ParrotSpeech$HarbourReader", 3), (52, "ParrotSpeechLaw", 174), (53, "ParrotSpeechLaw", 89), (54, "ParrotSpeech$World", 223), (56, "ParrotSpeech$HarbourReader", 4), (56, "ParrotSpeechLaw", 186), (57, "ParrotSpeechLaw", 90), (58, "ParrotSpeech$Tongue", 43), (59, "ParrotSpeech$World", 65), (60, "ParrotSpeechLaw", 187), (61, "ParrotSpeechLaw", 91), (62, "ParrotSpeech$HarbourReader", 39), (62, "ParrotSpeech$World", 72), (64, "ParrotSpeechLaw", 188), (65, "ParrotSpeech$World", 71), (65, "ParrotSpeechLaw", 92), (66, "ParrotSpeech$HarbourReader", 56), (68, "ParrotSpeechLaw", 189), (69, "ParrotSpeech$World", 28), (69, "ParrotSpeechLaw", 93), (70, "ParrotSpeech$Tongue", 30), (71, "ParrotSpeech$HarbourReader", 5), (72, "ParrotSpeechLaw", 190), (73, "ParrotSpeechLaw", 94), (74, "ParrotSpeech$Tongue", 49), (74, "ParrotSpeech$World", 73), (76, "ParrotSpeech$HarbourReader", 6), (76, "ParrotSpeechLaw", 192), (77, "ParrotSpeech", 114), (77, "ParrotSpeechLaw", 95), (78, "ParrotSpeech$Tongue", 50), (78, "ParrotSpeech$World", 74), (80, "ParrotSpeechLaw", 193), (81, "ParrotSpeech$HarbourReader", 7), (81, "ParrotSpeech$Tongue", 51), (81, "ParrotSpeechLaw", 96), (82, "ParrotSpeech$World", 78), (84, "ParrotSpeech$Tongue", 52), (84, "ParrotSpeechLaw", 194), (85, "ParrotSpeech", 32), (85, "ParrotSpeech$World", 59), (85, "ParrotSpeechLaw", 97), (86, "ParrotSpeech$HarbourReader", 8), (87, "ParrotSpeech$Tongue", 224), (88, "ParrotSpeechLaw", 195), (89, "ParrotSpeech", 33), (89, "ParrotSpeechLaw", 98), (91, "ParrotSpeech$World", 222), (92, "ParrotSpeech", 1), (92, "ParrotSpeech$Tongue", 53), (92, "ParrotSpeechLaw", 197), (93, "ParrotSpeechLaw", 99), (94, "ParrotSpeech$World", 67), (96, "ParrotSpeech", 46), (96, "ParrotSpeechLaw", 198), (97, "ParrotSpeechLaw", 100), (98, "ParrotSpeech$World", 75), (100, "ParrotSpeechLaw", 200), (101, "ParrotSpeechLaw", 101), (102, "ParrotSpeech$HarbourReader", 9), (103, "ParrotSpeech", 55), (104, "ParrotSpeechLaw", 203), (105, "ParrotSpeech$World", 76), (105, "ParrotSpeechLaw", 102), (106, "ParrotSpeech$HarbourReader", 57), (107, "ParrotSpeech", 11), (108, "ParrotSpeech", 24), (108, "ParrotSpeech$World", 29), (108, "ParrotSpeechLaw", 204), (109, "ParrotSpeechLaw", 103), (109, "ParrotSpeechModel", 130), (112, "ParrotSpeech", 47), (112, "ParrotSpeech$World", 77), (112, "ParrotSpeechLaw", 205), (113, "ParrotSpeech$HarbourReader", 42), (113, "ParrotSpeechLaw", 104), (116, "ParrotSpeech$HarbourReader", 58), (116, "ParrotSpeechLaw", 206), (117, "ParrotSpeechLaw", 105), (118, "ParrotSpeech", 115), (120, "ParrotSpeech$HarbourReader", 41), (120, "ParrotSpeechLaw", 207), (121, "ParrotSpeech$World", 224), (121, "ParrotSpeechLaw", 106), (124, "ParrotSpeechLaw", 208), (125, "ParrotSpeechLaw", 107), (126, "ParrotSpeech$HarbourReader", 65), (128, "ParrotSpeech", 59), (128, "ParrotSpeechLaw", 209), (129, "ParrotSpeech$HarbourReader", 66), (129, "ParrotSpeechLaw", 108), (131, "ParrotSpeech", 65), (131, "ParrotSpeechModel", 135), (132, "ParrotSpeechLaw", 211), (133, "ParrotSpeechLaw", 109), (135, "ParrotSpeech", 62), (135, "ParrotSpeech$HarbourReader", 40), (135, "ParrotSpeechModel", 136), (137, "ParrotSpeechLaw", 213), (138, "ParrotSpeech", 116), (138, "ParrotSpeechLaw", 110), (138, "ParrotSpeechModel", 139), (141, "ParrotSpeechLaw", 214), (142, "ParrotSpeechLaw", 111), (142, "ParrotSpeechModel", 137), (145, "ParrotSpeechModel", 138), (146, "ParrotSpeechLaw", 216), (147, "ParrotSpeech", 117), (147, "ParrotSpeechLaw", 112), (150, "ParrotSpeech", 70), (150, "ParrotSpeechLaw", 217), (151, "ParrotSpeechLaw", 113), (152, "ParrotSpeechModel", 140), (154, "ParrotSpeech", 60), (154, "ParrotSpeechLaw", 221), (162, "ParrotSpeechModel", 141), (165, "ParrotSpeechModel", 131), (167, "ParrotSpeech", 12), (169, "ParrotSpeechModel", 142), (170, "ParrotSpeech", 67), (173, "ParrotSpeechModel", 143), (174, "ParrotSpeech", 68), (176, "ParrotSpeechModel", 144), (177, "ParrotSpeech", 61), (180, "ParrotSpeech", 118), (180, "ParrotSpeechModel", 148), (183, "ParrotSpeechModel", 145), (186, "ParrotSpeech", 66), (186, "ParrotSpeechModel", 146), (189, "ParrotSpeechModel", 147), (193, "ParrotSpeech", 13), (195, "ParrotSpeechModel", 149), (196, "ParrotSpeech", 14), (198, "ParrotSpeechModel", 150), (200, "ParrotSpeech", 15), (202, "ParrotSpeechModel", 151), (203, "ParrotSpeech", 16), (206, "ParrotSpeech", 121), (209, "ParrotSpeech", 30), (212, "ParrotSpeech", 122), (214, "ParrotSpeechModel", 153), (220, "ParrotSpeechModel", 155), (222, "ParrotSpeech", 123), (223, "ParrotSpeechModel", 157), (225, "ParrotSpeech", 124), (226, "ParrotSpeechModel", 158), (228, "ParrotSpeech", 69), (229, "ParrotSpeechModel", 159), (231, "ParrotSpeech", 223), (234, "ParrotSpeechModel", 165), (236, "ParrotSpeech", 126), (237, "ParrotSpeechModel", 170), (241, "ParrotSpeech", 48), (241, "ParrotSpeechModel", 171), (244, "ParrotSpeechModel", 166), (248, "ParrotSpeech", 127), (249, "ParrotSpeechModel", 162), (252, "ParrotSpeech", 25), (252, "ParrotSpeechModel", 168), (254, "ParrotSpeech", 26), (255, "ParrotSpeechModel", 169), (258, "ParrotSpeech", 119), (259, "ParrotSpeechModel", 161), (261, "ParrotSpeech", 120), (262, "ParrotSpeechModel", 177), (264, "ParrotSpeech", 18), (266, "ParrotSpeechModel", 163), (267, "ParrotSpeech", 19), (269, "ParrotSpeechModel", 178), (270, "ParrotSpeech", 21), (273, "ParrotSpeech", 22), (274, "ParrotSpeechModel", 164), (277, "ParrotSpeechModel", 175), (281, "ParrotSpeechModel", 176), (283, "ParrotSpeech", 20), (284, "ParrotSpeechModel", 179), (287, "ParrotSpeechModel", 180), (290, "ParrotSpeechModel", 181), (293, "ParrotSpeechModel", 167), (297, "ParrotSpeech", 64), (298, "ParrotSpeechModel", 182), (301, "ParrotSpeech", 128), (301, "ParrotSpeechModel", 183), (304, "ParrotSpeech", 63), (306, "ParrotSpeechModel", 185), (307, "ParrotSpeech", 224), (311, "ParrotSpeechModel", 191), (312, "ParrotSpeech", 125), (317, "ParrotSpeechModel", 196), (320, "ParrotSpeechModel", 132), (325, "ParrotSpeechModel", 199), (328, "ParrotSpeechModel", 201), (331, "ParrotSpeechModel", 202), (334, "ParrotSpeechModel", 160), (335, "java/lang/String", 228), (341, "ParrotSpeechModel", 210), (344, "ParrotSpeechModel", 212), (350, "ParrotSpeechModel", 215), (354, "ParrotSpeechModel", 218), (357, "ParrotSpeechModel", 220), (360, "ParrotSpeechModel", 219), (492, "java/lang/String", 229), (495, "java/lang/String", 231), (498, "java/lang/String", 234)]
def xmlp : List Nat := [433, 343, 1063, 354, 370, 1071, 362, 537, 860, 385, 377, 1152, 543, 392, 538, 1075, 681, 556, 396, 539, 1161, 381, 682, 565, 389, 540, 399, 1169, 541, 586, 412, 1185, 594, 529, 582, 422, 530, 1201, 666, 928, 494, 403, 1193, 673, 919, 464, 1264, 683, 564, 523, 1273, 688, 408, 624, 1277, 605, 700, 481, 1281, 620, 707, 811, 486, 1286, 711, 812, 628, 502, 1290, 347, 716, 816, 632, 1298, 511, 821, 724, 656, 825, 1302, 350, 609, 732, 525, 820, 1306, 358, 744, 612, 366, 829, 1310, 756, 616, 534, 1319, 760, 636, 1323, 774, 468, 547, 1335, 642, 791, 476, 548, 552, 646, 1347, 803, 1068, 560, 650, 1351, 490, 833, 497, 1371, 840, 569, 506, 1376, 662, 848, 1380, 852, 515, 573, 1384, 519, 861, 577, 1087, 1388, 875, 578, 472, 1092, 1396, 590, 888, 1117, 1405, 898, 1083, 1105, 1411, 598, 907, 601, 1419, 911, 1113, 665, 1423, 1125, 1137, 677, 1101, 687, 1109, 692, 1121, 696, 704, 1129, 1133, 715, 1140, 1144, 720, 1097, 728, 1079, 736, 1148, 740, 748, 752, 764, 1156, 1165, 778, 1363, 783, 1359, 795, 1355, 768, 1173, 799, 1177, 807, 1181, 1189, 837, 1198, 844, 1226, 856, 1230, 865, 1253, 868, 1242, 871, 1246, 879, 1249, 883, 892, 1261, 1222, 1234, 902, 1238, 1256, 1218, 1205, 915, 1210, 920, 1214, 924, 1269, 782, 1294, 787, 1315, 1332, 1328, 1339, 1343, 1367, 416, 1392, 1400, 1415, 1427, 1431, 1435, 426, 430, 441]
def xcn : List (Nat × String × Nat) := [(26, "ParrotSpeech$Reel", 100000), (27, "ParrotSpeech$Reel", 1000003), (28, "ParrotSpeech$Reel", 2000000), (264, "java/lang/Integer", 65536), (265, "java/lang/Integer", 1431655765), (266, "java/lang/Integer", 858993459), (267, "java/lang/Integer", 252645135), (347, "ParrotSpeechModel", 100000), (348, "ParrotSpeechModel", 1000003), (349, "ParrotSpeechModel", 2000000)]
def xcnp : List Nat := [887, 896, 897, 615, 771, 772, 773, 1404, 1409, 1410]
def xcg : List (Nat × String × Nat) := [(107, "ParrotSpeechModel", 255), (117, "ParrotSpeechModel", 97), (119, "ParrotSpeechModel", 122), (121, "ParrotSpeechModel", 48), (123, "ParrotSpeechModel", 57), (212, "ParrotSpeechModel", 106), (232, "ParrotSpeechModel", 9), (247, "ParrotSpeechModel", 5), (272, "ParrotSpeechModel", 4), (296, "ParrotSpeechModel", 60), (304, "ParrotSpeechModel", 12), (309, "ParrotSpeechModel", 3), (315, "ParrotSpeechModel", 15), (323, "ParrotSpeechModel", 20), (337, "ParrotSpeechModel", 10), (339, "ParrotSpeechModel", 2)]
def xcgp : List Nat := [1067, 1090, 1091, 1095, 1096, 1160, 1208, 1197, 1260, 1209, 1268, 1285, 1314, 1327, 1375, 1395]
def xmv : List (Nat × Nat) := [(1, 1), (2, 0), (3, 0), (4, 1), (5, 0), (6, 0), (7, 0), (8, 0), (9, 1), (11, 0), (12, 1), (13, 1), (14, 2), (15, 1), (16, 2), (18, 2), (19, 2), (20, 2), (21, 2), (22, 1), (24, 0), (25, 3), (26, 1), (28, 0), (29, 2), (30, 2), (32, 1), (33, 0), (34, 0), (35, 0), (36, 0), (37, 0), (38, 1), (39, 1), (40, 1), (41, 0), (42, 0), (47, 1), (48, 2), (49, 4), (50, 1), (51, 4), (52, 4), (53, 2), (55, 1), (56, 0), (57, 2), (58, 1), (59, 1), (60, 2), (61, 1), (62, 1), (63, 0), (64, 0), (65, 1), (66, 2), (67, 3), (68, 1), (69, 1), (70, 1), (71, 1), (72, 1), (73, 1), (74, 3), (75, 4), (76, 2), (77, 2), (78, 1), (80, 1), (81, 0), (82, 1), (83, 0), (84, 0), (85, 2), (86, 2), (87, 3), (88, 2), (89, 1), (90, 2), (91, 1), (92, 2), (93, 1), (94, 2), (95, 0), (96, 1), (97, 1), (98, 2), (99, 3), (100, 3), (101, 2), (102, 3), (103, 2), (104, 3), (105, 3), (106, 0), (107, 1), (108, 3), (109, 4), (110, 3), (111, 5), (112, 1), (113, 1), (115, 1), (116, 1), (121, 0), (122, 3), (123, 2), (124, 1), (125, 2), (126, 4), (128, 0), (133, 1), (134, 0), (137, 0), (138, 1), (139, 1), (140, 1), (141, 1), (142, 0), (143, 1), (144, 0), (145, 0), (146, 0), (147, 0), (148, 0), (149, 0), (150, 1), (151, 2), (152, 0), (153, 0), (154, 1), (155, 0), (156, 0), (157, 1), (158, 1), (159, 0), (160, 1), (165, 1), (166, 1), (168, 2), (169, 4), (170, 2), (171, 2), (172, 2), (173, 2), (174, 2), (175, 1), (176, 2), (177, 3), (178, 4), (179, 2), (180, 1), (181, 1), (182, 0), (183, 1), (184, 3), (185, 0), (186, 1), (187, 2), (188, 1), (189, 2), (190, 1), (191, 3), (192, 2), (193, 0), (194, 1), (195, 1), (196, 2), (197, 2), (198, 3), (199, 3), (200, 3), (201, 0), (202, 0), (203, 2), (204, 3), (205, 2), (206, 3), (207, 3), (208, 0), (209, 1), (211, 3), (212, 3), (213, 4), (214, 3), (215, 3), (216, 5), (217, 1), (218, 0), (219, 0), (220, 0), (221, 1), (226, 0), (227, 1), (228, 0), (229, 0)]
def xmvp : List (Nat × Nat × Nat × Nat) := [(80, 369, 367, 368), (80, 402, 401, 0), (80, 406, 405, 1), (80, 467, 466, 2), (80, 489, 488, 4), (80, 505, 504, 5), (80, 514, 513, 6), (80, 528, 527, 7), (80, 471, 470, 3), (84, 551, 549, 550), (84, 680, 678, 679), (84, 723, 721, 722), (84, 731, 729, 730), (84, 739, 737, 738), (84, 743, 741, 742), (86, 874, 872, 873), (86, 882, 880, 881), (86, 905, 903, 904), (86, 886, 884, 885), (86, 895, 893, 894), (85, 555, 553, 554), (85, 847, 845, 846), (85, 859, 857, 858), (83, 623, 621, 622), (83, 649, 647, 648), (83, 755, 753, 754), (79, 353, 351, 352), (79, 361, 359, 360), (79, 380, 378, 379), (79, 384, 382, 383), (79, 388, 386, 387), (79, 395, 393, 394), (79, 533, 531, 532), (79, 411, 409, 410), (79, 475, 473, 474), (79, 509, 507, 508), (79, 493, 491, 492), (82, 563, 561, 562), (82, 810, 808, 809), (82, 815, 814, 24), (82, 819, 818, 25), (82, 824, 823, 26), (82, 828, 827, 27), (82, 832, 831, 28), (81, 373, 371, 372), (81, 484, 482, 483), (81, 479, 477, 478), (81, 500, 498, 499), (81, 576, 574, 575), (81, 585, 583, 584), (81, 699, 697, 698), (81, 581, 579, 580), (81, 927, 925, 926), (81, 918, 916, 917), (81, 518, 516, 517), (81, 522, 520, 521), (81, 619, 617, 618), (81, 695, 693, 694), (81, 798, 796, 797), (81, 604, 602, 603), (81, 608, 607, 10), (81, 627, 626, 11), (81, 631, 630, 12), (81, 635, 634, 13), (81, 639, 638, 14), (81, 645, 644, 15), (81, 653, 652, 16), (81, 659, 658, 17), (78, 346, 344, 345), (78, 357, 355, 356), (78, 365, 363, 364), (78, 546, 544, 545), (78, 559, 557, 558), (78, 568, 566, 567), (78, 589, 587, 588), (78, 597, 595, 596), (78, 669, 667, 668), (78, 676, 674, 675), (78, 686, 684, 685), (78, 691, 689, 690), (78, 703, 701, 702), (78, 710, 708, 709), (78, 714, 712, 713), (78, 719, 717, 718), (78, 727, 725, 726), (78, 735, 733, 734), (78, 747, 745, 746), (78, 759, 757, 758), (78, 763, 761, 762), (78, 777, 775, 776), (78, 794, 792, 793), (78, 806, 804, 805), (78, 836, 834, 835), (78, 843, 841, 842), (78, 851, 849, 850), (78, 855, 853, 854), (78, 864, 862, 863), (78, 878, 876, 877), (78, 891, 889, 890), (78, 901, 899, 900), (78, 910, 908, 909), (78, 914, 912, 913), (78, 572, 571, 8), (78, 593, 592, 9), (78, 751, 750, 18), (78, 767, 766, 19), (78, 781, 780, 20), (78, 786, 785, 21), (78, 790, 789, 22), (78, 802, 801, 23), (78, 923, 922, 29), (87, 1066, 1064, 1065), (87, 1074, 1072, 1073), (87, 1086, 1085, 31), (87, 1108, 1107, 34), (87, 1120, 1119, 37), (87, 1116, 1115, 36), (87, 1128, 1127, 39), (87, 1104, 1103, 33), (87, 1112, 1111, 35), (87, 1124, 1123, 38), (87, 1136, 1135, 41), (87, 1143, 1142, 42), (87, 1147, 1146, 43), (87, 1132, 1131, 40), (87, 1100, 1099, 32), (87, 1082, 1081, 30), (87, 1151, 1150, 44), (87, 1078, 1076, 1077), (87, 1159, 1158, 45), (87, 1155, 1153, 1154), (87, 1168, 1167, 46), (87, 1164, 1162, 1163), (87, 1366, 1365, 70), (87, 1362, 1361, 69), (87, 1358, 1357, 68), (87, 1370, 1369, 71), (87, 1176, 1175, 47), (87, 1192, 1191, 50), (87, 1229, 1228, 55), (87, 1233, 1232, 56), (87, 1180, 1179, 48), (87, 1184, 1183, 49), (87, 1172, 1170, 1171), (87, 1188, 1186, 1187), (87, 1196, 1194, 1195), (87, 1225, 1224, 54), (87, 1237, 1236, 57), (87, 1245, 1244, 59), (87, 1252, 1251, 60), (87, 1241, 1240, 58), (87, 1259, 1258, 61), (87, 1221, 1220, 53), (87, 1213, 1212, 51), (87, 1217, 1216, 52), (87, 1204, 1202, 1203), (87, 1272, 1271, 62), (87, 1267, 1265, 1266), (87, 1276, 1274, 1275), (87, 1280, 1278, 1279), (87, 1284, 1282, 1283), (87, 1289, 1287, 1288), (87, 1297, 1296, 63), (87, 1293, 1291, 1292), (87, 1301, 1299, 1300), (87, 1305, 1303, 1304), (87, 1309, 1307, 1308), (87, 1318, 1317, 64), (87, 1313, 1311, 1312), (87, 1322, 1320, 1321), (87, 1331, 1330, 65), (87, 1326, 1324, 1325), (87, 1342, 1341, 66), (87, 1346, 1345, 67), (87, 1338, 1336, 1337), (87, 1350, 1348, 1349), (87, 1354, 1352, 1353), (87, 1374, 1372, 1373), (87, 1379, 1377, 1378), (87, 1383, 1381, 1382), (87, 1387, 1385, 1386), (87, 1391, 1389, 1390), (87, 1403, 1402, 72), (87, 1399, 1397, 1398), (87, 1408, 1406, 1407), (87, 1418, 1417, 73), (87, 1414, 1412, 1413), (87, 1422, 1420, 1421), (87, 1430, 1429, 74), (87, 1438, 1437, 76), (87, 1434, 1433, 75), (87, 1426, 1424, 1425), (90, 415, 413, 414), (90, 425, 423, 424), (90, 419, 417, 418), (90, 429, 427, 428)]
def xms : List (Nat × Nat) := [(43, 1), (44, 1), (46, 1), (114, 3), (117, 1), (118, 1), (119, 1), (120, 1), (127, 2), (130, 3), (131, 2), (132, 1), (135, 1), (136, 1), (161, 1), (162, 1), (163, 1), (164, 1), (167, 1), (210, 1), (222, 1), (223, 1), (224, 2), (225, 2), (230, 2), (231, 2), (234, 2)]
def xmsp : List (Nat × Nat × Nat) := [(79, 496, 495), (79, 398, 397), (82, 536, 535), (78, 349, 348), (78, 600, 599), (78, 706, 705), (78, 867, 866), (78, 870, 869), (78, 839, 838), (87, 1070, 1069), (87, 1139, 1138), (87, 1334, 1333), (87, 1089, 1088), (87, 1094, 1093), (87, 1255, 1254), (87, 1200, 1199), (87, 1248, 1247), (87, 1263, 1262), (87, 1207, 1206), (87, 1394, 1393), (94, 614, 613), (94, 770, 769), (89, 664, 663), (89, 391, 390), (90, 435, 434), (91, 432, 431), (93, 443, 442)]
end
section
/-! ===== the engine: a method's walk over the layout, as a weakest precondition ===== -/
/-- launch, addresses of the cells, classes and slots, array classes, static rows, String constants and their bytes, the script -/
abbrev xG : Type := Launch × (Nat → Nat) × va_G × (Nat → ClassId) × (Nat → Nat) × (Nat → Nat) × (Nat → Nat) × (Nat × Nat × (Nat → Int32))
abbrev xG.l (Γ : xG) : Launch := Γ.1
abbrev xG.r (Γ : xG) : Nat → Nat := Γ.2.1
abbrev xG.d (Γ : xG) : va_G := Γ.2.2.1
abbrev xG.c (Γ : xG) : Nat → ClassId := Γ.2.2.2.1
abbrev xG.t (Γ : xG) : Nat → Nat := Γ.2.2.2.2.1
abbrev xG.k (Γ : xG) : Nat → Nat := Γ.2.2.2.2.2.1
abbrev xG.v (Γ : xG) : Nat → Nat := Γ.2.2.2.2.2.2.1
abbrev xG.s (Γ : xG) : Nat × Nat × (Nat → Int32) := Γ.2.2.2.2.2.2.2
def xfR (c j w : Nat) : Option (Nat × Nat × Nat) := match (xfr.getD c []).getD j none with
  | none => none
  | some (s, k, o, true) => some (s, k, w + o)
  | some (s, k, o, false) => some (s, k, o)
def xnf (c : Nat) : Nat := (xfr.getD c []).length
def xup (D : xM) (i j : Nat) (v : Int32) : xM := fun a b => if a = i ∧ b = j then v else D a b
def xad (Γ : xG) (s k i : Nat) : Nat := match s with
  | 4 => Γ.t k
  | 5 => Γ.k k
  | 7 => Γ.v k
  | 8 => Γ.s.1
  | _ => Γ.r i
def xcv (Γ : xG) (v : xV) : Value := match v with
  | .inl x => .int x
  | .inr (.inl x) => .long x
  | .inr (.inr (s, k, i)) => .ref (xad Γ s k i)
/-- a reference that is one -/
def xvr (s k i : Nat) : Prop := match s with
  | 4 => 1 ≤ k ∧ k ≤ 5
  | 5 => k < 10
  | 7 => k < 10
  | 8 => True
  | s => s ≤ 6 ∧ xkd[i]? = some (s, k)
def xvv (v : xV) : Prop := match v with
  | .inr (.inr (s, k, i)) => xvr s k i
  | _ => True
def xfv (D : xM) (c i j : Nat) : xV := match xfR c j i with
  | some (s, k, w) => .inr (.inr (s, k, w))
  | none => .inl (D i j)
def xelB (k j : Nat) : Nat := match k with
  | 8 => xB0 + 6 * j
  | _ => xK0 + 6 * j
def xce (Γ : xG) (D : xM) (i : Nat) (q : Nat × Nat) : va_E := match q.1 with
  | 0 => .inr (q.2, (List.range (xnf q.2)).map (fun j => xcv Γ (xfv D q.2 i j)))
  | 1 => .inl (Γ.c 0, q.2, .inl (D i))
  | 2 => .inl (Γ.c 1, q.2, .inl (D i))
  | 3 => .inl (Γ.c 2, q.2, .inr (.inr (.inr (.inr (fun j => some (Γ.r (xelB q.2 j)))))))
  | _ => .inl (Γ.c 3, q.2, .inr (.inr (.inr (.inr (fun j => some (Γ.r (xR0 + 2 * j)))))))
def xws (Γ : xG) (D : xM) : va_W := (List.range xNC).map (fun i => (Γ.r i, xce Γ D i (xkd.getD i (0, 0))))
def xA (Γ : xG) : Nat → Prop := fun q => ∃ i, i < xNC ∧ q = Γ.r i
def xH (Γ : xG) (D : xM) (H : Heap) : Prop := va_P Γ.d vwCl (xws Γ D) H
abbrev xty (Γ : xG) : List (ClassId × FieldType) := [(Γ.c 0, .int), (Γ.c 1, .boolean), (Γ.c 2, .object RX7), (Γ.c 3, .object RX2)]
/-- what holds of a state, beside the cells -/
def xS (Γ : xG) (s : State) : Prop := va_K Γ.d vwCl (xty Γ) s ∧ (∀ i j, i < xNC → j < xNC → Γ.r i = Γ.r j → i = j) ∧
  (∀ k, 1 ≤ k → k ≤ 5 → va_Z "ParrotSpeech" (xsn k) "[I" (.ref (Γ.t k)) (xA Γ) s s.heap ∧ va_T .int (Γ.t k) 5 (fun j => .int (xtv k j)) (xA Γ) s s.heap) ∧
  (∀ k, k < 10 → vk_R "ParrotSpeech$HarbourReader" (xsp k) (xsx k) (Γ.k k) s) ∧ vk_S 10 xsl xsb Γ.k Γ.v (xA Γ) s s.heap ∧
  va_Z "java/lang/String" "COMPACT_STRINGS" "Z" (.int 1) (xA Γ) s s.heap ∧ (va_X Γ.s.1 Γ.s.2.1 Γ.s.2.2 s s.heap ∧ Γ.s.1 < s.heap.size ∧ ¬ xA Γ Γ.s.1 ∧ ∀ q ∈ xnst, va_Nw (.fieldLinkNest "ParrotSpeech$World" q.1 "ParrotSpeech" q.2 "[I" "ParrotSpeech") s)
theorem xS.warm {Γ : xG} {s U : State} (h : xS Γ s) (hW : s.WarmedH U.vm) (hz : s.heap.size ≤ U.heap.size) (hq : ∀ a : Nat, a < s.heap.size → ¬ xA Γ a → U.heap[a]? = s.heap[a]?) : xS Γ U := by
  obtain ⟨h1, h2, h3, h4, h5, h6, h7, h8, h9, h10⟩ := h
  have hv := hW.alike
  exact ⟨va_K.moved hv h1, h2, fun k a b => ⟨va_Z.moved hv ((h3 k a b).1.kept hq), va_T.moved hv ((h3 k a b).2.kept hq)⟩, fun k a => (h4 k a).warm hW, vk_S.moved hv (h5.kept hq), va_Z.moved hv (h6.kept hq), va_X.moved hv (h7.kept (hq _ h8 h9)), Nat.lt_of_lt_of_le h8 hz, h9, fun q m => va_Nw.warmF hW (h10 q m)⟩
theorem xS.same {Γ : xG} {s U : State} (h : xS Γ s) (hv : U.vm = s.vm) (hh : U.heap = s.heap) : xS Γ U := by
  obtain ⟨h1, h2, h3, h4, h5, h6, h7, h8, h9, h10⟩ := h
  have ha : s.vm.Alike U.vm := by rw [hv]; exact Vm.Alike.refl _
  rw [xS, hh]
  exact ⟨va_K.moved ha h1, h2, fun k a b => ⟨va_Z.moved ha (h3 k a b).1, va_T.moved ha (h3 k a b).2⟩, fun k a => (h4 k a).same hv, vk_S.moved ha h5, va_Z.moved ha h6, va_X.moved ha h7, h8, h9, fun q m => va_Nw.same rfl hv.symm (h10 q m)⟩
/-- the tables' words that travel to a callee -/
def xtb : List Cond := lw_tbl.filter goodWord
theorem xtb_good {w : Cond} (h : w ∈ xtb) : (w.onTables && w.keeps) = true ∨ ∃ ty, w = .arrayClass ty := good_of_word (List.mem_filter.mp h).2
def xin (w : Cond) : Bool := decide (w ∈ lw_tbl) && goodWord w
theorem xin_mem {w : Cond} (h : xin w = true) : w ∈ xtb := by
  rw [xin, Bool.and_eq_true, decide_eq_true_eq] at h
  exact List.mem_filter.mpr h
def xnum (n : Int) : Int32 := match n with
  | .ofNat k => Int32.ofNat k
  | .negSucc k => -(Int32.ofNat (k + 1))
/-- the word of a method's code, as a caller needs it -/
def xcd (h : xHd) : Cond := .code h.1 h.2.1 h.2.2.1 h.2.2.2
/-- a word of the tables, by its place -/
def xat (p : Nat) (w : Cond) : Bool := (match lw_tbl[p]? with
  | some v => decide (v = w)
  | none => false) && goodWord w
theorem xat_mem {p : Nat} {w : Cond} (h : xat p w = true) : w ∈ xtb := by
  rw [xat, Bool.and_eq_true] at h
  obtain ⟨h1, h2⟩ := h
  split at h1
  · rename_i v hv
    have e : v = w := of_decide_eq_true h1
    subst e
    exact List.mem_filter.mpr ⟨List.mem_of_getElem? hv, h2⟩
  · cases h1
theorem xzip {α β : Type} : ∀ {l : List α} {p : List β} {q : α}, Nat.ble l.length p.length = true → q ∈ l → ∃ r, (q, r) ∈ l.zip p
  | [], _, _, _, h => by cases h
  | _ :: _, [], _, hl, _ => by cases hl
  | a :: l, b :: p, q, hl, h => by
    rcases List.mem_cons.mp h with e | e
    · subst e; exact ⟨b, List.mem_cons_self⟩
    · have hl2 : Nat.ble l.length p.length = true := hl
      obtain ⟨r, hr⟩ := xzip hl2 e
      exact ⟨r, List.mem_cons_of_mem _ hr⟩
def xflB (z : (Nat × String × Nat × Nat) × Nat) : Bool := match vwCl[z.1.2.2.1]? with
  | some (_, T, N) => decide (N = xnf z.1.2.2.1) && decide (z.1.2.2.2 < N) && xat z.2 (.fieldLink z.1.2.1 z.1.1 (T z.1.2.2.2).1 (T z.1.2.2.2).2.1 (T z.1.2.2.2).2.2.1)
  | none => false
theorem xfl_ok : (xfl.zip xflp).all xflB = true := by decide +kernel
def xplB (z : (Nat × String × Nat × Nat) × Nat) : Bool := match vwCl[z.1.2.2.1]? with
  | some (_, T, N) => (if z.1.2.2.2 < 100 then decide (N = xnf z.1.2.2.1) && decide (z.1.2.2.2 < N) && decide ((T z.1.2.2.2).2.2.2 = false) && decide (parseFieldDescriptor (T z.1.2.2.2).2.2.1 = some .int) && xat z.2 (.fieldLink z.1.2.1 z.1.1 (T z.1.2.2.2).1 (T z.1.2.2.2).2.1 (T z.1.2.2.2).2.2.1) else decide (N = xnf z.1.2.2.1) && decide (z.1.2.2.2 - 100 < N) && decide ((T (z.1.2.2.2 - 100)).2.2.2 = false) && decide (parseFieldDescriptor (T (z.1.2.2.2 - 100)).2.2.1 = some .boolean) && xat z.2 (.fieldLink z.1.2.1 z.1.1 (T (z.1.2.2.2 - 100)).1 (T (z.1.2.2.2 - 100)).2.1 (T (z.1.2.2.2 - 100)).2.2.1))
  | none => false
theorem xpl_ok : (xpl.zip xplp).all xplB = true := by decide +kernel
def xmlB (z : (Nat × String × Nat) × Nat) : Bool := match xsg[z.1.2.2]? with
  | some g => xat z.2 (.methodLink z.1.2.1 z.1.1 g.1)
  | none => false
theorem xml_ok : (xml.zip xmlp).all xmlB = true := by decide +kernel
def xcall (b : Nat) (h : xHd) : Bool :=
  decide (h.1.cls ≠ "java/lang/invoke/MethodHandle" ∧ h.1.cls ≠ "java/lang/invoke/VarHandle") && decide ((parseMethodDescriptor h.1.desc).map (fun d => d.parameters.length) = some b) && decide (h.2.2.1 ≤ 40)
def xmvB (z : (Nat × Nat) × (Nat × Nat × Nat × Nat)) : Bool := match xsg[z.1.1]? with
  | some g => xcall z.1.2 g && xat z.2.1 (.initialized g.1.cls) && xat z.2.2.2.1 (.instanceMethod g.1) && xat z.2.2.2.2 (.selects g.1.cls g.1 g.1)
  | none => false
theorem xmv_ok : (xmv.zip xmvp).all xmvB = true := by decide +kernel
set_option maxRecDepth 1000000 in
theorem xmv_c : ((xmv.zip xmvp).map fun z => lw_tbl[z.2.2.1]?) = ((xmv.zip xmvp).map fun z => (xsg[z.1.1]?).map xcd) := by rfl
def xmsB (z : (Nat × Nat) × (Nat × Nat × Nat)) : Bool := match xsg[z.1.1]? with
  | some g => xcall z.1.2 g && xat z.2.1 (.initialized g.1.cls) && xat z.2.2.2 (.static g.1)
  | none => false
theorem xms_ok : (xms.zip xmsp).all xmsB = true := by decide +kernel
set_option maxRecDepth 1000000 in
theorem xms_c : ((xms.zip xmsp).map fun z => lw_tbl[z.2.2.1]?) = ((xms.zip xmsp).map fun z => (xsg[z.1.1]?).map xcd) := by rfl
theorem xcn_ok : (xcn.zip xcnp).all (fun z => xat z.2 (.constant z.1.2.1 z.1.1 (Int32.ofNat z.1.2.2))) = true := by decide +kernel
theorem xcg_ok : (xcg.zip xcgp).all (fun z => xat z.2 (.constantLong z.1.2.1 z.1.1 (Int64.ofNat z.1.2.2))) = true := by decide +kernel
theorem xcd_in {g : xHd} {p : Nat} (h : lw_tbl[p]? = some (xcd g)) : xcd g ∈ xtb := List.mem_filter.mpr ⟨List.mem_of_getElem? h, rfl⟩
theorem xmapz {α β γ : Type} {l : List (α × β)} {f g : α × β → γ} (h : l.map f = l.map g) : ∀ z ∈ l, f z = g z := by
  intro z hz
  induction l with
  | nil => cases hz
  | cons a l ih =>
    rw [List.map_cons, List.map_cons, List.cons.injEq] at h
    rcases List.mem_cons.mp hz with e | e
    · rw [e]; exact h.1
    · exact ih h.2 e
/-- what a row must be for its step -/
def xok (h : xHd) (r : xRow) : Bool := decide (decode h.2.1 r.1 = .ok (r.2.1, r.2.2.1)) && match r.2.1 with
  | .iconst n => decide (Int32.ofInt n = xnum n)
  | .bipush n => decide ((Int8.ofInt n).toInt32 = xnum n)
  | .sipush n => decide ((Int16.ofInt n).toInt32 = xnum n)
  | .iinc _ n => decide (Int32.ofInt n = xnum n)
  | .goto off => decide ((r.1 : Int) + off = (r.2.2.2.1 : Int))
  | .if_icmp _ off => decide ((r.1 : Int) + off = (r.2.2.2.1 : Int))
  | .ifCond _ off => decide ((r.1 : Int) + off = (r.2.2.2.1 : Int))
  | .getfield idx => if r.2.2.2.1 = 10 then (if r.2.2.2.2 = 0 then xin (.fieldLink h.1.cls idx "java/lang/String" "value" "[B") else decide (r.2.2.2.2 = 1) && xin (.fieldLink h.1.cls idx "java/lang/String" "coder" "B")) else decide ((idx, h.1.cls, r.2.2.2.1, r.2.2.2.2) ∈ xfl)
  | .putfield idx => decide ((idx, h.1.cls, r.2.2.2.1, r.2.2.2.2) ∈ xpl)
  | .getstatic idx => if r.2.2.2.1 = 0 then xin (.fieldLink h.1.cls idx "java/lang/String" "COMPACT_STRINGS" "Z") else decide (r.2.2.2.1 ≤ 5) && (if r.2.2.2.2 = 0 then xin (.fieldLink h.1.cls idx "ParrotSpeech" (xsn r.2.2.2.1) "[I") else decide (h.1.cls = "ParrotSpeech$World") && decide ((idx, xsn r.2.2.2.1) ∈ xnst))
  | .ldc idx => if r.2.2.2.2 = 0 then decide ((idx, h.1.cls, r.2.2.2.1) ∈ xcn) else decide (r.2.2.2.1 < 10) && decide (h.1.cls = "ParrotSpeech$HarbourReader") && decide (xsp r.2.2.2.1 = idx)
  | .ldc_w idx => decide ((idx, h.1.cls, r.2.2.2.1) ∈ xcn)
  | .ldc2_w idx => decide ((idx, h.1.cls, r.2.2.2.1) ∈ xcg)
  | .invokevirtual idx => decide ((idx, h.1.cls, r.2.2.2.1) ∈ xml) && decide ((r.2.2.2.1, r.2.2.2.2) ∈ xmv)
  | .invokestatic idx => if r.2.2.2.1 = 1000 then xin (.methodLink h.1.cls idx arraycopyName) && xin (.native arraycopyName) && xin (.static arraycopyName) && xin (.initialized "java/lang/System") else decide ((idx, h.1.cls, r.2.2.2.1) ∈ xml) && decide ((r.2.2.2.1, r.2.2.2.2) ∈ xms)
  | _ => true
def xck (h : xHd) (rows : List xRow) : Bool := decide (h.2.2.1 ≤ 40) && rows.all (xok h)
abbrev xSt : Type := Nat × List (Option xV) × List xV × xM
/-- locals without longs: a store there takes nothing else away -/
def xnl : List (Option xV) → Bool
  | [] => true
  | some (.inr (.inl _)) :: _ => false
  | _ :: r => xnl r
def xldi (lv : List (Option xV)) (i pc : Nat) (st : List xV) (D : xM) : Option xSt := match lv[i]? with
  | some (some (.inl x)) => some (pc, lv, .inl x :: st, D)
  | _ => none
def xldl (lv : List (Option xV)) (i pc : Nat) (st : List xV) (D : xM) : Option xSt := match lv[i]? with
  | some (some (.inr (.inl x))) => some (pc, lv, .inr (.inl x) :: st, D)
  | _ => none
def xlda (lv : List (Option xV)) (i pc : Nat) (st : List xV) (D : xM) : Option xSt := match lv[i]? with
  | some (some (.inr (.inr q))) => some (pc, lv, .inr (.inr q) :: st, D)
  | _ => none
def xsto (lv : List (Option xV)) (i pc : Nat) (v : xV) (st : List xV) (D : xM) : Option xSt := match xnl lv, Nat.blt i lv.length with
  | true, true => some (pc, lv.set i (some v), st, D)
  | _, _ => none
def xgf (a b pc : Nat) (lv : List (Option xV)) (s k i : Nat) (st : List xV) (D : xM) : Option xSt := match s with
  | 0 => match Nat.beq k a, Nat.beq a 10, Nat.blt b (xnf k) with
    | true, false, true => match xfR k b i with
      | some q => some (pc, lv, .inr (.inr q) :: st, D)
      | none => some (pc, lv, .inl (D i b) :: st, D)
    | _, _, _ => none
  | 5 => match Nat.beq a 10, b with
    | true, 0 => some (pc, lv, .inr (.inr (7, k, 0)) :: st, D)
    | true, 1 => some (pc, lv, .inl 0 :: st, D)
    | _, _ => none
  | _ => none
def xpf (a b pc : Nat) (lv : List (Option xV)) (s k i : Nat) (x : Int32) (st : List xV) (D : xM) : Option xSt := match s with
  | 0 => match Nat.beq k a, Nat.blt b 100, Nat.blt b (xnf k), xfR k b i with
    | true, true, true, none => some (pc, lv, st, xup D i b x)
    | _, _, _, _ => none
  | _ => none
def xal (pc : Nat) (lv : List (Option xV)) (s k : Nat) (st : List xV) (D : xM) : Option xSt := match s with
  | 1 => some (pc, lv, .inl (Int32.ofNat k) :: st, D)
  | 7 => some (pc, lv, .inl (Int32.ofNat (xsl.getD k 0)) :: st, D)
  | _ => none
/-- one simple step -/
def xs1 (i : Instr) (len a b pc : Nat) (lv : List (Option xV)) (st : List xV) (D : xM) : Option xSt := match i, len, st with
  | .iconst n, 1, st => some (pc + 1, lv, .inl (xnum n) :: st, D)
  | .bipush n, 2, st => some (pc + 2, lv, .inl (xnum n) :: st, D)
  | .sipush n, 3, st => some (pc + 3, lv, .inl (xnum n) :: st, D)
  | .lconst k, 1, st => some (pc + 1, lv, .inr (.inl (Int64.ofNat k.val)) :: st, D)
  | .iload_n k, 1, st => xldi lv k.val (pc + 1) st D
  | .iload k, 2, st => xldi lv k (pc + 2) st D
  | .aload_n k, 1, st => xlda lv k.val (pc + 1) st D
  | .aload k, 2, st => xlda lv k (pc + 2) st D
  | .lload_n k, 1, st => xldl lv k.val (pc + 1) st D
  | .lload k, 2, st => xldl lv k (pc + 2) st D
  | .istore_n k, 1, .inl x :: st => xsto lv k.val (pc + 1) (.inl x) st D
  | .istore k, 2, .inl x :: st => xsto lv k (pc + 2) (.inl x) st D
  | .astore_n k, 1, .inr (.inr q) :: st => xsto lv k.val (pc + 1) (.inr (.inr q)) st D
  | .astore k, 2, .inr (.inr q) :: st => xsto lv k (pc + 2) (.inr (.inr q)) st D
  | .iinc k n, 3, st => match lv[k]? with
    | some (some (.inl x)) => xsto lv k (pc + 3) (.inl (x + xnum n)) st D
    | _ => none
  | .iadd, 1, .inl y :: .inl x :: st => some (pc + 1, lv, .inl (x + y) :: st, D)
  | .isub, 1, .inl y :: .inl x :: st => some (pc + 1, lv, .inl (x - y) :: st, D)
  | .imul, 1, .inl y :: .inl x :: st => some (pc + 1, lv, .inl (x * y) :: st, D)
  | .iand, 1, .inl y :: .inl x :: st => some (pc + 1, lv, .inl (x &&& y) :: st, D)
  | .ior, 1, .inl y :: .inl x :: st => some (pc + 1, lv, .inl (x ||| y) :: st, D)
  | .ixor, 1, .inl y :: .inl x :: st => some (pc + 1, lv, .inl (x ^^^ y) :: st, D)
  | .ishl, 1, .inl y :: .inl x :: st => some (pc + 1, lv, .inl (x <<< (y &&& 31)) :: st, D)
  | .ishr, 1, .inl y :: .inl x :: st => some (pc + 1, lv, .inl (x >>> (y &&& 31)) :: st, D)
  | .iushr, 1, .inl y :: .inl x :: st => some (pc + 1, lv, .inl ((x.toUInt32 >>> (y.toUInt32 &&& Int32.toUInt32 31)).toInt32) :: st, D)
  | .ineg, 1, .inl x :: st => some (pc + 1, lv, .inl (-x) :: st, D)
  | .i2l, 1, .inl x :: st => some (pc + 1, lv, .inr (.inl x.toInt64) :: st, D)
  | .i2b, 1, .inl x :: st => some (pc + 1, lv, .inl x.toInt8.toInt32 :: st, D)
  | .i2s, 1, .inl x :: st => some (pc + 1, lv, .inl x.toInt16.toInt32 :: st, D)
  | .i2c, 1, .inl x :: st => some (pc + 1, lv, .inl (x.toUInt32 % 65536).toInt32 :: st, D)
  | .ladd, 1, .inr (.inl y) :: .inr (.inl x) :: st => some (pc + 1, lv, .inr (.inl (x + y)) :: st, D)
  | .lcmp, 1, .inr (.inl y) :: .inr (.inl x) :: st => some (pc + 1, lv, .inl (lg_cmp x y) :: st, D)
  | .dup, 1, .inl x :: st => some (pc + 1, lv, .inl x :: .inl x :: st, D)
  | .dup, 1, .inr (.inr x) :: st => some (pc + 1, lv, .inr (.inr x) :: .inr (.inr x) :: st, D)
  | .dup2, 1, .inl y :: .inr (.inr x) :: st => some (pc + 1, lv, .inl y :: .inr (.inr x) :: .inl y :: .inr (.inr x) :: st, D)
  | .dup2, 1, .inl y :: .inl x :: st => some (pc + 1, lv, .inl y :: .inl x :: .inl y :: .inl x :: st, D)
  | .pop, 1, .inl _ :: st => some (pc + 1, lv, st, D)
  | .getfield _, 3, .inr (.inr (s, k, i)) :: st => xgf a b (pc + 3) lv s k i st D
  | .putfield _, 3, .inl x :: .inr (.inr (s, k, i)) :: st => xpf a b (pc + 3) lv s k i x st D
  | .getstatic _, 3, st => match a with
    | 0 => some (pc + 3, lv, .inl 1 :: st, D)
    | a + 1 => some (pc + 3, lv, .inr (.inr (4, a + 1, 0)) :: st, D)
  | .ldc _, 2, st => match b with
    | 0 => some (pc + 2, lv, .inl (Int32.ofNat a) :: st, D)
    | _ => some (pc + 2, lv, .inr (.inr (5, a, 0)) :: st, D)
  | .ldc_w _, 3, st => some (pc + 3, lv, .inl (Int32.ofNat a) :: st, D)
  | .ldc2_w _, 3, st => some (pc + 3, lv, .inr (.inl (Int64.ofNat a)) :: st, D)
  | .arraylength, 1, .inr (.inr (s, k, _)) :: st => xal (pc + 1) lv s k st D
  | _, _, _ => none
def xrw : List xRow → Nat → Option (Instr × Nat × Nat × Nat)
  | [], _ => none
  | r :: rs, pc => match Nat.beq r.1 pc with
    | true => some r.2
    | false => xrw rs pc
/-- simple steps, until one isn't, or the place is come to -/
def xrun (rows : List xRow) (stop : Nat) : Nat → Nat → List (Option xV) → List xV → xM → Option xSt
  | 0, pc, lv, st, D => some (pc, lv, st, D)
  | f + 1, pc, lv, st, D => match Nat.beq pc stop with
    | true => some (pc, lv, st, D)
    | false => match xrw rows pc with
      | some (i, len, a, b) => match xs1 i len a b pc lv st D with
        | some (pc', lv', st', D') => xrun rows stop f pc' lv' st' D'
        | none => some (pc, lv, st, D)
      | none => some (pc, lv, st, D)
/-- how a method may end -/
def xrt (h : xHd) (pc : Nat) (v : Option Int32) : Prop := match v with
  | none => h.2.2.2 = none ∧ decode h.2.1 pc = .ok (.return_, 1)
  | some x => ∃ ty, h.2.2.2 = some ty ∧ narrow ty (.int x) = .int x ∧ decode h.2.1 pc = .ok (.ireturn, 1)
def xC (Γ : xG) (n : Nat) (h : xHd) (rows : List xRow) (p : Program) (R : Room) (s : State) (m : MethodId) (args : Array Value) (meth : Method) (c : Code) (cells slots : Nat) : Prop :=
  p.tables.exec = Jvm.exec ∧ c.code = h.2.1 ∧ c.maxLocals = h.2.2.1 ∧ meth.sig.returnType = h.2.2.2 ∧ meth.locks = false ∧ s.vm.findClass h.1.cls = some m.cls ∧ (∀ w ∈ xtb, w.before args s = true) ∧ xS Γ s ∧ xck h rows = true ∧ n ≤ R.frames ∧ 64 * n ≤ R.locals ∧ cells ≤ R.cells ∧ slots ≤ R.slots
def xlh (Γ : xG) (h : xHd) (ls : Array Slot) (lv : List (Option xV)) : Prop := ls.size = h.2.2.1 ∧ lv_wf ls ∧ (∀ (i : Nat) (v : xV), lv[i]? = some (some v) → xvv v ∧ ls[i]? = some (.val (xcv Γ v))) ∧ lv.length ≤ h.2.2.1
/-- the walk: from here on the method comes to its end with post -/
def xW (Γ : xG) (n : Nat) (h : xHd) (rows : List xRow) (pc : Nat) (lv : List (Option xV)) (st : List xV) (D : xM) (post : Option Int32 → xM → Prop) : Prop :=
  ∀ (p : Program) (e : Env) (R : Room) (s : State) (m : MethodId) (args : Array Value) (below : List Frame) (meth : Method) (c : Code) (H : Heap) (locs : List Loc) (cells slots : Nat) (Q : State → Prop) (ls : Array Slot),
    xC Γ n h rows p R s m args meth c cells slots → xH Γ D H → va_S (xA Γ) s.heap H locs → xlh Γ h ls lv → (∀ v ∈ st, xvv v) →
    (∀ (v : Option Int32) (D' : xM) (H' : Heap) (locs' : List Loc) (pc' : Nat) (ls' : Array Slot), post v D' → xH Γ D' H' → va_S (xA Γ) s.heap H' locs' → xrt h pc' v → W p Γ.l e R s m args below meth c H' locs' cells slots Q (F0 m pc' ls' (v.toList.map Value.int))) →
    W p Γ.l e R s m args below meth c H locs cells slots Q (F0 m pc ls (st.map (xcv Γ)))
theorem xrw_mem : ∀ {rows : List xRow} {pc : Nat} {q : Instr × Nat × Nat × Nat}, xrw rows pc = some q → (pc, q) ∈ rows
  | [], _, _, h => by cases h
  | r :: rs, pc, q, h => by
    rw [xrw] at h
    split at h
    · rename_i hb
      have e : r.1 = pc := Nat.eq_of_beq_eq_true hb
      have e2 : r.2 = q := Option.some.inj h
      have : r = (pc, q) := by rw [← e, ← e2]
      rw [← this]
      exact List.mem_cons_self
    · exact List.mem_cons_of_mem _ (xrw_mem h)
theorem xck_row {h : xHd} {rows : List xRow} (hk : xck h rows = true) {pc : Nat} {i : Instr} {len a b : Nat} (hr : xrw rows pc = some (i, len, a, b)) : xok h (pc, i, len, a, b) = true := by
  rw [xck, Bool.and_eq_true] at hk
  exact List.all_eq_true.mp hk.2 _ (xrw_mem hr)
theorem xok_dec {h : xHd} {r : xRow} (hk : xok h r = true) : decode h.2.1 r.1 = .ok (r.2.1, r.2.2.1) := by
  rw [xok, Bool.and_eq_true, decide_eq_true_eq] at hk
  exact hk.1
end
section
theorem xlh_sto {Γ : xG} {h : xHd} {ls : Array Slot} {lv : List (Option xV)} (hl : xlh Γ h ls lv) (hnl : xnl lv = true) {i : Nat} (hi : i < lv.length) {v : xV} (hv : xvv v) (hc : (xcv Γ v).category = 1) :
    ∃ ls', storeLocals ls i (xcv Γ v) = some ls' ∧ xlh Γ h ls' (lv.set i (some v)) := by
  have nol : ∀ (l : List (Option xV)), xnl l = true → ∀ (j : Nat) (u : xV), l[j]? = some (some u) → (xcv Γ u).category = 1 := by
    intro l
    induction l with
    | nil => intro _ j u hj; simp at hj
    | cons o r ih =>
      intro hn j u hj
      cases j with
      | zero =>
        have e : o = some u := Option.some.inj hj
        subst e
        rcases u with x | x | ⟨s, k, w⟩
        · rfl
        · cases hn
        · rfl
      | succ j =>
        refine ih ?_ j u hj
        rcases o with _ | x | x | x
        · exact hn
        · exact hn
        · cases hn
        · exact hn
  obtain ⟨h1, h2, h3, h4⟩ := hl
  let l : List (Nat × Value) := (List.range lv.length).filterMap (fun j => match lv[j]? with | some (some u) => some (j, xcv Γ u) | _ => none)
  have hl0 : lv_has ls h.2.2.1 l := by
    refine ⟨h1, h2, fun q hq => ?_⟩
    obtain ⟨j, -, hj⟩ := List.mem_filterMap.mp hq
    split at hj
    · rename_i u hu
      cases hj
      exact (h3 j u hu).2
    · cases hj
  obtain ⟨ls', e', h'⟩ := lv_store1 (v := xcv Γ v) hl0 (Nat.lt_of_lt_of_le hi h4) hc
  refine ⟨ls', e', h'.1, h'.2.1, fun j u hj => ?_, by rw [List.length_set]; exact h4⟩
  by_cases hji : j = i
  · subst hji
    by_cases hlt : j < lv.length
    · rw [List.getElem?_set_self hlt] at hj
      cases hj
      exact ⟨hv, h'.2.2 _ List.mem_cons_self⟩
    · rw [List.getElem?_eq_none (by simp; omega)] at hj
      cases hj
  · rw [List.getElem?_set_ne (Ne.symm hji)] at hj
    refine ⟨(h3 j u hj).1, h'.2.2 (j, xcv Γ u) (List.mem_cons_of_mem _ (List.mem_filter.mpr ⟨List.mem_filterMap.mpr ⟨j, List.mem_range.mpr (List.getElem?_eq_some_iff.mp hj).1, by rw [hj]⟩, ?_⟩))⟩
    have hcu := nol lv hnl j u hj
    simp [hji, hcu]
theorem xkd_len : xkd.length = xNC := by decide +kernel
theorem xws_at {Γ : xG} {D : xM} {i : Nat} {q : Nat × Nat} (h : xkd[i]? = some q) : (xws Γ D)[i]? = some (Γ.r i, xce Γ D i q) := by
  have hi : i < xNC := by rw [← xkd_len]; exact (List.getElem?_eq_some_iff.mp h).1
  rw [xws, List.getElem?_map, List.getElem?_range hi]
  show some (Γ.r i, xce Γ D i (xkd.getD i (0, 0))) = _
  rw [List.getD_eq_getElem?_getD, h]
  rfl
theorem xws_D {Γ : xG} {s : State} (h : xS Γ s) (D : xM) : va_D (xA Γ) (xws Γ D) := by
  have key : ∀ (i : Nat) (p : Nat × va_E), (xws Γ D)[i]? = some p → i < xNC ∧ p.1 = Γ.r i := by
    intro i p hp
    rw [xws, List.getElem?_map] at hp
    by_cases hi : i < xNC
    · rw [List.getElem?_range hi] at hp
      cases hp
      exact ⟨hi, rfl⟩
    · rw [List.getElem?_eq_none (by simp; omega)] at hp
      cases hp
  refine ⟨fun i j p q hi hj e => ?_, fun k q hk => ?_⟩
  · obtain ⟨a1, b1⟩ := key i p hi
    obtain ⟨a2, b2⟩ := key j q hj
    exact h.2.1 i j a1 a2 (by rw [← b1, ← b2]; exact e)
  · obtain ⟨a1, b1⟩ := key k q hk
    exact ⟨k, a1, b1⟩
theorem xws_set {Γ : xG} {D D' : xM} {i : Nat} {q : Nat × Nat} (h : xkd[i]? = some q) (hne : ∀ j, j ≠ i → D' j = D j) : (xws Γ D).set i (Γ.r i, xce Γ D' i q) = xws Γ D' := by
  have hi : i < xNC := by rw [← xkd_len]; exact (List.getElem?_eq_some_iff.mp h).1
  apply List.ext_getElem?
  intro j
  by_cases hj : j = i
  · subst hj
    rw [List.getElem?_set_self (by simp [xws]; exact hi), xws_at h]
  · rw [List.getElem?_set_ne (Ne.symm hj)]
    by_cases hlt : j < xNC
    · obtain ⟨r, hr⟩ : ∃ r, xkd[j]? = some r := by
        have : j < xkd.length := by rw [xkd_len]; exact hlt
        exact ⟨_, List.getElem?_eq_getElem this⟩
      rw [xws_at hr, xws_at hr]
      have e := hne j hj
      have e2 : ∀ c k, xfv D' c j k = xfv D c j k := by
        intro c k
        rw [xfv, xfv, e]
      congr 2
      obtain ⟨r1, r2⟩ := r
      simp only [xce, e, e2]
    · rw [List.getElem?_eq_none (by simp [xws]; omega), List.getElem?_eq_none (by simp [xws]; omega)]
theorem xup_ne {D : xM} {i j : Nat} {v : Int32} : ∀ a, a ≠ i → xup D i j v a = D a := by
  intro a ha
  funext b
  simp [xup, ha]
theorem xup_arr (D : xM) (i j : Nat) (v : Int32) : xup D i j v i = upd (D i) j v := by
  funext b
  simp [xup, upd]
theorem xup_obj {Γ : xG} {D : xM} {c i b : Nat} {x : Int32} (hf : xfR c b i = none) : ((List.range (xnf c)).map (fun j => xcv Γ (xfv D c i j))).set b (.int x) = (List.range (xnf c)).map (fun j => xcv Γ (xfv (xup D i b x) c i j)) := by
  apply List.ext_getElem?
  intro j
  by_cases hj : j = b
  · subst hj
    by_cases hlt : j < xnf c
    · rw [List.getElem?_set_self (by simp; exact hlt), List.getElem?_map, List.getElem?_range hlt]
      simp [xfv, hf, xup, xcv]
    · rw [List.getElem?_eq_none (by simp; omega), List.getElem?_eq_none (by simp; omega)]
  · rw [List.getElem?_set_ne (Ne.symm hj), List.getElem?_map, List.getElem?_map]
    by_cases hlt : j < xnf c
    · rw [List.getElem?_range hlt]
      simp [xfv, xup, hj]
    · rw [List.getElem?_eq_none (by simp; omega)]
      rfl
theorem xin_all {ws : List Cond} (h : ws.all xin = true) : ∀ w ∈ ws, w ∈ xtb := fun w hw => xin_mem (List.all_eq_true.mp h w hw)
theorem xcl0 : wsX00.all xin = true := by decide +kernel
theorem xcl1 : wsX10.all xin = true := by decide +kernel
theorem xcl2 : wsX20.all xin = true := by decide +kernel
theorem xcl3 : wsX30.all xin = true := by decide +kernel
theorem xcl4 : wsX40.all xin = true := by decide +kernel
theorem xcl5 : wsX50.all xin = true := by decide +kernel
theorem xcl6 : wsX60.all xin = true := by decide +kernel
theorem xcl7 : wsX70.all xin = true := by decide +kernel
theorem xcl8 : wsX80.all xin = true := by decide +kernel
theorem xcl9 : wsX90.all xin = true := by decide +kernel
theorem xcl {ci : Nat} {C : String} {T : u_T} {N : Nat} (h : vwCl[ci]? = some (C, T, N)) : (∀ w ∈ u_ws C T N, w ∈ xtb) ∧ ∃ ty0 : Nat → FieldType, (∀ k, k < N → parseFieldDescriptor (T k).2.2.1 = some (ty0 k)) ∧ ∀ a, a < N → ∀ b, b < N → a ≠ b → (T a).2.1 ≠ (T b).2.1 := by
  match ci, h with
  | 0, h => cases h; exact ⟨xin_all xcl0, tyX0, tyX0_ok, nmX0⟩
  | 1, h => cases h; exact ⟨xin_all xcl1, tyX1, tyX1_ok, nmX1⟩
  | 2, h => cases h; exact ⟨xin_all xcl2, tyX2, tyX2_ok, nmX2⟩
  | 3, h => cases h; exact ⟨xin_all xcl3, tyX3, tyX3_ok, nmX3⟩
  | 4, h => cases h; exact ⟨xin_all xcl4, tyX4, tyX4_ok, nmX4⟩
  | 5, h => cases h; exact ⟨xin_all xcl5, tyX5, tyX5_ok, nmX5⟩
  | 6, h => cases h; exact ⟨xin_all xcl6, tyX6, tyX6_ok, nmX6⟩
  | 7, h => cases h; exact ⟨xin_all xcl7, tyX7, tyX7_ok, nmX7⟩
  | 8, h => cases h; exact ⟨xin_all xcl8, tyX8, tyX8_ok, nmX8⟩
  | 9, h => cases h; exact ⟨xin_all xcl9, tyX9, tyX9_ok, nmX9⟩
  | n + 10, h => simp [vwCl] at h
/-- a field that holds a cell holds one -/
def xfok : Bool := (List.range xNC).all fun i => match xkd.getD i (0, 0) with
  | (0, c) => (List.range (xnf c)).all fun j => match xfR c j i with
    | some (s, k, w) => decide (s ≤ 3 ∨ s = 6) && decide (xkd[w]? = some (s, k))
    | none => true
  | _ => true
theorem xfok_t : xfok = true := by decide +kernel
theorem xvr_cell {s k i : Nat} (hs : s ≤ 3 ∨ s = 6) (h : xkd[i]? = some (s, k)) : xvr s k i := by
  match s, hs with
  | 0, _ => exact ⟨by omega, h⟩
  | 1, _ => exact ⟨by omega, h⟩
  | 2, _ => exact ⟨by omega, h⟩
  | 3, _ => exact ⟨by omega, h⟩
  | 6, _ => exact ⟨by omega, h⟩
  | 4, h => omega
  | 5, h => omega
  | n + 7, h => omega
theorem xvr_fld {c i b : Nat} {q : Nat × Nat × Nat} (h : xkd[i]? = some (0, c)) (hb : b < xnf c) (hf : xfR c b i = some q) : xvr q.1 q.2.1 q.2.2 := by
  have hi : i < xNC := by rw [← xkd_len]; exact (List.getElem?_eq_some_iff.mp h).1
  have h1 := List.all_eq_true.mp xfok_t i (List.mem_range.mpr hi)
  have e : xkd.getD i (0, 0) = (0, c) := by rw [List.getD_eq_getElem?_getD, h]; rfl
  rw [e] at h1
  have h2 := List.all_eq_true.mp h1 b (List.mem_range.mpr hb)
  obtain ⟨s, k, w⟩ := q
  rw [hf] at h2
  simp only [Bool.and_eq_true, decide_eq_true_eq] at h2
  exact xvr_cell h2.1 h2.2
theorem xcell {s k i : Nat} (h : xvr s k i) (hs : s ≤ 3 ∨ s = 6) : xkd[i]? = some (s, k) := by
  match s, hs with
  | 0, _ => exact h.2
  | 1, _ => exact h.2
  | 2, _ => exact h.2
  | 3, _ => exact h.2
  | 6, _ => exact h.2
  | 4, h => omega
  | 5, h => omega
  | n + 7, h => omega
theorem xfc {v : xV} {st : List xV} (h : xvv v) (hst : ∀ u ∈ st, xvv u) : ∀ u ∈ v :: st, xvv u := List.forall_mem_cons.mpr ⟨h, hst⟩
theorem xft {v : xV} {st : List xV} (hst : ∀ u ∈ v :: st, xvv u) : ∀ u ∈ st, xvv u := (List.forall_mem_cons.mp hst).2
theorem xfh {v : xV} {st : List xV} (hst : ∀ u ∈ v :: st, xvv u) : xvv v := (List.forall_mem_cons.mp hst).1
theorem xand {a b : Bool} (h : (a && b) = true) : a = true ∧ b = true := by rw [Bool.and_eq_true] at h; exact h
end
section
section XS1
variable {Γ : xG} {n : Nat} {h : xHd} {rows : List xRow} {post : Option Int32 → xM → Prop}
set_option maxHeartbeats 4000000 in
/-- a getfield step -/
theorem xgf_ok {idx a b pc pc' : Nat} {lv lv' : List (Option xV)} {s0 k i : Nat} {st st' : List xV} {D D' : xM} (hr : xrw rows pc = some (.getfield idx, 3, a, b)) (h1 : xgf a b (pc + 3) lv s0 k i st D = some (pc', lv', st', D')) (kk : xW Γ n h rows pc' lv' st' D' post) : xW Γ n h rows pc lv (.inr (.inr (s0, k, i)) :: st) D post := by
  intro p e R s m args below meth c H locs cells slots Q ls C hH hS hl hst hret
  obtain ⟨hx, hb, hml, hrt, hlk, hown, hts, hs, hck, hR⟩ := id C
  have hok := xck_row hck hr
  have hd := xok_dec hok
  have hok2 := (xand hok).2
  unfold xgf at h1
  split at h1
  · split at h1
    · rename_i e1 e2 e3
      have ek : k = a := Nat.eq_of_beq_eq_true e1
      subst ek
      have ha : ¬ k = 10 := fun z => by subst z; cases e2
      have hbn : b < xnf k := by simpa using e3
      simp only [if_neg ha] at hok2
      have hcell : xkd[i]? = some (0, k) := xcell (xfh hst) (Or.inl (Nat.zero_le _))
      obtain ⟨pz, hpz⟩ := xzip (p := xflp) rfl (of_decide_eq_true hok2)
      have hok3 := List.all_eq_true.mp xfl_ok _ hpz
      unfold xflB at hok3
      split at hok3
      · rename_i C0 T N hcl
        obtain ⟨q12, q3⟩ := xand hok3
        obtain ⟨q1, q2⟩ := xand q12
        have hN : N = xnf k := of_decide_eq_true q1
        have hbN : b < N := of_decide_eq_true q2
        have hget : ((List.range (xnf k)).map (fun j => xcv Γ (xfv D k i j)))[b]? = some (xcv Γ (xfv D k i b)) := by
          rw [List.getElem?_map, List.getElem?_range hbn]; rfl
        split at h1
        · rename_i q hq
          cases h1
          have hv : xfv D k i b = .inr (.inr q) := by rw [xfv, hq]
          rw [hv] at hget
          exact va_get (Ts := xtb) hx hb hts (xcl hcl).1 hown hs.1 hH i (xws_at hcell) hcl b hbN (hts _ (xat_mem q3)) (fun _ z => z) hget hd (kk p e R s m args below meth c H locs cells slots Q ls C hH hS hl (xfc (xvr_fld hcell hbn hq) (xft hst)) hret)
        · rename_i hq
          cases h1
          have hv : xfv D k i b = .inl (D i b) := by rw [xfv, hq]
          rw [hv] at hget
          exact va_get (Ts := xtb) hx hb hts (xcl hcl).1 hown hs.1 hH i (xws_at hcell) hcl b hbN (hts _ (xat_mem q3)) (fun _ z => z) hget hd (kk p e R s m args below meth c H locs cells slots Q ls C hH hS hl (xfc trivial (xft hst)) hret)
      · cases hok3
    · cases h1
  · have hk : k < 10 := xfh hst
    obtain ⟨-, -, -, -, hs5, -⟩ := id hs
    obtain ⟨-, v2, v3, -⟩ := hs5.1 k hk
    split at h1
    · rename_i e1
      have ea : a = 10 := Nat.eq_of_beq_eq_true e1
      subst ea
      cases h1
      simp only [if_true] at hok2
      exact vk_getf hx hb v3 hS hown (hts _ (xin_mem hok2)) (fun _ z => z) hd (kk p e R s m args below meth c H locs cells slots Q ls C hH hS hl (xfc hk (xft hst)) hret)
    · rename_i e1
      have ea : a = 10 := Nat.eq_of_beq_eq_true e1
      subst ea
      cases h1
      simp only [if_true, if_neg (by decide : ¬ (1 : Nat) = 0)] at hok2
      exact vk_getf hx hb v2 hS hown (hts _ (xin_mem (xand hok2).2)) (fun _ z => z) hd (kk p e R s m args below meth c H locs cells slots Q ls C hH hS hl (xfc trivial (xft hst)) hret)
    · cases h1
  · cases h1
set_option maxHeartbeats 4000000 in
/-- a putfield step, of an int -/
theorem xpf_ok {idx a b pc pc' : Nat} {lv lv' : List (Option xV)} {s0 k i : Nat} {x : Int32} {st st' : List xV} {D D' : xM} (hr : xrw rows pc = some (.putfield idx, 3, a, b)) (h1 : xpf a b (pc + 3) lv s0 k i x st D = some (pc', lv', st', D')) (kk : xW Γ n h rows pc' lv' st' D' post) : xW Γ n h rows pc lv (.inl x :: .inr (.inr (s0, k, i)) :: st) D post := by
  intro p e R s m args below meth c H locs cells slots Q ls C hH hS hl hst hret
  obtain ⟨hx, hb, hml, hrt, hlk, hown, hts, hs, hck, hR⟩ := id C
  have hok := xck_row hck hr
  have hd := xok_dec hok
  have hok2 := (xand hok).2
  unfold xpf at h1
  split at h1
  · split at h1
    · rename_i e1 e2 e3 e4
      have ek : k = a := Nat.eq_of_beq_eq_true e1
      subst ek
      have hb100 : b < 100 := by simpa using e2
      have hbn : b < xnf k := by simpa using e3
      have hcell : xkd[i]? = some (0, k) := xcell (xfh (xft hst)) (Or.inl (Nat.zero_le _))
      cases h1
      obtain ⟨pz, hpz⟩ := xzip (p := xplp) rfl (of_decide_eq_true hok2)
      have hok3 := List.all_eq_true.mp xpl_ok _ hpz
      unfold xplB at hok3
      split at hok3
      · rename_i C0 T N hcl
        rw [if_pos hb100] at hok3
        obtain ⟨q1234, q5⟩ := xand hok3
        obtain ⟨q123, q4⟩ := xand q1234
        obtain ⟨q12, q3⟩ := xand q123
        obtain ⟨q1, q2⟩ := xand q12
        have hbN : b < N := of_decide_eq_true q2
        obtain ⟨hin, ty0, hty, hnm⟩ := xcl hcl
        refine va_put (Ts := xtb) hx hb hts hin ty0 hty hnm hown hs.1 hH (xws_D hs D) hS i (xws_at hcell) hcl b hbN (hts _ (xat_mem q5)) (fun _ z => z) (of_decide_eq_true q3) (of_decide_eq_true q4) (v := .int x) rfl rfl (by simp; exact hbn) hd (fun H1 locs1 hP1 hD1 hS1 => ?_)
        have e5 : (xws Γ D).set i (Γ.r i, .inr (k, ((List.range (xnf k)).map (fun j => xcv Γ (xfv D k i j))).set b (.int x))) = xws Γ (xup D i b x) := by
          rw [xup_obj e4]
          exact xws_set (q := (0, k)) hcell xup_ne
        rw [e5] at hP1
        exact kk p e R s m args below meth c H1 locs1 cells slots Q ls C hP1 hS1 hl (xft (xft hst)) hret
      · cases hok3
    · cases h1
  · cases h1
set_option maxHeartbeats 4000000 in
theorem xal_ok {pc pc' : Nat} {lv lv' : List (Option xV)} {a b s0 k i : Nat} {st st' : List xV} {D D' : xM} (hr : xrw rows pc = some (.arraylength, 1, a, b)) (h1 : xal (pc + 1) lv s0 k st D = some (pc', lv', st', D')) (kk : xW Γ n h rows pc' lv' st' D' post) : xW Γ n h rows pc lv (.inr (.inr (s0, k, i)) :: st) D post := by
  intro p e R s m args below meth c H locs cells slots Q ls C hH hS hl hst hret
  obtain ⟨hx, hb, hml, hrt, hlk, hown, hts, hs, hck, hR⟩ := id C
  have hd := xok_dec (xck_row hck hr)
  unfold xal at h1
  split at h1
  · cases h1
    have hcell : xkd[i]? = some (1, k) := xcell (xfh hst) (Or.inl (by decide))
    exact va_alen (x := (k, .inl (D i))) hx hb hs.1 hH i 0 (xws_at hcell) rfl rfl hd (kk p e R s m args below meth c H locs cells slots Q ls C hH hS hl (xfc trivial (xft hst)) hret)
  · cases h1
    have hk : k < 10 := xfh hst
    obtain ⟨-, -, -, v4⟩ := hs.2.2.2.2.1.1 k hk
    obtain ⟨cell, c1, c2, c3, c4, c5, c6, c7⟩ := v4.kept hS.2.1
    exact W.alen (n := Int32.ofNat (xsl.getD k 0)) hx hb c1 c2 c5 rfl rfl hd (kk p e R s m args below meth c H locs cells slots Q ls C hH hS hl (xfc trivial (xft hst)) hret)
  · cases h1
theorem xldi_ok {lv lv' : List (Option xV)} {i pc pc' : Nat} {st st' : List xV} {D D' : xM} (h1 : xldi lv i pc st D = some (pc', lv', st', D')) : ∃ x, lv[i]? = some (some (.inl x)) ∧ pc' = pc ∧ lv' = lv ∧ st' = .inl x :: st ∧ D' = D := by
  unfold xldi at h1
  split at h1
  · rename_i x hx
    cases h1
    exact ⟨x, hx, rfl, rfl, rfl, rfl⟩
  · cases h1
theorem xldl_ok {lv lv' : List (Option xV)} {i pc pc' : Nat} {st st' : List xV} {D D' : xM} (h1 : xldl lv i pc st D = some (pc', lv', st', D')) : ∃ x, lv[i]? = some (some (.inr (.inl x))) ∧ pc' = pc ∧ lv' = lv ∧ st' = .inr (.inl x) :: st ∧ D' = D := by
  unfold xldl at h1
  split at h1
  · rename_i x hx
    cases h1
    exact ⟨x, hx, rfl, rfl, rfl, rfl⟩
  · cases h1
theorem xlda_ok {lv lv' : List (Option xV)} {i pc pc' : Nat} {st st' : List xV} {D D' : xM} (h1 : xlda lv i pc st D = some (pc', lv', st', D')) : ∃ x, lv[i]? = some (some (.inr (.inr x))) ∧ pc' = pc ∧ lv' = lv ∧ st' = .inr (.inr x) :: st ∧ D' = D := by
  unfold xlda at h1
  split at h1
  · rename_i x hx
    cases h1
    exact ⟨x, hx, rfl, rfl, rfl, rfl⟩
  · cases h1
theorem xsto_ok {lv lv' : List (Option xV)} {i pc pc' : Nat} {v : xV} {st st' : List xV} {D D' : xM} (h1 : xsto lv i pc v st D = some (pc', lv', st', D')) : xnl lv = true ∧ i < lv.length ∧ pc' = pc ∧ lv' = lv.set i (some v) ∧ st' = st ∧ D' = D := by
  unfold xsto at h1
  split at h1
  · rename_i e1 e2
    cases h1
    exact ⟨e1, by simpa using e2, rfl, rfl, rfl, rfl⟩
  · cases h1
/-- the step behind a store, by the machine -/
theorem xsti {p : Program} {l : Launch} {e : Env} {R : Room} {s : State} {m : MethodId} {args : Array Value} {below : List Frame} {meth : Method} {c : Code} {H : Heap} {locs : List Loc} {cells slots : Nat} {Q : State → Prop} {cc : ByteArray} {pc : Nat} {ls ls' : Array Slot} {rest : List Value} (hexec : p.tables.exec = Jvm.exec) (hb : c.code = cc) {i : Nat} {x : Int32} (hdg : decode cc pc = .ok (.istore i, 2)) (e' : storeLocals ls i (.int x) = some ls')
    (kk : W p l e R s m args below meth c H locs cells slots Q (F0 m (pc + 2) ls' rest)) : W p l e R s m args below meth c H locs cells slots Q (F0 m pc ls (.int x :: rest)) := by
  intro T hT X
  obtain ⟨t, a, b⟩ := kk T hT X
  refine ⟨t, ?_, b⟩
  jvm_step X.here [X.here.top, ↓top_set X.here.top, hexec, hb, hdg, e']
  exact a
end XS1
end
section
theorem xsti_n {p : Program} {l : Launch} {e : Env} {R : Room} {s : State} {m : MethodId} {args : Array Value} {below : List Frame} {meth : Method} {c : Code} {H : Heap} {locs : List Loc} {cells slots : Nat} {Q : State → Prop} {cc : ByteArray} {pc : Nat} {ls ls' : Array Slot} {rest : List Value} (hexec : p.tables.exec = Jvm.exec) (hb : c.code = cc) {k : Fin 4} {x : Int32} (hdg : decode cc pc = .ok (.istore_n k, 1)) (e' : storeLocals ls k.val (.int x) = some ls')
    (kk : W p l e R s m args below meth c H locs cells slots Q (F0 m (pc + 1) ls' rest)) : W p l e R s m args below meth c H locs cells slots Q (F0 m pc ls (.int x :: rest)) := by
  intro T hT X
  obtain ⟨t, a, b⟩ := kk T hT X
  refine ⟨t, ?_, b⟩
  jvm_step X.here [X.here.top, ↓top_set X.here.top, hexec, hb, hdg, e']
  exact a
theorem xsta_n {p : Program} {l : Launch} {e : Env} {R : Room} {s : State} {m : MethodId} {args : Array Value} {below : List Frame} {meth : Method} {c : Code} {H : Heap} {locs : List Loc} {cells slots : Nat} {Q : State → Prop} {cc : ByteArray} {pc : Nat} {ls ls' : Array Slot} {rest : List Value} (hexec : p.tables.exec = Jvm.exec) (hb : c.code = cc) {k : Fin 4} {x : Nat} (hdg : decode cc pc = .ok (.astore_n k, 1)) (e' : storeLocals ls k.val (.ref x) = some ls')
    (kk : W p l e R s m args below meth c H locs cells slots Q (F0 m (pc + 1) ls' rest)) : W p l e R s m args below meth c H locs cells slots Q (F0 m pc ls (.ref x :: rest)) := by
  intro T hT X
  obtain ⟨t, a, b⟩ := kk T hT X
  refine ⟨t, ?_, b⟩
  jvm_step X.here [X.here.top, ↓top_set X.here.top, hexec, hb, hdg, e', Value.isRef]
  exact a
theorem xsta {p : Program} {l : Launch} {e : Env} {R : Room} {s : State} {m : MethodId} {args : Array Value} {below : List Frame} {meth : Method} {c : Code} {H : Heap} {locs : List Loc} {cells slots : Nat} {Q : State → Prop} {cc : ByteArray} {pc : Nat} {ls ls' : Array Slot} {rest : List Value} (hexec : p.tables.exec = Jvm.exec) (hb : c.code = cc) {i : Nat} {x : Nat} (hdg : decode cc pc = .ok (.astore i, 2)) (e' : storeLocals ls i (.ref x) = some ls')
    (kk : W p l e R s m args below meth c H locs cells slots Q (F0 m (pc + 2) ls' rest)) : W p l e R s m args below meth c H locs cells slots Q (F0 m pc ls (.ref x :: rest)) := by
  intro T hT X
  obtain ⟨t, a, b⟩ := kk T hT X
  refine ⟨t, ?_, b⟩
  jvm_step X.here [X.here.top, ↓top_set X.here.top, hexec, hb, hdg, e', Value.isRef]
  exact a
theorem xsinc {p : Program} {l : Launch} {e : Env} {R : Room} {s : State} {m : MethodId} {args : Array Value} {below : List Frame} {meth : Method} {c : Code} {H : Heap} {locs : List Loc} {cells slots : Nat} {Q : State → Prop} {cc : ByteArray} {pc : Nat} {ls ls' : Array Slot} {rest : List Value} (hexec : p.tables.exec = Jvm.exec) (hb : c.code = cc) {i : Nat} {n : Int} {x : Int32} (hdg : decode cc pc = .ok (.iinc i n, 3)) (hg : ls[i]? = some (.val (.int x))) (e' : storeLocals ls i (.int (x + Int32.ofInt n)) = some ls')
    (kk : W p l e R s m args below meth c H locs cells slots Q (F0 m (pc + 3) ls' rest)) : W p l e R s m args below meth c H locs cells slots Q (F0 m pc ls rest) := by
  intro T hT X
  obtain ⟨t, a, b⟩ := kk T hT X
  refine ⟨t, ?_, b⟩
  jvm_step X.here [X.here.top, ↓top_set X.here.top, hexec, hb, hdg, hg, e']
  exact a
section XS2
variable {Γ : xG} {n : Nat} {h : xHd} {rows : List xRow} {post : Option Int32 → xM → Prop}
theorem xinc_ok {k : Nat} {n0 : Int} {a b pc : Nat} {lv : List (Option xV)} {x : Int32} {st : List xV} {D : xM} (hr : xrw rows pc = some (.iinc k n0, 3, a, b)) (e0 : lv[k]? = some (some (.inl x))) (e1 : xnl lv = true) (e2 : k < lv.length) (kk : xW Γ n h rows (pc + 3) (lv.set k (some (.inl (x + xnum n0)))) st D post) : xW Γ n h rows pc lv st D post := by
  intro p e R s m args below meth c H locs cells slots Q ls C hH hS hl hst hret
  obtain ⟨hx, hb, hml, hrt, hlk, hown, hts, hs, hck, hR⟩ := id C
  have hok := xck_row hck hr
  have hd := xok_dec hok
  have e3 : Int32.ofInt n0 = xnum n0 := of_decide_eq_true (xand hok).2
  obtain ⟨ls', q1, q2⟩ := xlh_sto (v := .inl (x + xnum n0)) hl e1 e2 trivial rfl
  have q1 : storeLocals ls k (.int (x + xnum n0)) = some ls' := q1
  rw [← e3] at q1
  exact xsinc hx hb hd (hl.2.2.1 _ _ e0).2 q1 (kk p e R s m args below meth c H locs cells slots Q ls' C hH hS q2 hst hret)
set_option maxHeartbeats 8000000 in
/-- one simple step -/
theorem xs1_ok {i : Instr} {len a b pc pc' : Nat} {lv lv' : List (Option xV)} {st st' : List xV} {D D' : xM} (hr : xrw rows pc = some (i, len, a, b)) (h1 : xs1 i len a b pc lv st D = some (pc', lv', st', D')) (kk : xW Γ n h rows pc' lv' st' D' post) : xW Γ n h rows pc lv st D post := by
  intro p e R s m args below meth c H locs cells slots Q ls C hH hS hl hst hret
  obtain ⟨hx, hb, hml, hrt, hlk, hown, hts, hs, hck, hR⟩ := id C
  have hok := xck_row hck hr
  have hd := xok_dec hok
  have hok2 := (xand hok).2
  unfold xs1 at h1
  split at h1
  · cases h1; exact lv_iconst hx hb hd (of_decide_eq_true hok2) (kk p e R s m args below meth c H locs cells slots Q ls C hH hS hl (xfc trivial hst) hret)
  · cases h1; exact lv_bipush hx hb hd (of_decide_eq_true hok2) (kk p e R s m args below meth c H locs cells slots Q ls C hH hS hl (xfc trivial hst) hret)
  · cases h1; exact lv_sipush hx hb hd (of_decide_eq_true hok2) (kk p e R s m args below meth c H locs cells slots Q ls C hH hS hl (xfc trivial hst) hret)
  · cases h1; exact lv_lconst hx hb hd rfl (kk p e R s m args below meth c H locs cells slots Q ls C hH hS hl (xfc trivial hst) hret)
  · obtain ⟨x, e1, rfl, rfl, rfl, rfl⟩ := xldi_ok h1
    exact lv_iload_n hx hb hd rfl (hl.2.2.1 _ _ e1).2 (kk p e R s m args below meth c H locs cells slots Q ls C hH hS hl (xfc trivial hst) hret)
  · obtain ⟨x, e1, rfl, rfl, rfl, rfl⟩ := xldi_ok h1
    exact lv_iload hx hb hd (hl.2.2.1 _ _ e1).2 (kk p e R s m args below meth c H locs cells slots Q ls C hH hS hl (xfc trivial hst) hret)
  · obtain ⟨x, e1, rfl, rfl, rfl, rfl⟩ := xlda_ok h1
    exact lv_aload_n hx hb hd rfl (hl.2.2.1 _ _ e1).2 (kk p e R s m args below meth c H locs cells slots Q ls C hH hS hl (xfc (hl.2.2.1 _ _ e1).1 hst) hret)
  · obtain ⟨x, e1, rfl, rfl, rfl, rfl⟩ := xlda_ok h1
    exact lv_aload hx hb hd (hl.2.2.1 _ _ e1).2 (kk p e R s m args below meth c H locs cells slots Q ls C hH hS hl (xfc (hl.2.2.1 _ _ e1).1 hst) hret)
  · obtain ⟨x, e1, rfl, rfl, rfl, rfl⟩ := xldl_ok h1
    exact lv_lload_n hx hb hd rfl (hl.2.2.1 _ _ e1).2 (kk p e R s m args below meth c H locs cells slots Q ls C hH hS hl (xfc trivial hst) hret)
  · obtain ⟨x, e1, rfl, rfl, rfl, rfl⟩ := xldl_ok h1
    exact lv_lload hx hb hd (hl.2.2.1 _ _ e1).2 (kk p e R s m args below meth c H locs cells slots Q ls C hH hS hl (xfc trivial hst) hret)
  · obtain ⟨e1, e2, rfl, rfl, rfl, rfl⟩ := xsto_ok h1
    obtain ⟨ls', q1, q2⟩ := xlh_sto hl e1 e2 (v := .inl _) trivial rfl
    exact xsti_n hx hb hd q1 (kk p e R s m args below meth c H locs cells slots Q ls' C hH hS q2 (xft hst) hret)
  · obtain ⟨e1, e2, rfl, rfl, rfl, rfl⟩ := xsto_ok h1
    obtain ⟨ls', q1, q2⟩ := xlh_sto hl e1 e2 (v := .inl _) trivial rfl
    exact xsti hx hb hd q1 (kk p e R s m args below meth c H locs cells slots Q ls' C hH hS q2 (xft hst) hret)
  · obtain ⟨e1, e2, rfl, rfl, rfl, rfl⟩ := xsto_ok h1
    obtain ⟨ls', q1, q2⟩ := xlh_sto hl e1 e2 (xfh hst) rfl
    exact xsta_n hx hb hd q1 (kk p e R s m args below meth c H locs cells slots Q ls' C hH hS q2 (xft hst) hret)
  · obtain ⟨e1, e2, rfl, rfl, rfl, rfl⟩ := xsto_ok h1
    obtain ⟨ls', q1, q2⟩ := xlh_sto hl e1 e2 (xfh hst) rfl
    exact xsta hx hb hd q1 (kk p e R s m args below meth c H locs cells slots Q ls' C hH hS q2 (xft hst) hret)
  · split at h1
    · rename_i x e0
      obtain ⟨e1, e2, rfl, rfl, rfl, rfl⟩ := xsto_ok h1
      exact xinc_ok hr e0 e1 e2 kk p e R s m args below meth c H locs cells slots Q ls C hH hS hl hst hret
    · cases h1
  · cases h1; exact lv_iadd hx hb hd (kk p e R s m args below meth c H locs cells slots Q ls C hH hS hl (xfc trivial (xft (xft hst))) hret)
  · cases h1; exact lv_isub hx hb hd (kk p e R s m args below meth c H locs cells slots Q ls C hH hS hl (xfc trivial (xft (xft hst))) hret)
  · cases h1; exact lv_imul hx hb hd (kk p e R s m args below meth c H locs cells slots Q ls C hH hS hl (xfc trivial (xft (xft hst))) hret)
  · cases h1; exact lv_iand hx hb hd (kk p e R s m args below meth c H locs cells slots Q ls C hH hS hl (xfc trivial (xft (xft hst))) hret)
  · cases h1; exact lv_ior hx hb hd (kk p e R s m args below meth c H locs cells slots Q ls C hH hS hl (xfc trivial (xft (xft hst))) hret)
  · cases h1; exact lv_ixor hx hb hd (kk p e R s m args below meth c H locs cells slots Q ls C hH hS hl (xfc trivial (xft (xft hst))) hret)
  · cases h1; exact lv_ishl hx hb hd (kk p e R s m args below meth c H locs cells slots Q ls C hH hS hl (xfc trivial (xft (xft hst))) hret)
  · cases h1; exact lv_ishr hx hb hd (kk p e R s m args below meth c H locs cells slots Q ls C hH hS hl (xfc trivial (xft (xft hst))) hret)
  · cases h1; exact lv_iushr hx hb hd rfl (kk p e R s m args below meth c H locs cells slots Q ls C hH hS hl (xfc trivial (xft (xft hst))) hret)
  · cases h1; exact lv_ineg hx hb hd (kk p e R s m args below meth c H locs cells slots Q ls C hH hS hl (xfc trivial (xft hst)) hret)
  · cases h1; exact lv_i2l hx hb hd rfl (kk p e R s m args below meth c H locs cells slots Q ls C hH hS hl (xfc trivial (xft hst)) hret)
  · cases h1; exact lv_i2b hx hb hd rfl (kk p e R s m args below meth c H locs cells slots Q ls C hH hS hl (xfc trivial (xft hst)) hret)
  · cases h1; exact lv_i2s hx hb hd rfl (kk p e R s m args below meth c H locs cells slots Q ls C hH hS hl (xfc trivial (xft hst)) hret)
  · cases h1; exact lv_i2c hx hb hd rfl (kk p e R s m args below meth c H locs cells slots Q ls C hH hS hl (xfc trivial (xft hst)) hret)
  · cases h1; exact lv_ladd hx hb hd (kk p e R s m args below meth c H locs cells slots Q ls C hH hS hl (xfc trivial (xft (xft hst))) hret)
  · cases h1; exact W.lcmp hx hb hd (kk p e R s m args below meth c H locs cells slots Q ls C hH hS hl (xfc trivial (xft (xft hst))) hret)
  · cases h1; exact lv_dup hx hb hd rfl (kk p e R s m args below meth c H locs cells slots Q ls C hH hS hl (xfc trivial hst) hret)
  · cases h1; exact lv_dup hx hb hd rfl (kk p e R s m args below meth c H locs cells slots Q ls C hH hS hl (xfc (xfh hst) hst) hret)
  · cases h1; exact lv_dup2_11 hx hb hd rfl rfl (kk p e R s m args below meth c H locs cells slots Q ls C hH hS hl (xfc trivial (xfc (xfh (xft hst)) hst)) hret)
  · cases h1; exact lv_dup2_11 hx hb hd rfl rfl (kk p e R s m args below meth c H locs cells slots Q ls C hH hS hl (xfc trivial (xfc trivial hst)) hret)
  · cases h1; exact lv_pop hx hb hd rfl (kk p e R s m args below meth c H locs cells slots Q ls C hH hS hl (xft hst) hret)
  · exact xgf_ok hr h1 kk p e R s m args below meth c H locs cells slots Q ls C hH hS hl hst hret
  · exact xpf_ok hr h1 kk p e R s m args below meth c H locs cells slots Q ls C hH hS hl hst hret
  · split at h1
    · cases h1
      simp only [if_true] at hok2
      exact va_gets hx hb hs.2.2.2.2.2.1 hS hown (hts _ (xin_mem hok2)) (fun _ z => z) hd (kk p e R s m args below meth c H locs cells slots Q ls C hH hS hl (xfc trivial hst) hret)
    · rename_i a0
      cases h1
      simp only [if_neg (Nat.succ_ne_zero a0)] at hok2
      obtain ⟨q1, q2⟩ := xand hok2
      have ha : a0 + 1 ≤ 5 := of_decide_eq_true q1
      have hz := (hs.2.2.1 (a0 + 1) (by omega) ha).1
      by_cases hb0 : b = 0
      · rw [if_pos hb0] at q2
        exact va_gets hx hb hz hS hown (hts _ (xin_mem q2)) (fun _ z => z) hd (kk p e R s m args below meth c H locs cells slots Q ls C hH hS hl (xfc (by exact ⟨by omega, ha⟩) hst) hret)
      · rw [if_neg hb0] at q2
        obtain ⟨q3, q4⟩ := xand q2
        have q5 := hs.2.2.2.2.2.2.2.2.2 _ (of_decide_eq_true q4)
        rw [← (of_decide_eq_true q3 : h.1.cls = _)] at q5
        exact va_getsN hx hb hz hS hown (va_Nw.use rfl q5) (fun _ z => z) hd (kk p e R s m args below meth c H locs cells slots Q ls C hH hS hl (xfc (by exact ⟨by omega, ha⟩) hst) hret)
  · split at h1
    · cases h1
      simp only [if_true] at hok2
      exact lv_ldc hx hb hown (by obtain ⟨pz, hpz⟩ := xzip (p := xcnp) rfl (of_decide_eq_true hok2); exact hts _ (xat_mem (List.all_eq_true.mp xcn_ok _ hpz))) hd (kk p e R s m args below meth c H locs cells slots Q ls C hH hS hl (xfc trivial hst) hret)
    · rename_i b0 hb0
      cases h1
      have hb1 : ¬ b = 0 := fun z => hb0 z
      simp only [if_neg hb1] at hok2
      obtain ⟨q12, q3⟩ := xand hok2
      obtain ⟨q1, q2⟩ := xand q12
      have ha : a < 10 := of_decide_eq_true q1
      have hz := hs.2.2.2.1 a ha
      rw [← (of_decide_eq_true q2 : h.1.cls = _), (of_decide_eq_true q3 : xsp a = _)] at hz
      exact va_ldcS hx hb hown hz hd (kk p e R s m args below meth c H locs cells slots Q ls C hH hS hl (xfc ha hst) hret)
  · cases h1; exact lv_ldcw hx hb hown (by obtain ⟨pz, hpz⟩ := xzip (p := xcnp) rfl (of_decide_eq_true hok2); exact hts _ (xat_mem (List.all_eq_true.mp xcn_ok _ hpz))) hd (kk p e R s m args below meth c H locs cells slots Q ls C hH hS hl (xfc trivial hst) hret)
  · cases h1; exact lv_ldc2 hx hb hown (by obtain ⟨pz, hpz⟩ := xzip (p := xcgp) rfl (of_decide_eq_true hok2); exact hts _ (xat_mem (List.all_eq_true.mp xcg_ok _ hpz))) hd (kk p e R s m args below meth c H locs cells slots Q ls C hH hS hl (xfc trivial hst) hret)
  · exact xal_ok hr h1 kk p e R s m args below meth c H locs cells slots Q ls C hH hS hl hst hret
  · cases h1
theorem xrun_ok {stop : Nat} : ∀ (f : Nat) (pc : Nat) (lv : List (Option xV)) (st : List xV) (D : xM) (pc' : Nat) (lv' : List (Option xV)) (st' : List xV) (D' : xM), xrun rows stop f pc lv st D = some (pc', lv', st', D') → xW Γ n h rows pc' lv' st' D' post → xW Γ n h rows pc lv st D post
  | 0, _, _, _, _, _, _, _, _, e, k => by cases e; exact k
  | f + 1, pc, lv, st, D, pc', lv', st', D', e, k => by
    cases hb : Nat.beq pc stop with
    | true =>
      simp only [xrun, hb] at e
      cases e
      exact k
    | false =>
      cases hrow : xrw rows pc with
      | none =>
        simp only [xrun, hb, hrow] at e
        cases e
        exact k
      | some q =>
        obtain ⟨i, len, a, b⟩ := q
        cases hs1 : xs1 i len a b pc lv st D with
        | none =>
          simp only [xrun, hb, hrow, hs1] at e
          cases e
          exact k
        | some σ' =>
          obtain ⟨pc1, lv1, st1, D1⟩ := σ'
          simp only [xrun, hb, hrow, hs1] at e
          exact xs1_ok hrow hs1 (xrun_ok f pc1 lv1 st1 D1 pc' lv' st' D' e k)
abbrev xN : Nat := 1000000
/-- a stretch of simple steps -/
theorem x_to (stop : Nat) {pc pc' : Nat} {lv lv' : List (Option xV)} {st st' : List xV} {D D' : xM} (h1 : xrun rows stop 60 pc lv st D = some (pc', lv', st', D')) (kk : xW Γ n h rows pc' lv' st' D' post) : xW Γ n h rows pc lv st D post := xrun_ok (stop := stop) 60 pc lv st D _ _ _ _ h1 kk
end XS2
end
section
section XR
variable {Γ : xG} {n : Nat} {h : xHd} {rows : List xRow} {post : Option Int32 → xM → Prop}
theorem x_goto {pc pc' a b : Nat} {lv lv' : List (Option xV)} {st st' : List xV} {D D' : xM} {off : Int} (h1 : xrun rows xN 60 pc lv st D = some (pc', lv', st', D')) (hr : xrw rows pc' = some (.goto off, 3, a, b)) (kk : xW Γ n h rows a lv' st' D' post) : xW Γ n h rows pc lv st D post := by
  refine x_to xN h1 ?_
  intro p e R s m args below meth c H locs cells slots Q ls C hH hS hl hst hret
  obtain ⟨hx, hb, hml, hrt, hlk, hown, hts, hs, hck, hR⟩ := id C
  have hok := xck_row hck hr
  have hd := xok_dec hok
  have hok2 := (xand hok).2
  exact lv_goto hx hb hd (of_decide_eq_true hok2) (kk p e R s m args below meth c H locs cells slots Q ls C hH hS hl hst hret)
theorem xi_eq {pc pc' a b : Nat} {lv lv' : List (Option xV)} {st st' : List xV} {D D' : xM} {x y : Int32} {off : Int} (h1 : xrun rows xN 60 pc lv st D = some (pc', lv', .inl y :: .inl x :: st', D')) (hr : xrw rows pc' = some (.if_icmp .eq off, 3, a, b)) (kt : x = y → xW Γ n h rows a lv' st' D' post) (kf : ¬ x = y → xW Γ n h rows (pc' + 3) lv' st' D' post) : xW Γ n h rows pc lv st D post := by
  refine x_to xN h1 ?_
  intro p e R s m args below meth c H locs cells slots Q ls C hH hS hl hst hret
  obtain ⟨hx, hb, hml, hrt, hlk, hown, hts, hs, hck, hR⟩ := id C
  have hok := xck_row hck hr
  have hd := xok_dec hok
  have hok2 := (xand hok).2
  exact lv_icmp_eq hx hb hd (of_decide_eq_true hok2) (fun z => kt z p e R s m args below meth c H locs cells slots Q ls C hH hS hl (xft (xft hst)) hret) (fun z => kf z p e R s m args below meth c H locs cells slots Q ls C hH hS hl (xft (xft hst)) hret)
theorem x0_eq {pc pc' a b : Nat} {lv lv' : List (Option xV)} {st st' : List xV} {D D' : xM} {x : Int32} {off : Int} (h1 : xrun rows xN 60 pc lv st D = some (pc', lv', .inl x :: st', D')) (hr : xrw rows pc' = some (.ifCond .eq off, 3, a, b)) (kt : x = 0 → xW Γ n h rows a lv' st' D' post) (kf : ¬ x = 0 → xW Γ n h rows (pc' + 3) lv' st' D' post) : xW Γ n h rows pc lv st D post := by
  refine x_to xN h1 ?_
  intro p e R s m args below meth c H locs cells slots Q ls C hH hS hl hst hret
  obtain ⟨hx, hb, hml, hrt, hlk, hown, hts, hs, hck, hR⟩ := id C
  have hok := xck_row hck hr
  have hd := xok_dec hok
  have hok2 := (xand hok).2
  exact lv_if_eq hx hb hd (of_decide_eq_true hok2) (fun z => kt z p e R s m args below meth c H locs cells slots Q ls C hH hS hl (xft hst) hret) (fun z => kf z p e R s m args below meth c H locs cells slots Q ls C hH hS hl (xft hst) hret)
theorem xi_ne {pc pc' a b : Nat} {lv lv' : List (Option xV)} {st st' : List xV} {D D' : xM} {x y : Int32} {off : Int} (h1 : xrun rows xN 60 pc lv st D = some (pc', lv', .inl y :: .inl x :: st', D')) (hr : xrw rows pc' = some (.if_icmp .ne off, 3, a, b)) (kt : ¬ x = y → xW Γ n h rows a lv' st' D' post) (kf : x = y → xW Γ n h rows (pc' + 3) lv' st' D' post) : xW Γ n h rows pc lv st D post := by
  refine x_to xN h1 ?_
  intro p e R s m args below meth c H locs cells slots Q ls C hH hS hl hst hret
  obtain ⟨hx, hb, hml, hrt, hlk, hown, hts, hs, hck, hR⟩ := id C
  have hok := xck_row hck hr
  have hd := xok_dec hok
  have hok2 := (xand hok).2
  exact lv_icmp_ne hx hb hd (of_decide_eq_true hok2) (fun z => kt z p e R s m args below meth c H locs cells slots Q ls C hH hS hl (xft (xft hst)) hret) (fun z => kf z p e R s m args below meth c H locs cells slots Q ls C hH hS hl (xft (xft hst)) hret)
theorem x0_ne {pc pc' a b : Nat} {lv lv' : List (Option xV)} {st st' : List xV} {D D' : xM} {x : Int32} {off : Int} (h1 : xrun rows xN 60 pc lv st D = some (pc', lv', .inl x :: st', D')) (hr : xrw rows pc' = some (.ifCond .ne off, 3, a, b)) (kt : ¬ x = 0 → xW Γ n h rows a lv' st' D' post) (kf : x = 0 → xW Γ n h rows (pc' + 3) lv' st' D' post) : xW Γ n h rows pc lv st D post := by
  refine x_to xN h1 ?_
  intro p e R s m args below meth c H locs cells slots Q ls C hH hS hl hst hret
  obtain ⟨hx, hb, hml, hrt, hlk, hown, hts, hs, hck, hR⟩ := id C
  have hok := xck_row hck hr
  have hd := xok_dec hok
  have hok2 := (xand hok).2
  exact lv_if_ne hx hb hd (of_decide_eq_true hok2) (fun z => kt z p e R s m args below meth c H locs cells slots Q ls C hH hS hl (xft hst) hret) (fun z => kf z p e R s m args below meth c H locs cells slots Q ls C hH hS hl (xft hst) hret)
theorem xi_lt {pc pc' a b : Nat} {lv lv' : List (Option xV)} {st st' : List xV} {D D' : xM} {x y : Int32} {off : Int} (h1 : xrun rows xN 60 pc lv st D = some (pc', lv', .inl y :: .inl x :: st', D')) (hr : xrw rows pc' = some (.if_icmp .lt off, 3, a, b)) (kt : x < y → xW Γ n h rows a lv' st' D' post) (kf : ¬ x < y → xW Γ n h rows (pc' + 3) lv' st' D' post) : xW Γ n h rows pc lv st D post := by
  refine x_to xN h1 ?_
  intro p e R s m args below meth c H locs cells slots Q ls C hH hS hl hst hret
  obtain ⟨hx, hb, hml, hrt, hlk, hown, hts, hs, hck, hR⟩ := id C
  have hok := xck_row hck hr
  have hd := xok_dec hok
  have hok2 := (xand hok).2
  exact lv_icmp_lt hx hb hd (of_decide_eq_true hok2) (fun z => kt z p e R s m args below meth c H locs cells slots Q ls C hH hS hl (xft (xft hst)) hret) (fun z => kf z p e R s m args below meth c H locs cells slots Q ls C hH hS hl (xft (xft hst)) hret)
theorem x0_lt {pc pc' a b : Nat} {lv lv' : List (Option xV)} {st st' : List xV} {D D' : xM} {x : Int32} {off : Int} (h1 : xrun rows xN 60 pc lv st D = some (pc', lv', .inl x :: st', D')) (hr : xrw rows pc' = some (.ifCond .lt off, 3, a, b)) (kt : x < 0 → xW Γ n h rows a lv' st' D' post) (kf : ¬ x < 0 → xW Γ n h rows (pc' + 3) lv' st' D' post) : xW Γ n h rows pc lv st D post := by
  refine x_to xN h1 ?_
  intro p e R s m args below meth c H locs cells slots Q ls C hH hS hl hst hret
  obtain ⟨hx, hb, hml, hrt, hlk, hown, hts, hs, hck, hR⟩ := id C
  have hok := xck_row hck hr
  have hd := xok_dec hok
  have hok2 := (xand hok).2
  exact lv_if_lt hx hb hd (of_decide_eq_true hok2) (fun z => kt z p e R s m args below meth c H locs cells slots Q ls C hH hS hl (xft hst) hret) (fun z => kf z p e R s m args below meth c H locs cells slots Q ls C hH hS hl (xft hst) hret)
theorem xi_ge {pc pc' a b : Nat} {lv lv' : List (Option xV)} {st st' : List xV} {D D' : xM} {x y : Int32} {off : Int} (h1 : xrun rows xN 60 pc lv st D = some (pc', lv', .inl y :: .inl x :: st', D')) (hr : xrw rows pc' = some (.if_icmp .ge off, 3, a, b)) (kt : y ≤ x → xW Γ n h rows a lv' st' D' post) (kf : ¬ y ≤ x → xW Γ n h rows (pc' + 3) lv' st' D' post) : xW Γ n h rows pc lv st D post := by
  refine x_to xN h1 ?_
  intro p e R s m args below meth c H locs cells slots Q ls C hH hS hl hst hret
  obtain ⟨hx, hb, hml, hrt, hlk, hown, hts, hs, hck, hR⟩ := id C
  have hok := xck_row hck hr
  have hd := xok_dec hok
  have hok2 := (xand hok).2
  exact lv_icmp_ge hx hb hd (of_decide_eq_true hok2) (fun z => kt z p e R s m args below meth c H locs cells slots Q ls C hH hS hl (xft (xft hst)) hret) (fun z => kf z p e R s m args below meth c H locs cells slots Q ls C hH hS hl (xft (xft hst)) hret)
theorem x0_ge {pc pc' a b : Nat} {lv lv' : List (Option xV)} {st st' : List xV} {D D' : xM} {x : Int32} {off : Int} (h1 : xrun rows xN 60 pc lv st D = some (pc', lv', .inl x :: st', D')) (hr : xrw rows pc' = some (.ifCond .ge off, 3, a, b)) (kt : 0 ≤ x → xW Γ n h rows a lv' st' D' post) (kf : ¬ 0 ≤ x → xW Γ n h rows (pc' + 3) lv' st' D' post) : xW Γ n h rows pc lv st D post := by
  refine x_to xN h1 ?_
  intro p e R s m args below meth c H locs cells slots Q ls C hH hS hl hst hret
  obtain ⟨hx, hb, hml, hrt, hlk, hown, hts, hs, hck, hR⟩ := id C
  have hok := xck_row hck hr
  have hd := xok_dec hok
  have hok2 := (xand hok).2
  exact lv_if_ge hx hb hd (of_decide_eq_true hok2) (fun z => kt z p e R s m args below meth c H locs cells slots Q ls C hH hS hl (xft hst) hret) (fun z => kf z p e R s m args below meth c H locs cells slots Q ls C hH hS hl (xft hst) hret)
theorem xi_gt {pc pc' a b : Nat} {lv lv' : List (Option xV)} {st st' : List xV} {D D' : xM} {x y : Int32} {off : Int} (h1 : xrun rows xN 60 pc lv st D = some (pc', lv', .inl y :: .inl x :: st', D')) (hr : xrw rows pc' = some (.if_icmp .gt off, 3, a, b)) (kt : y < x → xW Γ n h rows a lv' st' D' post) (kf : ¬ y < x → xW Γ n h rows (pc' + 3) lv' st' D' post) : xW Γ n h rows pc lv st D post := by
  refine x_to xN h1 ?_
  intro p e R s m args below meth c H locs cells slots Q ls C hH hS hl hst hret
  obtain ⟨hx, hb, hml, hrt, hlk, hown, hts, hs, hck, hR⟩ := id C
  have hok := xck_row hck hr
  have hd := xok_dec hok
  have hok2 := (xand hok).2
  exact lv_icmp_gt hx hb hd (of_decide_eq_true hok2) (fun z => kt z p e R s m args below meth c H locs cells slots Q ls C hH hS hl (xft (xft hst)) hret) (fun z => kf z p e R s m args below meth c H locs cells slots Q ls C hH hS hl (xft (xft hst)) hret)
theorem x0_gt {pc pc' a b : Nat} {lv lv' : List (Option xV)} {st st' : List xV} {D D' : xM} {x : Int32} {off : Int} (h1 : xrun rows xN 60 pc lv st D = some (pc', lv', .inl x :: st', D')) (hr : xrw rows pc' = some (.ifCond .gt off, 3, a, b)) (kt : 0 < x → xW Γ n h rows a lv' st' D' post) (kf : ¬ 0 < x → xW Γ n h rows (pc' + 3) lv' st' D' post) : xW Γ n h rows pc lv st D post := by
  refine x_to xN h1 ?_
  intro p e R s m args below meth c H locs cells slots Q ls C hH hS hl hst hret
  obtain ⟨hx, hb, hml, hrt, hlk, hown, hts, hs, hck, hR⟩ := id C
  have hok := xck_row hck hr
  have hd := xok_dec hok
  have hok2 := (xand hok).2
  exact lv_if_gt hx hb hd (of_decide_eq_true hok2) (fun z => kt z p e R s m args below meth c H locs cells slots Q ls C hH hS hl (xft hst) hret) (fun z => kf z p e R s m args below meth c H locs cells slots Q ls C hH hS hl (xft hst) hret)
theorem xi_le {pc pc' a b : Nat} {lv lv' : List (Option xV)} {st st' : List xV} {D D' : xM} {x y : Int32} {off : Int} (h1 : xrun rows xN 60 pc lv st D = some (pc', lv', .inl y :: .inl x :: st', D')) (hr : xrw rows pc' = some (.if_icmp .le off, 3, a, b)) (kt : x ≤ y → xW Γ n h rows a lv' st' D' post) (kf : ¬ x ≤ y → xW Γ n h rows (pc' + 3) lv' st' D' post) : xW Γ n h rows pc lv st D post := by
  refine x_to xN h1 ?_
  intro p e R s m args below meth c H locs cells slots Q ls C hH hS hl hst hret
  obtain ⟨hx, hb, hml, hrt, hlk, hown, hts, hs, hck, hR⟩ := id C
  have hok := xck_row hck hr
  have hd := xok_dec hok
  have hok2 := (xand hok).2
  exact lv_icmp_le hx hb hd (of_decide_eq_true hok2) (fun z => kt z p e R s m args below meth c H locs cells slots Q ls C hH hS hl (xft (xft hst)) hret) (fun z => kf z p e R s m args below meth c H locs cells slots Q ls C hH hS hl (xft (xft hst)) hret)
theorem x0_le {pc pc' a b : Nat} {lv lv' : List (Option xV)} {st st' : List xV} {D D' : xM} {x : Int32} {off : Int} (h1 : xrun rows xN 60 pc lv st D = some (pc', lv', .inl x :: st', D')) (hr : xrw rows pc' = some (.ifCond .le off, 3, a, b)) (kt : x ≤ 0 → xW Γ n h rows a lv' st' D' post) (kf : ¬ x ≤ 0 → xW Γ n h rows (pc' + 3) lv' st' D' post) : xW Γ n h rows pc lv st D post := by
  refine x_to xN h1 ?_
  intro p e R s m args below meth c H locs cells slots Q ls C hH hS hl hst hret
  obtain ⟨hx, hb, hml, hrt, hlk, hown, hts, hs, hck, hR⟩ := id C
  have hok := xck_row hck hr
  have hd := xok_dec hok
  have hok2 := (xand hok).2
  exact lv_if_le hx hb hd (of_decide_eq_true hok2) (fun z => kt z p e R s m args below meth c H locs cells slots Q ls C hH hS hl (xft hst) hret) (fun z => kf z p e R s m args below meth c H locs cells slots Q ls C hH hS hl (xft hst) hret)
/-- int rows: read -/
theorem x_ald {pc pc' a b : Nat} {lv lv' : List (Option xV)} {st st' : List xV} {D D' : xM} {k i : Nat} {j : Int32} (h1 : xrun rows xN 60 pc lv st D = some (pc', lv', .inl j :: .inr (.inr (1, k, i)) :: st', D')) (hr : xrw rows pc' = some (.iaload, 1, a, b)) (hin : vp_in j k) (kk : xW Γ n h rows (pc' + 1) lv' (.inl (D' i j.toNatClampNeg) :: st') D' post) : xW Γ n h rows pc lv st D post := by
  refine x_to xN h1 ?_
  intro p e R s m args below meth c H locs cells slots Q ls C hH hS hl hst hret
  obtain ⟨hx, hb, hml, hrt, hlk, hown, hts, hs, hck, hR⟩ := id C
  have hok := xck_row hck hr
  have hd := xok_dec hok
  have hok2 := (xand hok).2
  have hcell : xkd[i]? = some (1, k) := xcell (xfh (xft hst)) (Or.inl (by decide))
  exact va_iald hx hb hs.1 hH i 0 (xws_at hcell) rfl hin hd (kk p e R s m args below meth c H locs cells slots Q ls C hH hS hl (xfc trivial (xft (xft hst))) hret)
/-- boolean rows: read -/
theorem x_bld {pc pc' a b : Nat} {lv lv' : List (Option xV)} {st st' : List xV} {D D' : xM} {k i : Nat} {j : Int32} (h1 : xrun rows xN 60 pc lv st D = some (pc', lv', .inl j :: .inr (.inr (2, k, i)) :: st', D')) (hr : xrw rows pc' = some (.baload, 1, a, b)) (hin : vp_in j k) (kk : xW Γ n h rows (pc' + 1) lv' (.inl (D' i j.toNatClampNeg) :: st') D' post) : xW Γ n h rows pc lv st D post := by
  refine x_to xN h1 ?_
  intro p e R s m args below meth c H locs cells slots Q ls C hH hS hl hst hret
  obtain ⟨hx, hb, hml, hrt, hlk, hown, hts, hs, hck, hR⟩ := id C
  have hok := xck_row hck hr
  have hd := xok_dec hok
  have hok2 := (xand hok).2
  have hcell : xkd[i]? = some (2, k) := xcell (xfh (xft hst)) (Or.inl (by decide))
  exact va_zald hx hb hs.1 hH i 1 (xws_at hcell) rfl hin hd (kk p e R s m args below meth c H locs cells slots Q ls C hH hS hl (xfc trivial (xft (xft hst))) hret)
/-- the static rows: read -/
theorem x_tld {pc pc' a b : Nat} {lv lv' : List (Option xV)} {st st' : List xV} {D D' : xM} {k i : Nat} {j : Int32} (h1 : xrun rows xN 60 pc lv st D = some (pc', lv', .inl j :: .inr (.inr (4, k, i)) :: st', D')) (hr : xrw rows pc' = some (.iaload, 1, a, b)) (hin : vp_in j 5) (kk : xW Γ n h rows (pc' + 1) lv' (.inl (xtv k j.toNatClampNeg) :: st') D' post) : xW Γ n h rows pc lv st D post := by
  refine x_to xN h1 ?_
  intro p e R s m args below meth c H locs cells slots Q ls C hH hS hl hst hret
  obtain ⟨hx, hb, hml, hrt, hlk, hown, hts, hs, hck, hR⟩ := id C
  have hok := xck_row hck hr
  have hd := xok_dec hok
  have hok2 := (xand hok).2
  have hk : 1 ≤ k ∧ k ≤ 5 := xfh (xft hst)
  obtain ⟨cell, c1, c2, c3, c4, c5, c6, c7⟩ := (hs.2.2.1 k hk.1 hk.2).2.kept hS.2.1
  have hlt : j.toNatClampNeg < 5 := Nat.not_le.mp fun q => hin (Or.inr q)
  have hnn : ¬ j < 0 := fun q => hin (Or.inl q)
  exact W.iald (v := .int (xtv k j.toNatClampNeg)) hx hb c1 c2 c3 (fun q => q.elim hnn (fun q => by omega)) (c6 _ hlt) rfl rfl hd (kk p e R s m args below meth c H locs cells slots Q ls C hH hS hl (xfc trivial (xft (xft hst))) hret)
/-- a String constant's bytes: read -/
theorem x_sld {pc pc' a b : Nat} {lv lv' : List (Option xV)} {st st' : List xV} {D D' : xM} {k i : Nat} {j : Int32} (h1 : xrun rows xN 60 pc lv st D = some (pc', lv', .inl j :: .inr (.inr (7, k, i)) :: st', D')) (hr : xrw rows pc' = some (.baload, 1, a, b)) (hin : vp_in j (xsl.getD k 0)) (kk : xW Γ n h rows (pc' + 1) lv' (.inl ((xsb.getD k []).getD j.toNatClampNeg 0) :: st') D' post) : xW Γ n h rows pc lv st D post := by
  refine x_to xN h1 ?_
  intro p e R s m args below meth c H locs cells slots Q ls C hH hS hl hst hret
  obtain ⟨hx, hb, hml, hrt, hlk, hown, hts, hs, hck, hR⟩ := id C
  have hok := xck_row hck hr
  have hd := xok_dec hok
  have hok2 := (xand hok).2
  have hk : k < 10 := xfh (xft hst)
  obtain ⟨-, -, -, v4⟩ := hs.2.2.2.2.1.1 k hk
  obtain ⟨cell, c1, c2, c3, c4, c5, c6, c7⟩ := v4.kept hS.2.1
  have hlt : j.toNatClampNeg < xsl.getD k 0 := Nat.not_le.mp fun q => hin (Or.inr q)
  have hnn : ¬ j < 0 := fun q => hin (Or.inl q)
  exact W.bald (v := .int ((xsb.getD k []).getD j.toNatClampNeg 0)) hx hb c1 c2 c3 (fun q => q.elim hnn (fun q => by omega)) (c6 _ hlt) rfl rfl hd (kk p e R s m args below meth c H locs cells slots Q ls C hH hS hl (xfc trivial (xft (xft hst))) hret)
/-- the script: read, and its length -/
theorem x_xld {pc pc' a b : Nat} {lv lv' : List (Option xV)} {st st' : List xV} {D D' : xM} {k i : Nat} {j : Int32} (h1 : xrun rows xN 60 pc lv st D = some (pc', lv', .inl j :: .inr (.inr (8, k, i)) :: st', D')) (hr : xrw rows pc' = some (.iaload, 1, a, b)) (hin : vp_in j Γ.s.2.1) (kk : xW Γ n h rows (pc' + 1) lv' (.inl (Γ.s.2.2 j.toNatClampNeg) :: st') D' post) : xW Γ n h rows pc lv st D post := by
  refine x_to xN h1 ?_
  intro p e R s m args below meth c H locs cells slots Q ls C hH hS hl hst hret
  obtain ⟨hx, hb, hml, hrt, hlk, hown, hts, hs, hck, hR⟩ := id C
  have hok := xck_row hck hr
  have hd := xok_dec hok
  have hok2 := (xand hok).2
  obtain ⟨v1, v2, v3, -⟩ := hs.2.2.2.2.2.2
  exact va_sld hx hb v1 v2 v3 hS hin hd (kk p e R s m args below meth c H locs cells slots Q ls C hH hS hl (xfc trivial (xft (xft hst))) hret)
theorem x_xln {pc pc' a b : Nat} {lv lv' : List (Option xV)} {st st' : List xV} {D D' : xM} {k i : Nat} (h1 : xrun rows xN 60 pc lv st D = some (pc', lv', .inr (.inr (8, k, i)) :: st', D')) (hr : xrw rows pc' = some (.arraylength, 1, a, b)) (kk : xW Γ n h rows (pc' + 1) lv' (.inl (Int32.ofNat Γ.s.2.1) :: st') D' post) : xW Γ n h rows pc lv st D post := by
  refine x_to xN h1 ?_
  intro p e R s m args below meth c H locs cells slots Q ls C hH hS hl hst hret
  obtain ⟨hx, hb, hml, hrt, hlk, hown, hts, hs, hck, hR⟩ := id C
  have hok := xck_row hck hr
  have hd := xok_dec hok
  have hok2 := (xand hok).2
  obtain ⟨v1, v2, v3, -⟩ := hs.2.2.2.2.2.2
  exact va_slen hx hb v1 v2 v3 hS hd (kk p e R s m args below meth c H locs cells slots Q ls C hH hS hl (xfc trivial (xft hst)) hret)
/-- int rows: written -/
theorem x_ast {pc pc' a b : Nat} {lv lv' : List (Option xV)} {st st' : List xV} {D D' : xM} {k i : Nat} {j x : Int32} (h1 : xrun rows xN 60 pc lv st D = some (pc', lv', .inl x :: .inl j :: .inr (.inr (1, k, i)) :: st', D')) (hr : xrw rows pc' = some (.iastore, 1, a, b)) (hin : vp_in j k) (kk : xW Γ n h rows (pc' + 1) lv' st' (xup D' i j.toNatClampNeg x) post) : xW Γ n h rows pc lv st D post := by
  refine x_to xN h1 ?_
  intro p e R s m args below meth c H locs cells slots Q ls C hH hS hl hst hret
  obtain ⟨hx, hb, hml, hrt, hlk, hown, hts, hs, hck, hR⟩ := id C
  have hok := xck_row hck hr
  have hd := xok_dec hok
  have hok2 := (xand hok).2
  have hcell : xkd[i]? = some (1, k) := xcell (xfh (xft (xft hst))) (Or.inl (by decide))
  refine va_iast hx hb hs.1 hH (xws_D hs D') hS i 0 (xws_at hcell) rfl hin hd (fun H1 locs1 hP1 hD1 hS1 => ?_)
  have e5 : (xws Γ D').set i (Γ.r i, .inl (Γ.c 0, k, .inl (upd (D' i) j.toNatClampNeg x))) = xws Γ (xup D' i j.toNatClampNeg x) := by
    rw [← xup_arr]
    exact xws_set (q := (1, k)) hcell xup_ne
  rw [e5] at hP1
  exact kk p e R s m args below meth c H1 locs1 cells slots Q ls C hP1 hS1 hl (xft (xft (xft hst))) hret
/-- boolean rows: written -/
theorem x_bst {pc pc' a b : Nat} {lv lv' : List (Option xV)} {st st' : List xV} {D D' : xM} {k i : Nat} {j x : Int32} (h1 : xrun rows xN 60 pc lv st D = some (pc', lv', .inl x :: .inl j :: .inr (.inr (2, k, i)) :: st', D')) (hr : xrw rows pc' = some (.bastore, 1, a, b)) (hin : vp_in j k) (kk : xW Γ n h rows (pc' + 1) lv' st' (xup D' i j.toNatClampNeg (vp_nar .boolean x)) post) : xW Γ n h rows pc lv st D post := by
  refine x_to xN h1 ?_
  intro p e R s m args below meth c H locs cells slots Q ls C hH hS hl hst hret
  obtain ⟨hx, hb, hml, hrt, hlk, hown, hts, hs, hck, hR⟩ := id C
  have hok := xck_row hck hr
  have hd := xok_dec hok
  have hok2 := (xand hok).2
  have hcell : xkd[i]? = some (2, k) := xcell (xfh (xft (xft hst))) (Or.inl (by decide))
  refine va_zast hx hb hs.1 hH (xws_D hs D') hS i 1 (xws_at hcell) rfl hin hd (fun H1 locs1 hP1 hD1 hS1 => ?_)
  have e5 : (xws Γ D').set i (Γ.r i, .inl (Γ.c 1, k, .inl (upd (D' i) j.toNatClampNeg (vp_nar .boolean x)))) = xws Γ (xup D' i j.toNatClampNeg (vp_nar .boolean x)) := by
    rw [← xup_arr]
    exact xws_set (q := (2, k)) hcell xup_ne
  rw [e5] at hP1
  exact kk p e R s m args below meth c H1 locs1 cells slots Q ls C hP1 hS1 hl (xft (xft (xft hst))) hret
theorem xB_ok : ∀ k j : Nat, (k = 8 ∨ k = 2) → j < k → xkd[xelB k j]? = some (0, 7) := by
  intro k j hk hj
  rcases hk with rfl | rfl
  · have : ∀ j, j < 8 → xkd[xelB 8 j]? = some (0, 7) := by decide +kernel
    exact this j hj
  · have : ∀ j, j < 2 → xkd[xelB 2 j]? = some (0, 7) := by decide +kernel
    exact this j hj
theorem xB_len (i k : Nat) (hi : xkd[i]? = some (3, k)) : k = 8 ∨ k = 2 := by
  have H : ∀ i : Nat, i < xNC → (xkd.getD i (0, 0)).1 = 3 → (xkd.getD i (0, 0)).2 = 8 ∨ (xkd.getD i (0, 0)).2 = 2 := by decide +kernel
  have e : xkd.getD i (0, 0) = (3, k) := by rw [List.getD_eq_getElem?_getD, hi]; rfl
  have := H i (by rw [← xkd_len]; exact (List.getElem?_eq_some_iff.mp hi).1)
  rw [e] at this
  exact this rfl
theorem xR_len (i k : Nat) (hi : xkd[i]? = some (6, k)) : k = 3 := by
  have H : ∀ i : Nat, i < xNC → (xkd.getD i (0, 0)).1 = 6 → (xkd.getD i (0, 0)).2 = 3 := by decide +kernel
  have e : xkd.getD i (0, 0) = (6, k) := by rw [List.getD_eq_getElem?_getD, hi]; rfl
  have := H i (by rw [← xkd_len]; exact (List.getElem?_eq_some_iff.mp hi).1)
  rw [e] at this
  exact this rfl
theorem xR_ok : ∀ j, j < 3 → xkd[xR0 + 2 * j]? = some (0, 2) := by decide +kernel
/-- a world out of a row of worlds; a reel out of the row of reels -/
theorem x_wld {pc pc' a b : Nat} {lv lv' : List (Option xV)} {st st' : List xV} {D D' : xM} {k i : Nat} {j : Int32} (h1 : xrun rows xN 60 pc lv st D = some (pc', lv', .inl j :: .inr (.inr (3, k, i)) :: st', D')) (hr : xrw rows pc' = some (.aaload, 1, a, b)) (hin : vp_in j k) (kk : xW Γ n h rows (pc' + 1) lv' (.inr (.inr (0, 7, xelB k j.toNatClampNeg)) :: st') D' post) : xW Γ n h rows pc lv st D post := by
  refine x_to xN h1 ?_
  intro p e R s m args below meth c H locs cells slots Q ls C hH hS hl hst hret
  obtain ⟨hx, hb, hml, hrt, hlk, hown, hts, hs, hck, hR⟩ := id C
  have hok := xck_row hck hr
  have hd := xok_dec hok
  have hok2 := (xand hok).2
  have hcell : xkd[i]? = some (3, k) := xcell (xfh (xft hst)) (Or.inl (by decide))
  have hlt : j.toNatClampNeg < k := Nat.not_le.mp fun q => hin (Or.inr q)
  exact va_aldq hx hb hs.1 hH i 2 (xws_at hcell) rfl hin hd (kk p e R s m args below meth c H locs cells slots Q ls C hH hS hl (xfc (v := .inr (.inr (0, 7, xelB k j.toNatClampNeg))) (xvr_cell (Or.inl (by decide)) (xB_ok k _ (xB_len i k hcell) hlt)) (xft (xft hst))) hret)
theorem x_rld {pc pc' a b : Nat} {lv lv' : List (Option xV)} {st st' : List xV} {D D' : xM} {k i : Nat} {j : Int32} (h1 : xrun rows xN 60 pc lv st D = some (pc', lv', .inl j :: .inr (.inr (6, k, i)) :: st', D')) (hr : xrw rows pc' = some (.aaload, 1, a, b)) (hin : vp_in j k) (kk : xW Γ n h rows (pc' + 1) lv' (.inr (.inr (0, 2, xR0 + 2 * j.toNatClampNeg)) :: st') D' post) : xW Γ n h rows pc lv st D post := by
  refine x_to xN h1 ?_
  intro p e R s m args below meth c H locs cells slots Q ls C hH hS hl hst hret
  obtain ⟨hx, hb, hml, hrt, hlk, hown, hts, hs, hck, hR⟩ := id C
  have hok := xck_row hck hr
  have hd := xok_dec hok
  have hok2 := (xand hok).2
  have hcell : xkd[i]? = some (6, k) := xcell (xfh (xft hst)) (Or.inr rfl)
  have hlt : j.toNatClampNeg < k := Nat.not_le.mp fun q => hin (Or.inr q)
  exact va_aldq hx hb hs.1 hH i 3 (xws_at hcell) rfl hin hd (kk p e R s m args below meth c H locs cells slots Q ls C hH hS hl (xfc (v := .inr (.inr (0, 2, xR0 + 2 * j.toNatClampNeg))) (xvr_cell (Or.inl (by decide)) (xR_ok _ (by rw [xR_len i k hcell] at hlt; exact hlt))) (xft (xft hst))) hret)
theorem x_div {pc pc' a b : Nat} {lv lv' : List (Option xV)} {st st' : List xV} {D D' : xM} {x y : Int32} (h1 : xrun rows xN 60 pc lv st D = some (pc', lv', .inl y :: .inl x :: st', D')) (hr : xrw rows pc' = some (.idiv, 1, a, b)) (hne : ¬ y = 0) (kk : xW Γ n h rows (pc' + 1) lv' (.inl (x / y) :: st') D' post) : xW Γ n h rows pc lv st D post := by
  refine x_to xN h1 ?_
  intro p e R s m args below meth c H locs cells slots Q ls C hH hS hl hst hret
  obtain ⟨hx, hb, hml, hrt, hlk, hown, hts, hs, hck, hR⟩ := id C
  have hok := xck_row hck hr
  have hd := xok_dec hok
  have hok2 := (xand hok).2
  exact lv_idiv hx hb hd hne (kk p e R s m args below meth c H locs cells slots Q ls C hH hS hl (xfc trivial (xft (xft hst))) hret)
theorem x_rem {pc pc' a b : Nat} {lv lv' : List (Option xV)} {st st' : List xV} {D D' : xM} {x y : Int32} (h1 : xrun rows xN 60 pc lv st D = some (pc', lv', .inl y :: .inl x :: st', D')) (hr : xrw rows pc' = some (.irem, 1, a, b)) (hne : ¬ y = 0) (kk : xW Γ n h rows (pc' + 1) lv' (.inl (x - x / y * y) :: st') D' post) : xW Γ n h rows pc lv st D post := by
  refine x_to xN h1 ?_
  intro p e R s m args below meth c H locs cells slots Q ls C hH hS hl hst hret
  obtain ⟨hx, hb, hml, hrt, hlk, hown, hts, hs, hck, hR⟩ := id C
  have hok := xck_row hck hr
  have hd := xok_dec hok
  have hok2 := (xand hok).2
  exact lv_irem hx hb hd hne (kk p e R s m args below meth c H locs cells slots Q ls C hH hS hl (xfc trivial (xft (xft hst))) hret)
theorem x_tin {pc pc' a b : Nat} {lv lv' : List (Option xV)} {st st' : List xV} {D D' : xM} {x : Int32} {dflt lo hi : Int} {offs : Array Int} {len : Nat} {off : Int} {tgt : Nat} (h1 : xrun rows xN 60 pc lv st D = some (pc', lv', .inl x :: st', D')) (hr : xrw rows pc' = some (.tableswitch dflt lo hi offs, len, a, b)) (h2 : ¬ x.toInt < lo) (h3 : ¬ hi < x.toInt) (ho : offs[(x.toInt - lo).toNat]? = some off) (ht : (pc' : Int) + off = (tgt : Int)) (kk : xW Γ n h rows tgt lv' st' D' post) : xW Γ n h rows pc lv st D post := by
  refine x_to xN h1 ?_
  intro p e R s m args below meth c H locs cells slots Q ls C hH hS hl hst hret
  obtain ⟨hx, hb, hml, hrt, hlk, hown, hts, hs, hck, hR⟩ := id C
  have hok := xck_row hck hr
  have hd := xok_dec hok
  have hok2 := (xand hok).2
  exact lv_tableIn hx hb hd h2 h3 ho ht (kk p e R s m args below meth c H locs cells slots Q ls C hH hS hl (xft hst) hret)
theorem x_tout {pc pc' a b : Nat} {lv lv' : List (Option xV)} {st st' : List xV} {D D' : xM} {x : Int32} {dflt lo hi : Int} {offs : Array Int} {len : Nat} {tgt : Nat} (h1 : xrun rows xN 60 pc lv st D = some (pc', lv', .inl x :: st', D')) (hr : xrw rows pc' = some (.tableswitch dflt lo hi offs, len, a, b)) (h2 : x.toInt < lo ∨ hi < x.toInt) (ht : (pc' : Int) + dflt = (tgt : Int)) (kk : xW Γ n h rows tgt lv' st' D' post) : xW Γ n h rows pc lv st D post := by
  refine x_to xN h1 ?_
  intro p e R s m args below meth c H locs cells slots Q ls C hH hS hl hst hret
  obtain ⟨hx, hb, hml, hrt, hlk, hown, hts, hs, hck, hR⟩ := id C
  have hok := xck_row hck hr
  have hd := xok_dec hok
  have hok2 := (xand hok).2
  exact lv_tableOut hx hb hd h2 ht (kk p e R s m args below meth c H locs cells slots Q ls C hH hS hl (xft hst) hret)
/-- a boolean field is written -/
theorem x_pfz {pc pc' a b : Nat} {lv lv' : List (Option xV)} {st st' : List xV} {D D' : xM} {idx k i : Nat} {x : Int32} (h1 : xrun rows xN 60 pc lv st D = some (pc', lv', .inl x :: .inr (.inr (0, k, i)) :: st', D')) (hr : xrw rows pc' = some (.putfield idx, 3, k, b + 100)) (hbn : b < xnf k) (hf : xfR k b i = none) (hv : x = 0 ∨ x = 1) (kk : xW Γ n h rows (pc' + 3) lv' st' (xup D' i b x) post) : xW Γ n h rows pc lv st D post := by
  refine x_to xN h1 ?_
  intro p e R s m args below meth c H locs cells slots Q ls C hH hS hl hst hret
  obtain ⟨hx, hb, hml, hrt, hlk, hown, hts, hs, hck, hR⟩ := id C
  have hok := xck_row hck hr
  have hd := xok_dec hok
  have hok2 := (xand hok).2
  have hcell : xkd[i]? = some (0, k) := xcell (xfh (xft hst)) (Or.inl (Nat.zero_le _))
  obtain ⟨pz, hpz⟩ := xzip (p := xplp) rfl (of_decide_eq_true hok2)
  have hok3 := List.all_eq_true.mp xpl_ok _ hpz
  unfold xplB at hok3
  split at hok3
  · rename_i C0 T N hcl
    have hb100 : ¬ b + 100 < 100 := by omega
    simp only [if_neg hb100] at hok3
    obtain ⟨q1234, q5⟩ := xand hok3
    obtain ⟨q123, q4⟩ := xand q1234
    obtain ⟨q12, q3⟩ := xand q123
    obtain ⟨q1, q2⟩ := xand q12
    rw [Nat.add_sub_cancel] at q2 q3 q4 q5
    have hbN : b < N := of_decide_eq_true q2
    obtain ⟨hin, ty0, hty, hnm⟩ := xcl hcl
    refine va_put (Ts := xtb) hx hb hts hin ty0 hty hnm hown hs.1 hH (xws_D hs D') hS i (xws_at hcell) hcl b hbN (hts _ (xat_mem q5)) (fun _ z => z) (of_decide_eq_true q3) (of_decide_eq_true q4) (v := .int x) (by rcases hv with rfl | rfl <;> rfl) (by rcases hv with rfl | rfl <;> rfl) (by simp; exact hbn) hd (fun H1 locs1 hP1 hD1 hS1 => ?_)
    have e5 : (xws Γ D').set i (Γ.r i, .inr (k, ((List.range (xnf k)).map (fun j => xcv Γ (xfv D' k i j))).set b (.int x))) = xws Γ (xup D' i b x) := by
      rw [xup_obj hf]
      exact xws_set (q := (0, k)) hcell xup_ne
    rw [e5] at hP1
    exact kk p e R s m args below meth c H1 locs1 cells slots Q ls C hP1 hS1 hl (xft (xft hst)) hret
  · cases hok3
/-- the ends -/
theorem x_ret {pc pc' a b : Nat} {lv lv' : List (Option xV)} {st : List xV} {D D' : xM} {x : Int32} (h1 : xrun rows xN 60 pc lv st D = some (pc', lv', [.inl x], D')) (hr : xrw rows pc' = some (.ireturn, 1, a, b)) {ty : FieldType} (hty : h.2.2.2 = some ty) (hn : narrow ty (.int x) = .int x) (hp : post (some x) D') : xW Γ n h rows pc lv st D post := by
  refine x_to xN h1 ?_
  intro p e R s m args below meth c H locs cells slots Q ls C hH hS hl hst hret
  obtain ⟨hx, hb, hml, hrt, hlk, hown, hts, hs, hck, hR⟩ := id C
  have hok := xck_row hck hr
  have hd := xok_dec hok
  have hok2 := (xand hok).2
  exact hret (some x) D' H locs pc' ls hp hH hS ⟨ty, hty, hn, hd⟩
theorem x_vret {pc pc' a b : Nat} {lv lv' : List (Option xV)} {st : List xV} {D D' : xM} (h1 : xrun rows xN 60 pc lv st D = some (pc', lv', [], D')) (hr : xrw rows pc' = some (.return_, 1, a, b)) (hty : h.2.2.2 = none) (hp : post none D') : xW Γ n h rows pc lv st D post := by
  refine x_to xN h1 ?_
  intro p e R s m args below meth c H locs cells slots Q ls C hH hS hl hst hret
  obtain ⟨hx, hb, hml, hrt, hlk, hown, hts, hs, hck, hR⟩ := id C
  have hok := xck_row hck hr
  have hd := xok_dec hok
  have hok2 := (xand hok).2
  exact hret none D' H locs pc' ls hp hH hS ⟨hty, hd⟩
end XR
end
section
theorem xml_len : Nat.ble xml.length xmlp.length = true := by decide +kernel
theorem xmv_len : Nat.ble xmv.length xmvp.length = true := by decide +kernel
theorem xms_len : Nat.ble xms.length xmsp.length = true := by decide +kernel
def xrm (n : Nat) : Room := { frames := n, cells := 0, slots := 0, locals := 64 * n }
def xP (Γ : xG) (av : List xV) (D : xM) : Array Value → State → Prop := va_Pc (av.map (xcv Γ)) (fun U => xH Γ D U.heap ∧ xS Γ U ∧ ∀ v ∈ av, xvv v)
def xQ (Γ : xG) (post : Option Int32 → xM → Prop) : Array Value → State → Outcome → State → Prop := fun _ st oc t => (∃ (v : Option Int32) (D' : xM), oc = .returned (v.map Value.int) ∧ post v D' ∧ xH Γ D' t.heap) ∧ va_F (xA Γ) st t
/-- THE CONTRACT of a method: from these arguments and cells it ends with post; n: how deep it may call -/
def xRuns (Γ : xG) (n : Nat) (h : xHd) (av : List xV) (D : xM) (post : Option Int32 → xM → Prop) : Prop := Met Γ.l h.1 (xcd h :: xtb) (xrm n) (xP Γ av D) (xQ Γ post) 0 0 (xA Γ)
def xlv : List xV → List (Option xV)
  | [] => []
  | .inr (.inl x) :: r => some (.inr (.inl x)) :: none :: xlv r
  | .inl x :: r => some (.inl x) :: xlv r
  | .inr (.inr q) :: r => some (.inr (.inr q)) :: xlv r
def xpad (l : List (Option xV)) (n : Nat) : List (Option xV) := l ++ List.replicate (n - l.length) none
theorem xlv_len (Γ : xG) : ∀ av : List xV, (xlv av).length = (lg_sl (av.map (xcv Γ))).length
  | [] => rfl
  | .inr (.inl x) :: r => by
    show (xlv r).length + 1 + 1 = (([Slot.val (Value.long x), Slot.second] : List Slot) ++ lg_sl (r.map (xcv Γ))).length
    rw [List.length_append, ← xlv_len Γ r, List.length_cons, List.length_cons, List.length_nil]
    omega
  | .inl x :: r => by
    show (xlv r).length + 1 = (([Slot.val (Value.int x)] : List Slot) ++ lg_sl (r.map (xcv Γ))).length
    rw [List.length_append, ← xlv_len Γ r, List.length_cons, List.length_nil]
    omega
  | .inr (.inr q) :: r => by
    show (xlv r).length + 1 = (([Slot.val (xcv Γ (.inr (.inr q)))] : List Slot) ++ lg_sl (r.map (xcv Γ))).length
    rw [List.length_append, ← xlv_len Γ r, List.length_cons, List.length_nil]
    omega
theorem xlv_args (Γ : xG) : ∀ (av : List xV) (k i : Nat) (v : xV), (xlv av)[i]? = some (some v) → v ∈ av ∧ (k + i, xcv Γ v) ∈ lv_args k (av.map (xcv Γ))
  | [], _, i, v, h => by simp [xlv] at h
  | .inr (.inl x) :: r, k, i, v, h => by
    match i, h with
    | 0, h => cases h; exact ⟨List.mem_cons_self, List.mem_cons_self⟩
    | 1, h => simp [xlv] at h
    | i + 2, h =>
      have h : (xlv r)[i]? = some (some v) := h
      obtain ⟨q1, q2⟩ := xlv_args Γ r (k + 2) i v h
      refine ⟨List.mem_cons_of_mem _ q1, List.mem_cons_of_mem _ ?_⟩
      have e : k + (i + 2) = k + 2 + i := by omega
      rw [e]
      exact q2
  | .inl x :: r, k, i, v, h => by
    match i, h with
    | 0, h => cases h; exact ⟨List.mem_cons_self, List.mem_cons_self⟩
    | i + 1, h =>
      have h : (xlv r)[i]? = some (some v) := h
      obtain ⟨q1, q2⟩ := xlv_args Γ r (k + 1) i v h
      refine ⟨List.mem_cons_of_mem _ q1, List.mem_cons_of_mem _ ?_⟩
      have e : k + (i + 1) = k + 1 + i := by omega
      rw [e]
      exact q2
  | .inr (.inr q) :: r, k, i, v, h => by
    match i, h with
    | 0, h => cases h; exact ⟨List.mem_cons_self, List.mem_cons_self⟩
    | i + 1, h =>
      have h : (xlv r)[i]? = some (some v) := h
      obtain ⟨q1, q2⟩ := xlv_args Γ r (k + 1) i v h
      refine ⟨List.mem_cons_of_mem _ q1, List.mem_cons_of_mem _ ?_⟩
      have e : k + (i + 1) = k + 1 + i := by omega
      rw [e]
      exact q2
section XC
variable {Γ : xG} {n : Nat} {h : xHd} {rows : List xRow} {post : Option Int32 → xM → Prop}
set_option maxHeartbeats 4000000 in
/-- a method's contract out of its walk -/
theorem x_runs {av : List xV} {D : xM} (hk : xck h rows = true) (hy : plainName h.1.cls = true) (hlen : Nat.ble (xlv av).length h.2.2.1 = true) (kk : xW Γ n h rows 0 (xpad (xlv av) h.2.2.1) [] D post) : xRuns Γ n h av D post := by
  refine Met.ofW (cc := h.2.1) (maxL := h.2.2.1) (ret := h.2.2.2) hy rfl ?_
  intro p e s m args below meth c s₁ B hml hv
  obtain ⟨rfl, hH, hs, hvv⟩ := hv
  have hts := atoms_spec (ws := xcd h :: xtb) B.pre
  have hlen' : (lg_sl (av.map (xcv Γ))).length ≤ h.2.2.1 := by rw [← xlv_len]; exact Nat.le_of_ble_eq_true hlen
  have hl := lv_entry (av.map (xcv Γ)) (n := h.2.2.1) hlen'
  rw [lg_entry_eq]
  have hl2 : xlh Γ h ((lg_sl (av.map (xcv Γ)) ++ List.replicate (h.2.2.1 - (lg_sl (av.map (xcv Γ))).length) Slot.unset).toArray) (xpad (xlv av) h.2.2.1) := by
    refine ⟨hl.1, hl.2.1, fun i v hi => ?_, ?_⟩
    · by_cases hlt : i < (xlv av).length
      · rw [xpad, List.getElem?_append_left hlt] at hi
        obtain ⟨q1, q2⟩ := xlv_args Γ av 0 i v hi
        refine ⟨hvv v q1, ?_⟩
        have := hl.2.2 _ q2
        simpa using this
      · rw [xpad, List.getElem?_append_right (by omega), List.getElem?_replicate] at hi
        split at hi
        · cases hi
        · cases hi
    · have := Nat.le_of_ble_eq_true hlen
      simp [xpad]
      omega
  exact kk p e (xrm n) s m _ below meth c s.heap [] 0 0 _ _ ⟨B.exec, B.bytes, hml, B.returns, B.notSynchronized, findClass_of_methodNamed B.named, fun w hw => hts w (List.mem_cons_of_mem _ hw), hs, hk, Nat.le_refl _, Nat.le_refl _, Nat.le_refl _, Nat.le_refl _⟩ hH va_S.rf hl2 (fun v hv => by cases hv) (fun v D' H' locs' pc' ls' hp hH' hS' hrt => by
    have hq : ∀ t : State, t.heap = H' → s.WarmedH t.vm → xQ Γ post (av.map (xcv Γ)).toArray s (.returned (v.map Value.int)) t := fun t ht _ => ⟨⟨v, D', rfl, hp, by rw [ht]; exact hH'⟩, hS'.F ht⟩
    cases v with
    | none => exact W.vret B.exec B.bytes (B.returns.trans hrt.1) hq hS'.2.2 hrt.2 B.notSynchronized
    | some x =>
      obtain ⟨ty, e1, e2, e3⟩ := hrt
      exact W.zret B.exec B.bytes (B.returns.trans e1) e2 hq hS'.2.2 e3 B.notSynchronized)
theorem xP_blind {av : List xV} {D : xM} : FrameBlind (xP Γ av D) := by
  intro a U g mk hq
  obtain ⟨q1, q2, q3, q4⟩ := hq
  exact ⟨q1, q2, xS.same q3 rfl rfl, q4⟩
theorem xcd_good {g : xHd} (hc : xcd g ∈ xtb) : GoodIn xtb (xcd g :: xtb) := by
  intro w hw
  rcases List.mem_cons.mp hw with e | e
  · rw [e]; exact ⟨hc, xtb_good hc⟩
  · exact ⟨e, xtb_good e⟩
def xcat (v : xV) : Nat := match v with
  | .inr (.inl _) => 2
  | _ => 1
theorem xcat_ok (Γ : xG) (v : xV) : (xcv Γ v).category = xcat v := by
  rcases v with x | x | x <;> rfl
set_option maxHeartbeats 4000000 in
/-- behind a call -/
theorem x_after {rest : List xV} {lv : List (Option xV)} {pc : Nat} {p : Program} {e : Env} {R : Room} {s : State} {m : MethodId} {args : Array Value} {below : List Frame} {meth : Method} {c : Code} {H : Heap} {locs : List Loc} {cells slots : Nat} {Q : State → Prop} {ls : Array Slot} {st0 : List Value} {va : Array Value}
    (hrun : va_Run p Γ.l e R s m args below meth c H locs cells slots 0 0 (F0 m pc ls st0) (rest.map (xcv Γ)) (xQ Γ (fun v D2 => xW Γ n h rows (pc + 3) lv (v.toList.map .inl ++ rest) D2 post) va) (xA Γ))
    (C : xC Γ n h rows p R s m args meth c cells slots) (hS : va_S (xA Γ) s.heap H locs) (hl : xlh Γ h ls lv) (hst : ∀ v ∈ rest, xvv v)
    (hret : ∀ (v : Option Int32) (D' : xM) (H' : Heap) (locs' : List Loc) (pc' : Nat) (ls' : Array Slot), post v D' → xH Γ D' H' → va_S (xA Γ) s.heap H' locs' → xrt h pc' v → W p Γ.l e R s m args below meth c H' locs' cells slots Q (F0 m pc' ls' (v.toList.map Value.int))) :
    W p Γ.l e R s m args below meth c H locs cells slots Q (F0 m pc ls st0) := by
  intro T hT X
  obtain ⟨v, st₀, t, T', L, h0, X', hL, e1, e2, ⟨⟨r, D2, hv, hp, hb⟩, hz, hk⟩, st⟩ := hrun T hT X
  cases hv
  rw [h0] at hz hk
  have hS' : va_S (xA Γ) s.heap T'.heap (locs ++ L) := ⟨Nat.le_trans hS.1 (by rw [e1]; exact hz), fun q h1 h2 => by rw [e1, hk q (Nat.lt_of_lt_of_le h1 hS.1) h2]; exact hS.2.1 q h1 h2, fun q hq => by
      rcases List.mem_append.mp hq with z | z
      · exact hS.2.2 q z
      · exact hL q z⟩
  have K := hp p e R s m args below meth c T'.heap (locs ++ L) cells slots Q ls C (by rw [e1]; exact hb) hS' hl (fun u hu => by
      rcases List.mem_append.mp hu with z | z
      · obtain ⟨x, -, rfl⟩ := List.mem_map.mp z
        trivial
      · exact hst u z) hret
  obtain ⟨t2, a1, b1⟩ := K T' rfl X'
  refine ⟨t2, st t2 ?_, b1⟩
  have e9 : ((r.map Value.int).toList ++ rest.map (xcv Γ)) = (r.toList.map (Sum.inl : Int32 → xV) ++ rest).map (xcv Γ) := by
    cases r <;> simp [xcv]
  show Steps p.tables e below (T'.setTop { F0 m pc ls st0 with pc := pc + 3, stack := ((r.map Value.int).toList ++ rest.map (xcv Γ)) }) t2
  rw [e9]
  exact a1
set_option maxHeartbeats 4000000 in
/-- invokevirtual -/
theorem x_call {pc pc' a b : Nat} {lv lv' : List (Option xV)} {st st' : List xV} {D D' : xM} {idx : Nat} {g : xHd} {k i : Nat} (As : List xV) {rest : List xV} (h1 : xrun rows xN 60 pc lv st D = some (pc', lv', st', D')) (hr : xrw rows pc' = some (.invokevirtual idx, 3, a, b)) (hg : xsg[a]? = some g) (hst' : st' = As.reverse ++ .inr (.inr (0, k, i)) :: rest) (hb2 : As.length = b) (hcls : (vwCl[k]?).map (fun q => q.1) = some g.1.cls) (hroom : Nat.ble ((rest.map xcat).sum) 8 = true)
    (kk : xRuns Γ n g (.inr (.inr (0, k, i)) :: As) D' (fun v D2 => xW Γ (n + 1) h rows (pc' + 3) lv' (v.toList.map .inl ++ rest) D2 post)) : xW Γ (n + 1) h rows pc lv st D post := by
  refine x_to xN h1 ?_
  intro p e R s m args below meth c H locs cells slots Q ls C hH hS hl hst hret
  obtain ⟨hx, hb, hml, hrt, hlk, hown, hts, hs, hck, hR⟩ := id C
  have hok := xck_row hck hr
  have hd := xok_dec hok
  have hok2 := (xand hok).2
  subst hst'
  obtain ⟨p1, hp1⟩ := xzip (p := xmlp) xml_len (of_decide_eq_true (xand hok2).1)
  obtain ⟨p2, hp2⟩ := xzip (p := xmvp) xmv_len (of_decide_eq_true (xand hok2).2)
  have c1 := List.all_eq_true.mp xml_ok _ hp1
  have w2 := List.all_eq_true.mp xmv_ok _ hp2
  have c3 := xmapz xmv_c _ hp2
  simp only [xmlB, xmvB, hg] at c1 w2 c3
  have c3 := xcd_in c3
  obtain ⟨q12, q3⟩ := xand w2
  obtain ⟨q01, q2⟩ := xand q12
  obtain ⟨q1, c2⟩ := xand q01
  obtain ⟨c45, c6⟩ := xand q1
  obtain ⟨c4, c5⟩ := xand c45
  have hmx : g.2.2.1 ≤ 40 := of_decide_eq_true c6
  have hvr : xvr 0 k i := hst (.inr (.inr (0, k, i))) (List.mem_append_right _ List.mem_cons_self)
  have hcell : xkd[i]? = some (0, k) := xcell hvr (Or.inl (Nat.zero_le _))
  have hrest : ∀ v ∈ rest, xvv v := fun v hv => hst v (List.mem_append_right _ (List.mem_cons_of_mem _ hv))
  have hAs : ∀ v ∈ As, xvv v := fun v hv => hst v (List.mem_append_left _ (List.mem_reverse.mpr hv))
  have cw : CallW R s args h.1.cls g.1.cls idx g.1 g.2.1 g.2.2.1 g.2.2.2 (xcd g :: xtb) (xrm n) 0 0 b :=
    ⟨callB_of b hts (xcd_good c3) rfl rfl rfl (hts _ (xat_mem c2)) (hts _ (xat_mem c1)) ⟨(of_decide_eq_true c4 : _ ∧ _).1, (of_decide_eq_true c4 : _ ∧ _).2, of_decide_eq_true c5⟩ ⟨by have := hR.1; show n + 1 ≤ R.frames; omega, by have := hR.2.1; show 8 + (g.2.2.1 + 11) + 64 * n ≤ R.locals; omega⟩, hts _ (xat_mem q2), hts _ (xat_mem q3)⟩
  obtain ⟨q, hq, hqe⟩ : ∃ q, vwCl[k]? = some q ∧ q.1 = g.1.cls := by
    cases hz : vwCl[k]? with
    | none => rw [hz] at hcls; cases hcls
    | some q => rw [hz] at hcls; exact ⟨q, rfl, Option.some.inj hcls⟩
  have hrecv := va_recv hs.1 hH hq (xws_at (D := D') hcell)
  rw [hqe] at hrecv
  have hpre : PreV s H g.1.cls (Γ.r i) (xP Γ (.inr (.inr (0, k, i)) :: As) D') (As.map (xcv Γ)) := ⟨xP_blind, hrecv, fun U hU hW => ⟨rfl, by rw [hU]; exact hH, hs.warm hW (by rw [hU]; exact hS.1) (fun z z1 z2 => by rw [hU]; exact hS.2.1 z z1 z2), fun v hv => by
      rcases List.mem_cons.mp hv with z | z
      · rw [z]; exact hvr
      · exact hAs v z⟩⟩
  have hstk : (As.reverse ++ .inr (.inr (0, k, i)) :: rest).map (xcv Γ) = (As.map (xcv Γ)).reverse ++ .ref (Γ.r i) :: rest.map (xcv Γ) := by
    rw [List.map_append, List.map_reverse]; rfl
  rw [hstk]
  have hcat : ((rest.map (xcv Γ)).map fun v => v.category).sum ≤ 8 := by
    have := Nat.le_of_ble_eq_true hroom
    rw [List.map_map]
    have e2 : (Value.category ∘ xcv Γ) = xcat := funext (xcat_ok Γ)
    show (List.map (Value.category ∘ xcv Γ) rest).sum ≤ 8
    rw [e2]
    exact this
  exact x_after (va_runV (As := As.map (xcv Γ)) (rest := rest.map (xcv Γ)) ⟨hx, hb, hml, hown, hts⟩ kk cw hpre rfl (by simp [hb2]) hl.1 rfl (by show 2 * 0 + _ ≤ 8; omega) hd ⟨by have := hR.2.2.1; omega, by have := hR.2.2.2; omega⟩) C hS hl hrest hret
set_option maxHeartbeats 4000000 in
/-- invokestatic -/
theorem x_scall {pc pc' a b : Nat} {lv lv' : List (Option xV)} {st st' : List xV} {D D' : xM} {idx : Nat} {g : xHd} (As : List xV) {rest : List xV} (h1 : xrun rows xN 60 pc lv st D = some (pc', lv', st', D')) (hr : xrw rows pc' = some (.invokestatic idx, 3, a, b)) (ha : Nat.beq a 1000 = false) (hg : xsg[a]? = some g) (hst' : st' = As.reverse ++ rest) (hb2 : As.length = b) (hroom : Nat.ble ((rest.map xcat).sum) 8 = true)
    (kk : xRuns Γ n g As D' (fun v D2 => xW Γ (n + 1) h rows (pc' + 3) lv' (v.toList.map .inl ++ rest) D2 post)) : xW Γ (n + 1) h rows pc lv st D post := by
  refine x_to xN h1 ?_
  intro p e R s m args below meth c H locs cells slots Q ls C hH hS hl hst hret
  obtain ⟨hx, hb, hml, hrt, hlk, hown, hts, hs, hck, hR⟩ := id C
  have hok := xck_row hck hr
  have hd := xok_dec hok
  have hok2 := (xand hok).2
  have ha2 : ¬ a = 1000 := fun z => by rw [z] at ha; cases ha
  simp only [if_neg ha2] at hok2
  subst hst'
  obtain ⟨p1, hp1⟩ := xzip (p := xmlp) xml_len (of_decide_eq_true (xand hok2).1)
  obtain ⟨p2, hp2⟩ := xzip (p := xmsp) xms_len (of_decide_eq_true (xand hok2).2)
  have c1 := List.all_eq_true.mp xml_ok _ hp1
  have w2 := List.all_eq_true.mp xms_ok _ hp2
  have c3 := xmapz xms_c _ hp2
  simp only [xmlB, xmsB, hg] at c1 w2 c3
  have c3 := xcd_in c3
  obtain ⟨q01, q2⟩ := xand w2
  obtain ⟨q1, c2⟩ := xand q01
  obtain ⟨c45, c6⟩ := xand q1
  obtain ⟨c4, c5⟩ := xand c45
  have hmx : g.2.2.1 ≤ 40 := of_decide_eq_true c6
  have hrest : ∀ v ∈ rest, xvv v := fun v hv => hst v (List.mem_append_right _ hv)
  have hAs : ∀ v ∈ As, xvv v := fun v hv => hst v (List.mem_append_left _ (List.mem_reverse.mpr hv))
  have cw : CallB R s args h.1.cls idx g.1 g.2.1 g.2.2.1 g.2.2.2 (xcd g :: xtb) (xrm n) 0 0 b ∧ (Cond.static g.1).before args s = true :=
    ⟨callB_of b hts (xcd_good c3) rfl rfl rfl (hts _ (xat_mem c2)) (hts _ (xat_mem c1)) ⟨(of_decide_eq_true c4 : _ ∧ _).1, (of_decide_eq_true c4 : _ ∧ _).2, of_decide_eq_true c5⟩ ⟨by have := hR.1; show n + 1 ≤ R.frames; omega, by have := hR.2.1; show 8 + (g.2.2.1 + 11) + 64 * n ≤ R.locals; omega⟩, hts _ (xat_mem q2)⟩
  have hpre : PreS s H (xP Γ As D') (As.map (xcv Γ)) := ⟨xP_blind, fun U hU hW => ⟨rfl, by rw [hU]; exact hH, hs.warm hW (by rw [hU]; exact hS.1) (fun z z1 z2 => by rw [hU]; exact hS.2.1 z z1 z2), hAs⟩⟩
  have hstk : (As.reverse ++ rest).map (xcv Γ) = (As.map (xcv Γ)).reverse ++ rest.map (xcv Γ) := by
    rw [List.map_append, List.map_reverse]
  rw [hstk]
  have hcat : ((rest.map (xcv Γ)).map fun v => v.category).sum ≤ 8 := by
    have := Nat.le_of_ble_eq_true hroom
    rw [List.map_map]
    have e2 : (Value.category ∘ xcv Γ) = xcat := funext (xcat_ok Γ)
    show (List.map (Value.category ∘ xcv Γ) rest).sum ≤ 8
    rw [e2]
    exact this
  exact x_after (va_runS (As := As.map (xcv Γ)) (rest := rest.map (xcv Γ)) ⟨hx, hb, hml, hown, hts⟩ kk cw hpre rfl (by simp [hb2]) hl.1 rfl (by show 2 * 0 + _ ≤ 8; omega) hd ⟨by have := hR.2.2.1; omega, by have := hR.2.2.2; omega⟩) C hS hl hrest hret
end XC
end
section
def xcp (D : xM) (i : Nat) (f : Nat → Int32) : xM := fun a => if a = i then f else D a
section XCP
variable {Γ : xG} {n : Nat} {h : xHd} {rows : List xRow} {post : Option Int32 → xM → Prop}
set_option maxHeartbeats 4000000 in
/-- System.arraycopy of int rows -/
theorem x_copy {pc pc' b : Nat} {lv lv' : List (Option xV)} {st st' : List xV} {D D' : xM} {idx k0 i0 k1 i1 : Nat} {sp dp z : Int32} {rest : List xV} (h1 : xrun rows xN 60 pc lv st D = some (pc', lv', .inl z :: .inl dp :: .inr (.inr (1, k1, i1)) :: .inl sp :: .inr (.inr (1, k0, i0)) :: rest, D')) (hr : xrw rows pc' = some (.invokestatic idx, 3, 1000, b)) (g1 : ¬ sp < 0) (g2 : ¬ dp < 0) (g3 : ¬ z < 0) (g4 : sp.toNatClampNeg + z.toNatClampNeg ≤ k0) (g5 : dp.toNatClampNeg + z.toNatClampNeg ≤ k1) (hroom : Nat.ble ((rest.map xcat).sum) 8 = true)
    (kk : xW Γ (n + 1) h rows (pc' + 3) lv' rest (xcp D' i1 (va_cpy (D' i0) (D' i1) sp.toNatClampNeg dp.toNatClampNeg z.toNatClampNeg)) post) : xW Γ (n + 1) h rows pc lv st D post := by
  refine x_to xN h1 ?_
  intro p e R s m args below meth c H locs cells slots Q ls C hH hS hl hst hret
  obtain ⟨hx, hb, hml, hrt, hlk, hown, hts, hs, hck, hR⟩ := id C
  have hok := xck_row hck hr
  have hd := xok_dec hok
  have hok2 := (xand hok).2
  simp only [if_true] at hok2
  obtain ⟨q123, q4⟩ := xand hok2
  obtain ⟨q12, q3⟩ := xand q123
  obtain ⟨q1, q2⟩ := xand q12
  have hc1 : xkd[i1]? = some (1, k1) := xcell (xfh (xft (xft hst))) (Or.inl (by decide))
  have hc0 : xkd[i0]? = some (1, k0) := xcell (xfh (xft (xft (xft (xft hst))))) (Or.inl (by decide))
  have hcat : ((rest.map (xcv Γ)).map fun v => v.category).sum ≤ 8 := by
    have := Nat.le_of_ble_eq_true hroom
    rw [List.map_map]
    have e2 : (Value.category ∘ xcv Γ) = xcat := funext (xcat_ok Γ)
    show (List.map (Value.category ∘ xcv Γ) rest).sum ≤ 8
    rw [e2]
    exact this
  have hnw : nativeFrameWords "java/lang/System" "arraycopy" 5 = 7 := by decide +kernel
  refine va_copyi hx hb (hml.trans hl.1.symm) hown (hts _ (xin_mem q1)) (hts _ (xin_mem q2)) (hts _ (xin_mem q3)) (hts _ (xin_mem q4)) hs.1 hH (xws_D hs D') hS i0 i1 0 0 (xws_at hc0) (xws_at hc1) rfl rfl rfl g1 g2 g3 g4 g5 (fun _ _ => rfl) (by have := hR.1; omega) (by rw [hnw]; have := hR.2.1; omega) hd (fun H1 locs1 hP1 hD1 hS1 => ?_)
  have e5 : (xws Γ D').set i1 (Γ.r i1, .inl (Γ.c 0, k1, .inl (va_cpy (D' i0) (D' i1) sp.toNatClampNeg dp.toNatClampNeg z.toNatClampNeg))) = xws Γ (xcp D' i1 (va_cpy (D' i0) (D' i1) sp.toNatClampNeg dp.toNatClampNeg z.toNatClampNeg)) := by
    have e6 : xce Γ (xcp D' i1 (va_cpy (D' i0) (D' i1) sp.toNatClampNeg dp.toNatClampNeg z.toNatClampNeg)) i1 (1, k1) = .inl (Γ.c 0, k1, .inl (va_cpy (D' i0) (D' i1) sp.toNatClampNeg dp.toNatClampNeg z.toNatClampNeg)) := by
      simp [xce, xcp]
    rw [← e6]
    exact xws_set (q := (1, k1)) hc1 (fun a ha => by simp [xcp, ha])
  rw [e5] at hP1
  exact kk p e R s m args below meth c H1 locs1 cells slots Q ls C hP1 hS1 hl (xft (xft (xft (xft (xft hst))))) hret
end XCP
end
section
def rX0_readOver : List xRow := [(0, .aload_n 0, 1, 0, 0), (1, .getfield 12, 3, 0, 1), (4, .aload_n 1, 1, 0, 0), (5, .invokevirtual 22, 3, 55, 1), (8, .aload_n 0, 1, 0, 0), (9, .getfield 18, 3, 0, 0), (12, .invokevirtual 26, 3, 34, 0), (15, .aload_n 0, 1, 0, 0), 
  (16, .iconst 1, 1, 0, 0), (17, .putfield 31, 3, 0, 2), (20, .aload_n 0, 1, 0, 0), (21, .getfield 31, 3, 0, 2), (24, .bipush 20, 2, 0, 0), (26, .if_icmp .gt 77, 3, 103, 0), (29, .aload_n 0, 1, 0, 0), (30, .getfield 18, 3, 0, 0), 
  (33, .invokevirtual 35, 3, 35, 0), (36, .aload_n 0, 1, 0, 0), (37, .invokevirtual 38, 3, 2, 0), (40, .ifCond .ne 11, 3, 51, 0), (43, .aload_n 0, 1, 0, 0), (44, .getfield 18, 3, 0, 0), (47, .getfield 42, 3, 5, 2), (50, .ireturn, 1, 0, 0), 
  (51, .aload_n 0, 1, 0, 0), (52, .getfield 18, 3, 0, 0), (55, .invokevirtual 35, 3, 35, 0), (58, .aload_n 0, 1, 0, 0), (59, .getfield 18, 3, 0, 0), (62, .invokevirtual 45, 3, 37, 0), (65, .ifCond .eq 5, 3, 70, 0), (68, .iconst (-1), 1, 0, 0), 
  (69, .ireturn, 1, 0, 0), (70, .aload_n 0, 1, 0, 0), (71, .getfield 18, 3, 0, 0), (74, .bipush 59, 2, 0, 0), (76, .invokevirtual 48, 3, 38, 1), (79, .ifCond .ne 11, 3, 90, 0), (82, .aload_n 0, 1, 0, 0), (83, .getfield 18, 3, 0, 0), 
  (86, .getfield 42, 3, 5, 2), (89, .ireturn, 1, 0, 0), (90, .aload_n 0, 1, 0, 0), (91, .dup, 1, 0, 0), (92, .getfield 31, 3, 0, 2), (95, .iconst 1, 1, 0, 0), (96, .iadd, 1, 0, 0), (97, .putfield 31, 3, 0, 2), 
  (100, .goto (-80), 3, 20, 0), (103, .aload_n 0, 1, 0, 0), (104, .getfield 18, 3, 0, 0), (107, .getfield 42, 3, 5, 2), (110, .ireturn, 1, 0, 0)]
abbrev hX0_readOver : xHd := (yX0_readOver, cX0_readOver, 2, some .int)
theorem kX0_readOver : xck hX0_readOver rX0_readOver = true := by decide +kernel
def rX0_readClause : List xRow := [(0, .aload_n 0, 1, 0, 0), (1, .invokevirtual 52, 3, 3, 0), (4, .istore_n 1, 1, 0, 0), (5, .iload_n 1, 1, 0, 0), (6, .iconst (-1), 1, 0, 0), (7, .if_icmp .eq 9, 3, 16, 0), (10, .aload_n 0, 1, 0, 0), (11, .iload_n 1, 1, 0, 0), 
  (12, .invokevirtual 56, 3, 4, 1), (15, .ireturn, 1, 0, 0), (16, .aload_n 0, 1, 0, 0), (17, .getfield 18, 3, 0, 0), (20, .ldc 60, 2, 5, 1), (22, .invokevirtual 62, 3, 39, 1), (25, .ifCond .eq 12, 3, 37, 0), (28, .aload_n 0, 1, 0, 0), 
  (29, .getfield 12, 3, 0, 1), (32, .invokevirtual 66, 3, 56, 0), (35, .iconst 1, 1, 0, 0), (36, .ireturn, 1, 0, 0), (37, .aload_n 0, 1, 0, 0), (38, .getfield 18, 3, 0, 0), (41, .ldc 69, 2, 6, 1), (43, .invokevirtual 62, 3, 39, 1), 
  (46, .ifCond .eq 8, 3, 54, 0), (49, .aload_n 0, 1, 0, 0), (50, .invokevirtual 71, 3, 5, 0), (53, .ireturn, 1, 0, 0), (54, .aload_n 0, 1, 0, 0), (55, .getfield 18, 3, 0, 0), (58, .ldc 74, 2, 7, 1), (60, .invokevirtual 62, 3, 39, 1), 
  (63, .ifCond .eq 8, 3, 71, 0), (66, .aload_n 0, 1, 0, 0), (67, .invokevirtual 76, 3, 6, 0), (70, .ireturn, 1, 0, 0), (71, .aload_n 0, 1, 0, 0), (72, .getfield 18, 3, 0, 0), (75, .ldc 79, 2, 8, 1), (77, .invokevirtual 62, 3, 39, 1), 
  (80, .ifCond .eq 8, 3, 88, 0), (83, .aload_n 0, 1, 0, 0), (84, .invokevirtual 81, 3, 7, 0), (87, .ireturn, 1, 0, 0), (88, .aload_n 0, 1, 0, 0), (89, .getfield 18, 3, 0, 0), (92, .ldc 84, 2, 9, 1), (94, .invokevirtual 62, 3, 39, 1), 
  (97, .ifCond .eq 14, 3, 111, 0), (100, .aload_n 0, 1, 0, 0), (101, .invokevirtual 86, 3, 8, 0), (104, .ifCond .eq 7, 3, 111, 0), (107, .iconst 1, 1, 0, 0), (108, .goto 4, 3, 112, 0), (111, .iconst 0, 1, 0, 0), (112, .ireturn, 1, 0, 0)]
abbrev hX0_readClause : xHd := (yX0_readClause, cX0_readClause, 2, some .boolean)
theorem kX0_readClause : xck hX0_readClause rX0_readClause = true := by decide +kernel
def rX0_kindNamed : List xRow := [(0, .aload_n 0, 1, 0, 0), (1, .getfield 18, 3, 0, 0), (4, .ldc 89, 2, 0, 1), (6, .invokevirtual 62, 3, 39, 1), (9, .ifCond .eq 5, 3, 14, 0), (12, .iconst 0, 1, 0, 0), (13, .ireturn, 1, 0, 0), (14, .aload_n 0, 1, 0, 0), 
  (15, .getfield 18, 3, 0, 0), (18, .ldc 91, 2, 1, 1), (20, .invokevirtual 62, 3, 39, 1), (23, .ifCond .eq 5, 3, 28, 0), (26, .iconst 1, 1, 0, 0), (27, .ireturn, 1, 0, 0), (28, .aload_n 0, 1, 0, 0), (29, .getfield 18, 3, 0, 0), 
  (32, .ldc 93, 2, 2, 1), (34, .invokevirtual 62, 3, 39, 1), (37, .ifCond .eq 5, 3, 42, 0), (40, .iconst 2, 1, 0, 0), (41, .ireturn, 1, 0, 0), (42, .aload_n 0, 1, 0, 0), (43, .getfield 18, 3, 0, 0), (46, .ldc 95, 2, 3, 1), 
  (48, .invokevirtual 62, 3, 39, 1), (51, .ifCond .eq 5, 3, 56, 0), (54, .iconst 3, 1, 0, 0), (55, .ireturn, 1, 0, 0), (56, .aload_n 0, 1, 0, 0), (57, .getfield 18, 3, 0, 0), (60, .ldc 97, 2, 4, 1), (62, .invokevirtual 62, 3, 39, 1), 
  (65, .ifCond .eq 7, 3, 72, 0), (68, .iconst 4, 1, 0, 0), (69, .goto 4, 3, 73, 0), (72, .iconst (-1), 1, 0, 0), (73, .ireturn, 1, 0, 0)]
abbrev hX0_kindNamed : xHd := (yX0_kindNamed, cX0_kindNamed, 1, some .int)
theorem kX0_kindNamed : xck hX0_kindNamed rX0_kindNamed = true := by decide +kernel
def rX0_readBird : List xRow := [(0, .aload_n 0, 1, 0, 0), (1, .getfield 12, 3, 0, 1), (4, .getfield 99, 3, 7, 0), (7, .bipush 8, 2, 0, 0), (9, .if_icmp .lt 5, 3, 14, 0), (12, .iconst 0, 1, 0, 0), (13, .ireturn, 1, 0, 0), (14, .aload_n 0, 1, 0, 0), 
  (15, .iconst 4, 1, 0, 0), (16, .invokevirtual 102, 3, 9, 1), (19, .istore_n 2, 1, 0, 0), (20, .iload_n 2, 1, 0, 0), (21, .iconst (-1), 1, 0, 0), (22, .if_icmp .ne 5, 3, 27, 0), (25, .iconst 0, 1, 0, 0), (26, .ireturn, 1, 0, 0), 
  (27, .aload_n 0, 1, 0, 0), (28, .getfield 12, 3, 0, 1), (31, .iload_n 1, 1, 0, 0), (32, .iload_n 2, 1, 0, 0), (33, .invokevirtual 106, 3, 57, 2), (36, .iconst 1, 1, 0, 0), (37, .ireturn, 1, 0, 0)]
abbrev hX0_readBird : xHd := (yX0_readBird, cX0_readBird, 3, some .boolean)
theorem kX0_readBird : xck hX0_readBird rX0_readBird = true := by decide +kernel
def rX0_readMan : List xRow := [(0, .aload_n 0, 1, 0, 0), (1, .getfield 12, 3, 0, 1), (4, .getfield 110, 3, 7, 1), (7, .iconst 4, 1, 0, 0), (8, .if_icmp .lt 5, 3, 13, 0), (11, .iconst 0, 1, 0, 0), (12, .ireturn, 1, 0, 0), (13, .aload_n 0, 1, 0, 0), 
  (14, .getfield 18, 3, 0, 0), (17, .invokevirtual 35, 3, 35, 0), (20, .aload_n 0, 1, 0, 0), (21, .getfield 18, 3, 0, 0), (24, .invokevirtual 113, 3, 42, 0), (27, .istore_n 1, 1, 0, 0), (28, .iload_n 1, 1, 0, 0), (29, .ifCond .ne 5, 3, 34, 0), 
  (32, .iconst 0, 1, 0, 0), (33, .ireturn, 1, 0, 0), (34, .aload_n 0, 1, 0, 0), (35, .getfield 12, 3, 0, 1), (38, .iload_n 1, 1, 0, 0), (39, .invokevirtual 116, 3, 58, 1), (42, .iconst 1, 1, 0, 0), (43, .ireturn, 1, 0, 0)]
abbrev hX0_readMan : xHd := (yX0_readMan, cX0_readMan, 2, some .boolean)
theorem kX0_readMan : xck hX0_readMan rX0_readMan = true := by decide +kernel
def rX0_readKnows : List xRow := [(0, .aload_n 0, 1, 0, 0), (1, .aload_n 0, 1, 0, 0), (2, .getfield 12, 3, 0, 1), (5, .getfield 99, 3, 7, 0), (8, .invokevirtual 102, 3, 9, 1), (11, .istore_n 1, 1, 0, 0), (12, .iload_n 1, 1, 0, 0), (13, .iconst (-1), 1, 0, 0), 
  (14, .if_icmp .ne 5, 3, 19, 0), (17, .iconst 0, 1, 0, 0), (18, .ireturn, 1, 0, 0), (19, .aload_n 0, 1, 0, 0), (20, .getfield 18, 3, 0, 0), (23, .invokevirtual 35, 3, 35, 0), (26, .aload_n 0, 1, 0, 0), (27, .getfield 18, 3, 0, 0), 
  (30, .invokevirtual 120, 3, 41, 0), (33, .istore_n 2, 1, 0, 0), (34, .iload_n 2, 1, 0, 0), (35, .iconst (-1), 1, 0, 0), (36, .if_icmp .ne 5, 3, 41, 0), (39, .iconst 0, 1, 0, 0), (40, .ireturn, 1, 0, 0), (41, .aload_n 0, 1, 0, 0), 
  (42, .bipush 10, 2, 0, 0), (44, .invokevirtual 102, 3, 9, 1), (47, .istore_n 3, 1, 0, 0), (48, .iload_n 3, 1, 0, 0), (49, .iconst (-1), 1, 0, 0), (50, .if_icmp .ne 5, 3, 55, 0), (53, .iconst 0, 1, 0, 0), (54, .ireturn, 1, 0, 0), 
  (55, .aload_n 0, 1, 0, 0), (56, .getfield 12, 3, 0, 1), (59, .getfield 123, 3, 7, 6), (62, .iload_n 1, 1, 0, 0), (63, .bipush 10, 2, 0, 0), (65, .imul, 1, 0, 0), (66, .iload_n 2, 1, 0, 0), (67, .iadd, 1, 0, 0), 
  (68, .iload_n 3, 1, 0, 0), (69, .iastore, 1, 0, 0), (70, .iconst 1, 1, 0, 0), (71, .ireturn, 1, 0, 0)]
abbrev hX0_readKnows : xHd := (yX0_readKnows, cX0_readKnows, 4, some .boolean)
theorem kX0_readKnows : xck hX0_readKnows rX0_readKnows = true := by decide +kernel
def rX0_readSits : List xRow := [(0, .aload_n 0, 1, 0, 0), (1, .aload_n 0, 1, 0, 0), (2, .getfield 12, 3, 0, 1), (5, .getfield 110, 3, 7, 1), (8, .invokevirtual 102, 3, 9, 1), (11, .istore_n 1, 1, 0, 0), (12, .iload_n 1, 1, 0, 0), (13, .iconst (-1), 1, 0, 0), 
  (14, .if_icmp .ne 5, 3, 19, 0), (17, .iconst 0, 1, 0, 0), (18, .ireturn, 1, 0, 0), (19, .aload_n 0, 1, 0, 0), (20, .aload_n 0, 1, 0, 0), (21, .getfield 12, 3, 0, 1), (24, .getfield 99, 3, 7, 0), (27, .invokevirtual 102, 3, 9, 1), 
  (30, .istore_n 2, 1, 0, 0), (31, .iload_n 2, 1, 0, 0), (32, .iconst (-1), 1, 0, 0), (33, .if_icmp .ne 5, 3, 38, 0), (36, .iconst 0, 1, 0, 0), (37, .ireturn, 1, 0, 0), (38, .aload_n 0, 1, 0, 0), (39, .getfield 12, 3, 0, 1), 
  (42, .iload_n 2, 1, 0, 0), (43, .invokevirtual 126, 3, 65, 1), (46, .istore_n 3, 1, 0, 0), (47, .iload_n 3, 1, 0, 0), (48, .iconst (-1), 1, 0, 0), (49, .if_icmp .eq 10, 3, 59, 0), (52, .iload_n 3, 1, 0, 0), (53, .iload_n 1, 1, 0, 0), 
  (54, .if_icmp .eq 5, 3, 59, 0), (57, .iconst 0, 1, 0, 0), (58, .ireturn, 1, 0, 0), (59, .aload_n 0, 1, 0, 0), (60, .getfield 12, 3, 0, 1), (63, .iload_n 1, 1, 0, 0), (64, .iload_n 2, 1, 0, 0), (65, .invokevirtual 129, 3, 66, 2), 
  (68, .iconst 1, 1, 0, 0), (69, .ireturn, 1, 0, 0)]
abbrev hX0_readSits : xHd := (yX0_readSits, cX0_readSits, 4, some .boolean)
theorem kX0_readSits : xck hX0_readSits rX0_readSits = true := by decide +kernel
def rX0_readCover : List xRow := [(0, .aload_n 0, 1, 0, 0), (1, .aload_n 0, 1, 0, 0), (2, .getfield 12, 3, 0, 1), (5, .getfield 99, 3, 7, 0), (8, .invokevirtual 102, 3, 9, 1), (11, .istore_n 1, 1, 0, 0), (12, .iload_n 1, 1, 0, 0), (13, .iconst (-1), 1, 0, 0), 
  (14, .if_icmp .ne 5, 3, 19, 0), (17, .iconst 0, 1, 0, 0), (18, .ireturn, 1, 0, 0), (19, .aload_n 0, 1, 0, 0), (20, .getfield 12, 3, 0, 1), (23, .dup, 1, 0, 0), (24, .getfield 132, 3, 7, 3), (27, .iconst 1, 1, 0, 0), 
  (28, .iload_n 1, 1, 0, 0), (29, .ishl, 1, 0, 0), (30, .ior, 1, 0, 0), (31, .putfield 132, 3, 7, 3), (34, .iconst 1, 1, 0, 0), (35, .ireturn, 1, 0, 0)]
abbrev hX0_readCover : xHd := (yX0_readCover, cX0_readCover, 2, some .boolean)
theorem kX0_readCover : xck hX0_readCover rX0_readCover = true := by decide +kernel
def rX0_readNumber : List xRow := [(0, .aload_n 0, 1, 0, 0), (1, .getfield 18, 3, 0, 0), (4, .invokevirtual 35, 3, 35, 0), (7, .aload_n 0, 1, 0, 0), (8, .getfield 18, 3, 0, 0), (11, .iload_n 1, 1, 0, 0), (12, .invokevirtual 135, 3, 40, 1), (15, .ireturn, 1, 0, 0)]
abbrev hX0_readNumber : xHd := (yX0_readNumber, cX0_readNumber, 2, some .int)
theorem kX0_readNumber : xck hX0_readNumber rX0_readNumber = true := by decide +kernel
def rX1_clear : List xRow := [(0, .aload_n 0, 1, 0, 0), (1, .iconst 0, 1, 0, 0), (2, .putfield 21, 3, 1, 4), (5, .aload_n 0, 1, 0, 0), (6, .iconst 0, 1, 0, 0), (7, .putfield 25, 3, 1, 3), (10, .return_, 1, 0, 0)]
abbrev hX1_clear : xHd := (yX1_clear, cX1_clear, 1, none)
theorem kX1_clear : xck hX1_clear rX1_clear = true := by decide +kernel
def rX1_remember : List xRow := [(0, .aload_n 0, 1, 0, 0), (1, .getfield 11, 3, 1, 0), (4, .aload_n 0, 1, 0, 0), (5, .getfield 28, 3, 1, 2), (8, .aaload, 1, 0, 0), (9, .aload_n 1, 1, 0, 0), (10, .invokevirtual 31, 3, 55, 1), (13, .aload_n 0, 1, 0, 0), 
  (14, .aload_n 0, 1, 0, 0), (15, .getfield 28, 3, 1, 2), (18, .iconst 1, 1, 0, 0), (19, .iadd, 1, 0, 0), (20, .bipush 8, 2, 0, 0), (22, .irem, 1, 0, 0), (23, .putfield 28, 3, 1, 2), (26, .aload_n 0, 1, 0, 0), 
  (27, .aload_n 0, 1, 0, 0), (28, .getfield 21, 3, 1, 4), (31, .iconst 1, 1, 0, 0), (32, .iadd, 1, 0, 0), (33, .bipush 8, 2, 0, 0), (35, .invokestatic 35, 3, 225, 2), (38, .putfield 21, 3, 1, 4), (41, .return_, 1, 0, 0)]
abbrev hX1_remember : xHd := (yX1_remember, cX1_remember, 2, none)
theorem kX1_remember : xck hX1_remember rX1_remember = true := by decide +kernel
def rX1_takeBack : List xRow := [(0, .aload_n 0, 1, 0, 0), (1, .aload_n 0, 1, 0, 0), (2, .getfield 28, 3, 1, 2), (5, .bipush 8, 2, 0, 0), (7, .iadd, 1, 0, 0), (8, .iconst 1, 1, 0, 0), (9, .isub, 1, 0, 0), (10, .bipush 8, 2, 0, 0), 
  (12, .irem, 1, 0, 0), (13, .putfield 28, 3, 1, 2), (16, .aload_n 0, 1, 0, 0), (17, .dup, 1, 0, 0), (18, .getfield 21, 3, 1, 4), (21, .iconst 1, 1, 0, 0), (22, .isub, 1, 0, 0), (23, .putfield 21, 3, 1, 4), 
  (26, .aload_n 1, 1, 0, 0), (27, .aload_n 0, 1, 0, 0), (28, .getfield 11, 3, 1, 0), (31, .aload_n 0, 1, 0, 0), (32, .getfield 28, 3, 1, 2), (35, .aaload, 1, 0, 0), (36, .invokevirtual 31, 3, 55, 1), (39, .return_, 1, 0, 0)]
abbrev hX1_takeBack : xHd := (yX1_takeBack, cX1_takeBack, 2, none)
theorem kX1_takeBack : xck hX1_takeBack rX1_takeBack = true := by decide +kernel
def rX1_store : List xRow := [(0, .aload_n 0, 1, 0, 0), (1, .getfield 17, 3, 1, 1), (4, .iload_n 1, 1, 0, 0), (5, .aaload, 1, 0, 0), (6, .aload_n 2, 1, 0, 0), (7, .invokevirtual 31, 3, 55, 1), (10, .aload_n 0, 1, 0, 0), (11, .dup, 1, 0, 0), 
  (12, .getfield 25, 3, 1, 3), (15, .iconst 1, 1, 0, 0), (16, .iload_n 1, 1, 0, 0), (17, .ishl, 1, 0, 0), (18, .ior, 1, 0, 0), (19, .putfield 25, 3, 1, 3), (22, .return_, 1, 0, 0)]
abbrev hX1_store : xHd := (yX1_store, cX1_store, 3, none)
theorem kX1_store : xck hX1_store rX1_store = true := by decide +kernel
def rX1_isStored : List xRow := [(0, .aload_n 0, 1, 0, 0), (1, .getfield 25, 3, 1, 3), (4, .iload_n 1, 1, 0, 0), (5, .ishr, 1, 0, 0), (6, .iconst 1, 1, 0, 0), (7, .iand, 1, 0, 0), (8, .iconst 1, 1, 0, 0), (9, .if_icmp .ne 7, 3, 16, 0), 
  (12, .iconst 1, 1, 0, 0), (13, .goto 4, 3, 17, 0), (16, .iconst 0, 1, 0, 0), (17, .ireturn, 1, 0, 0)]
abbrev hX1_isStored : xHd := (yX1_isStored, cX1_isStored, 2, some .boolean)
theorem kX1_isStored : xck hX1_isStored rX1_isStored = true := by decide +kernel
def rX1_restore : List xRow := [(0, .aload_n 2, 1, 0, 0), (1, .aload_n 0, 1, 0, 0), (2, .getfield 17, 3, 1, 1), (5, .iload_n 1, 1, 0, 0), (6, .aaload, 1, 0, 0), (7, .invokevirtual 31, 3, 55, 1), (10, .aload_n 0, 1, 0, 0), (11, .iconst 0, 1, 0, 0), 
  (12, .putfield 21, 3, 1, 4), (15, .return_, 1, 0, 0)]
abbrev hX1_restore : xHd := (yX1_restore, cX1_restore, 3, none)
theorem kX1_restore : xck hX1_restore rX1_restore = true := by decide +kernel
def rX2_wind : List xRow := [(0, .aload_n 0, 1, 0, 0), (1, .iconst 1, 1, 0, 0), (2, .putfield 15, 3, 2, 101), (5, .aload_n 0, 1, 0, 0), (6, .iload_n 1, 1, 0, 0), (7, .putfield 19, 3, 2, 2), (10, .aload_n 0, 1, 0, 0), (11, .iload_n 2, 1, 0, 0), 
  (12, .putfield 23, 3, 2, 3), (15, .iconst 0, 1, 0, 0), (16, .istore_n 3, 1, 0, 0), (17, .iload_n 3, 1, 0, 0), (18, .bipush 12, 2, 0, 0), (20, .if_icmp .ge 25, 3, 45, 0), (23, .aload_n 0, 1, 0, 0), (24, .getfield 9, 3, 2, 0), 
  (27, .iload_n 3, 1, 0, 0), (28, .iload_n 1, 1, 0, 0), (29, .iconst 3, 1, 0, 0), (30, .if_icmp .ne 7, 3, 37, 0), (33, .iconst (-1), 1, 0, 0), (34, .goto 4, 3, 38, 0), (37, .iconst 0, 1, 0, 0), (38, .iastore, 1, 0, 0), 
  (39, .iinc 3 1, 3, 0, 0), (42, .goto (-25), 3, 17, 0), (45, .return_, 1, 0, 0)]
abbrev hX2_wind : xHd := (yX2_wind, cX2_wind, 4, none)
theorem kX2_wind : xck hX2_wind rX2_wind = true := by decide +kernel
def rX2_find : List xRow := [(0, .aload_n 0, 1, 0, 0), (1, .getfield 15, 3, 2, 1), (4, .ifCond .ne 6, 3, 10, 0), (7, .bipush (-11), 2, 0, 0), (9, .ireturn, 1, 0, 0), (10, .aload_n 0, 1, 0, 0), (11, .getfield 19, 3, 2, 2), (14, .iload_n 1, 1, 0, 0), 
  (15, .if_icmp .eq 6, 3, 21, 0), (18, .bipush (-12), 2, 0, 0), (20, .ireturn, 1, 0, 0), (21, .iload_n 2, 1, 0, 0), (22, .ifCond .lt 11, 3, 33, 0), (25, .iload_n 2, 1, 0, 0), (26, .aload_n 0, 1, 0, 0), (27, .getfield 23, 3, 2, 3), 
  (30, .if_icmp .lt 8, 3, 38, 0), (33, .bipush (-14), 2, 0, 0), (35, .goto 4, 3, 39, 0), (38, .iconst 0, 1, 0, 0), (39, .ireturn, 1, 0, 0)]
abbrev hX2_find : xHd := (yX2_find, cX2_find, 3, some .int)
theorem kX2_find : xck hX2_find rX2_find = true := by decide +kernel
def rX2_holds : List xRow := [(0, .iload_n 1, 1, 0, 0), (1, .ifCond .lt 25, 3, 26, 0), (4, .iload_n 2, 1, 0, 0), (5, .ifCond .lt 21, 3, 26, 0), (8, .iload_n 1, 1, 0, 0), (9, .i2l, 1, 0, 0), (10, .iload_n 2, 1, 0, 0), (11, .i2l, 1, 0, 0), 
  (12, .ladd, 1, 0, 0), (13, .aload_n 0, 1, 0, 0), (14, .getfield 23, 3, 2, 3), (17, .i2l, 1, 0, 0), (18, .lcmp, 1, 0, 0), (19, .ifCond .gt 7, 3, 26, 0), (22, .iconst 1, 1, 0, 0), (23, .goto 4, 3, 27, 0), 
  (26, .iconst 0, 1, 0, 0), (27, .ireturn, 1, 0, 0)]
abbrev hX2_holds : xHd := (yX2_holds, cX2_holds, 3, some .boolean)
theorem kX2_holds : xck hX2_holds rX2_holds = true := by decide +kernel
def rX2_put : List xRow := [(0, .aload_n 0, 1, 0, 0), (1, .getfield 19, 3, 2, 2), (4, .tableswitch 73 0 2 #[28, 46, 64], 28, 0, 0), (32, .aload_n 0, 1, 0, 0), (33, .getfield 9, 3, 2, 0), (36, .iload_n 1, 1, 0, 0), (37, .iload_n 2, 1, 0, 0), (38, .i2b, 1, 0, 0), 
  (39, .iastore, 1, 0, 0), (40, .aload_n 0, 1, 0, 0), (41, .getfield 9, 3, 2, 0), (44, .iload_n 1, 1, 0, 0), (45, .iaload, 1, 0, 0), (46, .ldc 26, 2, 100000, 0), (48, .iadd, 1, 0, 0), (49, .ireturn, 1, 0, 0), 
  (50, .aload_n 0, 1, 0, 0), (51, .getfield 9, 3, 2, 0), (54, .iload_n 1, 1, 0, 0), (55, .iload_n 2, 1, 0, 0), (56, .i2s, 1, 0, 0), (57, .iastore, 1, 0, 0), (58, .aload_n 0, 1, 0, 0), (59, .getfield 9, 3, 2, 0), 
  (62, .iload_n 1, 1, 0, 0), (63, .iaload, 1, 0, 0), (64, .ldc 26, 2, 100000, 0), (66, .iadd, 1, 0, 0), (67, .ireturn, 1, 0, 0), (68, .aload_n 0, 1, 0, 0), (69, .getfield 9, 3, 2, 0), (72, .iload_n 1, 1, 0, 0), 
  (73, .iload_n 2, 1, 0, 0), (74, .iastore, 1, 0, 0), (75, .iconst 1, 1, 0, 0), (76, .ireturn, 1, 0, 0), (77, .aload_n 0, 1, 0, 0), (78, .getfield 9, 3, 2, 0), (81, .iload_n 1, 1, 0, 0), (82, .iload_n 2, 1, 0, 0), 
  (83, .iastore, 1, 0, 0), (84, .iload_n 2, 1, 0, 0), (85, .ireturn, 1, 0, 0)]
abbrev hX2_put : xHd := (yX2_put, cX2_put, 3, some .int)
theorem kX2_put : xck hX2_put rX2_put = true := by decide +kernel
def rX2_sound : List xRow := [(0, .aload_n 0, 1, 0, 0), (1, .getfield 9, 3, 2, 0), (4, .iload_n 1, 1, 0, 0), (5, .iaload, 1, 0, 0), (6, .istore_n 2, 1, 0, 0), (7, .aload_n 0, 1, 0, 0), (8, .getfield 19, 3, 2, 2), (11, .tableswitch 51 0 2 #[25, 25, 30], 25, 0, 0), 
  (36, .iload_n 2, 1, 0, 0), (37, .ldc 26, 2, 100000, 0), (39, .iadd, 1, 0, 0), (40, .ireturn, 1, 0, 0), (41, .iload_n 2, 1, 0, 0), (42, .ifCond .ge 15, 3, 57, 0), (45, .iload_n 2, 1, 0, 0), (46, .iconst (-1), 1, 0, 0), 
  (47, .ixor, 1, 0, 0), (48, .ldc 27, 2, 1000003, 0), (50, .irem, 1, 0, 0), (51, .ldc 28, 2, 2000000, 0), (53, .iadd, 1, 0, 0), (54, .goto 7, 3, 61, 0), (57, .iload_n 2, 1, 0, 0), (58, .ldc 27, 2, 1000003, 0), 
  (60, .irem, 1, 0, 0), (61, .ireturn, 1, 0, 0), (62, .iload_n 2, 1, 0, 0), (63, .iconst (-1), 1, 0, 0), (64, .if_icmp .ne 8, 3, 72, 0), (67, .bipush (-15), 2, 0, 0), (69, .goto 4, 3, 73, 0), (72, .iload_n 2, 1, 0, 0), 
  (73, .ireturn, 1, 0, 0)]
abbrev hX2_sound : xHd := (yX2_sound, cX2_sound, 3, some .int)
theorem kX2_sound : xck hX2_sound rX2_sound = true := by decide +kernel
def rX3_clear : List xRow := [(0, .aload_n 0, 1, 0, 0), (1, .iconst 0, 1, 0, 0), (2, .putfield 21, 3, 3, 3), (5, .return_, 1, 0, 0)]
abbrev hX3_clear : xHd := (yX3_clear, cX3_clear, 1, none)
theorem kX3_clear : xck hX3_clear rX3_clear = true := by decide +kernel
def rX3_add : List xRow := [(0, .aload_n 0, 1, 0, 0), (1, .getfield 9, 3, 3, 0), (4, .aload_n 0, 1, 0, 0), (5, .getfield 21, 3, 3, 3), (8, .iload_n 1, 1, 0, 0), (9, .iastore, 1, 0, 0), (10, .aload_n 0, 1, 0, 0), (11, .getfield 15, 3, 3, 1), 
  (14, .aload_n 0, 1, 0, 0), (15, .getfield 21, 3, 3, 3), (18, .iload_n 2, 1, 0, 0), (19, .iastore, 1, 0, 0), (20, .aload_n 0, 1, 0, 0), (21, .getfield 18, 3, 3, 2), (24, .aload_n 0, 1, 0, 0), (25, .getfield 21, 3, 3, 3), 
  (28, .iload_n 3, 1, 0, 0), (29, .iastore, 1, 0, 0), (30, .aload_n 0, 1, 0, 0), (31, .dup, 1, 0, 0), (32, .getfield 21, 3, 3, 3), (35, .iconst 1, 1, 0, 0), (36, .iadd, 1, 0, 0), (37, .putfield 21, 3, 3, 3), 
  (40, .return_, 1, 0, 0)]
abbrev hX3_add : xHd := (yX3_add, cX3_add, 4, none)
theorem kX3_add : xck hX3_add rX3_add = true := by decide +kernel
def rX3_agreeWith : List xRow := [(0, .iconst 0, 1, 0, 0), (1, .istore_n 2, 1, 0, 0), (2, .iload_n 2, 1, 0, 0), (3, .aload_n 0, 1, 0, 0), (4, .getfield 21, 3, 3, 3), (7, .if_icmp .ge 36, 3, 43, 0), (10, .aload_n 1, 1, 0, 0), (11, .aload_n 0, 1, 0, 0), 
  (12, .getfield 9, 3, 3, 0), (15, .iload_n 2, 1, 0, 0), (16, .iaload, 1, 0, 0), (17, .aload_n 0, 1, 0, 0), (18, .getfield 15, 3, 3, 1), (21, .iload_n 2, 1, 0, 0), (22, .iaload, 1, 0, 0), (23, .invokevirtual 25, 3, 30, 2), 
  (26, .aload_n 0, 1, 0, 0), (27, .getfield 18, 3, 3, 2), (30, .iload_n 2, 1, 0, 0), (31, .iaload, 1, 0, 0), (32, .if_icmp .eq 5, 3, 37, 0), (35, .iconst 0, 1, 0, 0), (36, .ireturn, 1, 0, 0), (37, .iinc 2 1, 3, 0, 0), 
  (40, .goto (-38), 3, 2, 0), (43, .iconst 1, 1, 0, 0), (44, .ireturn, 1, 0, 0)]
abbrev hX3_agreeWith : xHd := (yX3_agreeWith, cX3_agreeWith, 3, some .boolean)
theorem kX3_agreeWith : xck hX3_agreeWith rX3_agreeWith = true := by decide +kernel
def rX4_clear : List xRow := [(0, .iconst 0, 1, 0, 0), (1, .istore_n 1, 1, 0, 0), (2, .iload_n 1, 1, 0, 0), (3, .iconst 4, 1, 0, 0), (4, .if_icmp .ge 16, 3, 20, 0), (7, .aload_n 0, 1, 0, 0), (8, .getfield 15, 3, 4, 1), (11, .iload_n 1, 1, 0, 0), 
  (12, .iconst 0, 1, 0, 0), (13, .iastore, 1, 0, 0), (14, .iinc 1 1, 3, 0, 0), (17, .goto (-15), 3, 2, 0), (20, .return_, 1, 0, 0)]
abbrev hX4_clear : xHd := (yX4_clear, cX4_clear, 2, none)
theorem kX4_clear : xck hX4_clear rX4_clear = true := by decide +kernel
def rX4_add : List xRow := [(0, .aload_n 0, 1, 0, 0), (1, .getfield 15, 3, 4, 1), (4, .iload_n 1, 1, 0, 0), (5, .iaload, 1, 0, 0), (6, .bipush 16, 2, 0, 0), (8, .if_icmp .ge 30, 3, 38, 0), (11, .aload_n 0, 1, 0, 0), (12, .getfield 9, 3, 4, 0), 
  (15, .iload_n 1, 1, 0, 0), (16, .bipush 16, 2, 0, 0), (18, .imul, 1, 0, 0), (19, .aload_n 0, 1, 0, 0), (20, .getfield 15, 3, 4, 1), (23, .iload_n 1, 1, 0, 0), (24, .iaload, 1, 0, 0), (25, .iadd, 1, 0, 0), 
  (26, .iload_n 2, 1, 0, 0), (27, .iastore, 1, 0, 0), (28, .aload_n 0, 1, 0, 0), (29, .getfield 15, 3, 4, 1), (32, .iload_n 1, 1, 0, 0), (33, .dup2, 1, 0, 0), (34, .iaload, 1, 0, 0), (35, .iconst 1, 1, 0, 0), 
  (36, .iadd, 1, 0, 0), (37, .iastore, 1, 0, 0), (38, .return_, 1, 0, 0)]
abbrev hX4_add : xHd := (yX4_add, cX4_add, 3, none)
theorem kX4_add : xck hX4_add rX4_add = true := by decide +kernel
def rX4_wordAt : List xRow := [(0, .iload_n 2, 1, 0, 0), (1, .aload_n 0, 1, 0, 0), (2, .getfield 15, 3, 4, 1), (5, .iload_n 1, 1, 0, 0), (6, .iaload, 1, 0, 0), (7, .if_icmp .ge 17, 3, 24, 0), (10, .aload_n 0, 1, 0, 0), (11, .getfield 9, 3, 4, 0), 
  (14, .iload_n 1, 1, 0, 0), (15, .bipush 16, 2, 0, 0), (17, .imul, 1, 0, 0), (18, .iload_n 2, 1, 0, 0), (19, .iadd, 1, 0, 0), (20, .iaload, 1, 0, 0), (21, .goto 4, 3, 25, 0), (24, .iconst (-1), 1, 0, 0), 
  (25, .ireturn, 1, 0, 0)]
abbrev hX4_wordAt : xHd := (yX4_wordAt, cX4_wordAt, 3, some .int)
theorem kX4_wordAt : xck hX4_wordAt rX4_wordAt = true := by decide +kernel
def rX5_add : List xRow := [(0, .aload_n 0, 1, 0, 0), (1, .getfield 9, 3, 5, 0), (4, .aload_n 0, 1, 0, 0), (5, .getfield 15, 3, 5, 1), (8, .iload_n 1, 1, 0, 0), (9, .iastore, 1, 0, 0), (10, .aload_n 0, 1, 0, 0), (11, .dup, 1, 0, 0), 
  (12, .getfield 15, 3, 5, 1), (15, .iconst 1, 1, 0, 0), (16, .iadd, 1, 0, 0), (17, .putfield 15, 3, 5, 1), (20, .return_, 1, 0, 0)]
abbrev hX5_add : xHd := (yX5_add, cX5_add, 2, none)
theorem kX5_add : xck hX5_add rX5_add = true := by decide +kernel
def rX5_clear : List xRow := [(0, .aload_n 0, 1, 0, 0), (1, .iconst 0, 1, 0, 0), (2, .putfield 15, 3, 5, 1), (5, .return_, 1, 0, 0)]
abbrev hX5_clear : xHd := (yX5_clear, cX5_clear, 1, none)
theorem kX5_clear : xck hX5_clear rX5_clear = true := by decide +kernel
def rX5_begin : List xRow := [(0, .aload_n 0, 1, 0, 0), (1, .iconst 0, 1, 0, 0), (2, .putfield 19, 3, 5, 2), (5, .aload_n 0, 1, 0, 0), (6, .iconst 0, 1, 0, 0), (7, .putfield 22, 3, 5, 3), (10, .return_, 1, 0, 0)]
abbrev hX5_begin : xHd := (yX5_begin, cX5_begin, 1, none)
theorem kX5_begin : xck hX5_begin rX5_begin = true := by decide +kernel
def rX5_readToken : List xRow := [(0, .aload_n 0, 1, 0, 0), (1, .invokevirtual 25, 3, 36, 0), (4, .aload_n 0, 1, 0, 0), (5, .invokevirtual 28, 3, 37, 0), (8, .ifCond .ne 19, 3, 27, 0), (11, .aload_n 0, 1, 0, 0), (12, .getfield 9, 3, 5, 0), (15, .aload_n 0, 1, 0, 0), 
  (16, .getfield 19, 3, 5, 2), (19, .iaload, 1, 0, 0), (20, .invokestatic 32, 3, 44, 1), (23, .iconst 2, 1, 0, 0), (24, .if_icmp .ne 4, 3, 28, 0), (27, .return_, 1, 0, 0), (28, .aload_n 0, 1, 0, 0), (29, .getfield 22, 3, 5, 3), 
  (32, .aload_n 0, 1, 0, 0), (33, .getfield 15, 3, 5, 1), (36, .if_icmp .ge 43, 3, 79, 0), (39, .aload_n 0, 1, 0, 0), (40, .getfield 9, 3, 5, 0), (43, .aload_n 0, 1, 0, 0), (44, .getfield 22, 3, 5, 3), (47, .iaload, 1, 0, 0), 
  (48, .invokestatic 32, 3, 44, 1), (51, .aload_n 0, 1, 0, 0), (52, .getfield 9, 3, 5, 0), (55, .aload_n 0, 1, 0, 0), (56, .getfield 19, 3, 5, 2), (59, .iaload, 1, 0, 0), (60, .invokestatic 32, 3, 44, 1), (63, .if_icmp .ne 16, 3, 79, 0), 
  (66, .aload_n 0, 1, 0, 0), (67, .dup, 1, 0, 0), (68, .getfield 22, 3, 5, 3), (71, .iconst 1, 1, 0, 0), (72, .iadd, 1, 0, 0), (73, .putfield 22, 3, 5, 3), (76, .goto (-48), 3, 28, 0), (79, .return_, 1, 0, 0)]
abbrev hX5_readToken : xHd := (yX5_readToken, cX5_readToken, 1, none)
theorem kX5_readToken : xck hX5_readToken rX5_readToken = true := by decide +kernel
def rX5_readLetter : List xRow := [(0, .aload_n 0, 1, 0, 0), (1, .aload_n 0, 1, 0, 0), (2, .getfield 22, 3, 5, 3), (5, .putfield 19, 3, 5, 2), (8, .aload_n 0, 1, 0, 0), (9, .getfield 19, 3, 5, 2), (12, .aload_n 0, 1, 0, 0), (13, .getfield 15, 3, 5, 1), 
  (16, .if_icmp .ge 30, 3, 46, 0), (19, .aload_n 0, 1, 0, 0), (20, .getfield 9, 3, 5, 0), (23, .aload_n 0, 1, 0, 0), (24, .getfield 19, 3, 5, 2), (27, .iaload, 1, 0, 0), (28, .bipush 32, 2, 0, 0), (30, .if_icmp .ne 16, 3, 46, 0), 
  (33, .aload_n 0, 1, 0, 0), (34, .dup, 1, 0, 0), (35, .getfield 19, 3, 5, 2), (38, .iconst 1, 1, 0, 0), (39, .iadd, 1, 0, 0), (40, .putfield 19, 3, 5, 2), (43, .goto (-35), 3, 8, 0), (46, .aload_n 0, 1, 0, 0), 
  (47, .aload_n 0, 1, 0, 0), (48, .getfield 19, 3, 5, 2), (51, .iconst 1, 1, 0, 0), (52, .iadd, 1, 0, 0), (53, .aload_n 0, 1, 0, 0), (54, .getfield 15, 3, 5, 1), (57, .invokestatic 36, 3, 225, 2), (60, .putfield 22, 3, 5, 3), 
  (63, .return_, 1, 0, 0)]
abbrev hX5_readLetter : xHd := (yX5_readLetter, cX5_readLetter, 1, none)
theorem kX5_readLetter : xck hX5_readLetter rX5_readLetter = true := by decide +kernel
def rX5_isOver : List xRow := [(0, .aload_n 0, 1, 0, 0), (1, .getfield 19, 3, 5, 2), (4, .aload_n 0, 1, 0, 0), (5, .getfield 15, 3, 5, 1), (8, .if_icmp .lt 7, 3, 15, 0), (11, .iconst 1, 1, 0, 0), (12, .goto 4, 3, 16, 0), (15, .iconst 0, 1, 0, 0), 
  (16, .ireturn, 1, 0, 0)]
abbrev hX5_isOver : xHd := (yX5_isOver, cX5_isOver, 1, some .boolean)
theorem kX5_isOver : xck hX5_isOver rX5_isOver = true := by decide +kernel
def rX5_isSign : List xRow := [(0, .aload_n 0, 1, 0, 0), (1, .getfield 22, 3, 5, 3), (4, .aload_n 0, 1, 0, 0), (5, .getfield 19, 3, 5, 2), (8, .isub, 1, 0, 0), (9, .iconst 1, 1, 0, 0), (10, .if_icmp .ne 20, 3, 30, 0), (13, .aload_n 0, 1, 0, 0), 
  (14, .getfield 9, 3, 5, 0), (17, .aload_n 0, 1, 0, 0), (18, .getfield 19, 3, 5, 2), (21, .iaload, 1, 0, 0), (22, .iload_n 1, 1, 0, 0), (23, .if_icmp .ne 7, 3, 30, 0), (26, .iconst 1, 1, 0, 0), (27, .goto 4, 3, 31, 0), 
  (30, .iconst 0, 1, 0, 0), (31, .ireturn, 1, 0, 0)]
abbrev hX5_isSign : xHd := (yX5_isSign, cX5_isSign, 2, some .boolean)
theorem kX5_isSign : xck hX5_isSign rX5_isSign = true := by decide +kernel
def rX5_isRow : List xRow := [(0, .aload_n 0, 1, 0, 0), (1, .getfield 22, 3, 5, 3), (4, .aload_n 0, 1, 0, 0), (5, .getfield 19, 3, 5, 2), (8, .isub, 1, 0, 0), (9, .aload_n 1, 1, 0, 0), (10, .invokevirtual 42, 3, 226, 0), (13, .if_icmp .eq 5, 3, 18, 0), 
  (16, .iconst 0, 1, 0, 0), (17, .ireturn, 1, 0, 0), (18, .iconst 0, 1, 0, 0), (19, .istore_n 2, 1, 0, 0), (20, .iload_n 2, 1, 0, 0), (21, .aload_n 1, 1, 0, 0), (22, .invokevirtual 42, 3, 226, 0), (25, .if_icmp .ge 30, 3, 55, 0), 
  (28, .aload_n 0, 1, 0, 0), (29, .getfield 9, 3, 5, 0), (32, .aload_n 0, 1, 0, 0), (33, .getfield 19, 3, 5, 2), (36, .iload_n 2, 1, 0, 0), (37, .iadd, 1, 0, 0), (38, .iaload, 1, 0, 0), (39, .aload_n 1, 1, 0, 0), 
  (40, .iload_n 2, 1, 0, 0), (41, .invokevirtual 47, 3, 227, 1), (44, .if_icmp .eq 5, 3, 49, 0), (47, .iconst 0, 1, 0, 0), (48, .ireturn, 1, 0, 0), (49, .iinc 2 1, 3, 0, 0), (52, .goto (-32), 3, 20, 0), (55, .iconst 1, 1, 0, 0), 
  (56, .ireturn, 1, 0, 0)]
abbrev hX5_isRow : xHd := (yX5_isRow, cX5_isRow, 3, some .boolean)
theorem kX5_isRow : xck hX5_isRow rX5_isRow = true := by decide +kernel
def rX5_numberBelow : List xRow := [(0, .aload_n 0, 1, 0, 0), (1, .getfield 22, 3, 5, 3), (4, .aload_n 0, 1, 0, 0), (5, .getfield 19, 3, 5, 2), (8, .isub, 1, 0, 0), (9, .iconst 1, 1, 0, 0), (10, .if_icmp .ne 19, 3, 29, 0), (13, .aload_n 0, 1, 0, 0), 
  (14, .getfield 9, 3, 5, 0), (17, .aload_n 0, 1, 0, 0), (18, .getfield 19, 3, 5, 2), (21, .iaload, 1, 0, 0), (22, .invokestatic 32, 3, 44, 1), (25, .iconst 1, 1, 0, 0), (26, .if_icmp .eq 5, 3, 31, 0), (29, .iconst (-1), 1, 0, 0), 
  (30, .ireturn, 1, 0, 0), (31, .aload_n 0, 1, 0, 0), (32, .getfield 9, 3, 5, 0), (35, .aload_n 0, 1, 0, 0), (36, .getfield 19, 3, 5, 2), (39, .iaload, 1, 0, 0), (40, .bipush 48, 2, 0, 0), (42, .isub, 1, 0, 0), 
  (43, .istore_n 2, 1, 0, 0), (44, .iload_n 2, 1, 0, 0), (45, .iload_n 1, 1, 0, 0), (46, .if_icmp .ge 7, 3, 53, 0), (49, .iload_n 2, 1, 0, 0), (50, .goto 4, 3, 54, 0), (53, .iconst (-1), 1, 0, 0), (54, .ireturn, 1, 0, 0)]
abbrev hX5_numberBelow : xHd := (yX5_numberBelow, cX5_numberBelow, 3, some .int)
theorem kX5_numberBelow : xck hX5_numberBelow rX5_numberBelow = true := by decide +kernel
def rX5_oneWord : List xRow := [(0, .aload_n 0, 1, 0, 0), (1, .getfield 22, 3, 5, 3), (4, .aload_n 0, 1, 0, 0), (5, .getfield 19, 3, 5, 2), (8, .isub, 1, 0, 0), (9, .iconst 1, 1, 0, 0), (10, .if_icmp .ne 18, 3, 28, 0), (13, .aload_n 0, 1, 0, 0), 
  (14, .getfield 9, 3, 5, 0), (17, .aload_n 0, 1, 0, 0), (18, .getfield 19, 3, 5, 2), (21, .iaload, 1, 0, 0), (22, .invokestatic 51, 3, 43, 1), (25, .goto 4, 3, 29, 0), (28, .iconst (-1), 1, 0, 0), (29, .ireturn, 1, 0, 0)]
abbrev hX5_oneWord : xHd := (yX5_oneWord, cX5_oneWord, 1, some .int)
theorem kX5_oneWord : xck hX5_oneWord rX5_oneWord = true := by decide +kernel
def rX5_risingWords : List xRow := [(0, .iconst 0, 1, 0, 0), (1, .istore_n 1, 1, 0, 0), (2, .iconst (-1), 1, 0, 0), (3, .istore_n 2, 1, 0, 0), (4, .aload_n 0, 1, 0, 0), (5, .getfield 19, 3, 5, 2), (8, .istore_n 3, 1, 0, 0), (9, .iload_n 3, 1, 0, 0), 
  (10, .aload_n 0, 1, 0, 0), (11, .getfield 22, 3, 5, 3), (14, .if_icmp .ge 38, 3, 52, 0), (17, .aload_n 0, 1, 0, 0), (18, .getfield 9, 3, 5, 0), (21, .iload_n 3, 1, 0, 0), (22, .iaload, 1, 0, 0), (23, .invokestatic 51, 3, 43, 1), 
  (26, .istore 4, 2, 0, 0), (28, .iload 4, 2, 0, 0), (30, .iload_n 2, 1, 0, 0), (31, .if_icmp .gt 5, 3, 36, 0), (34, .iconst 0, 1, 0, 0), (35, .ireturn, 1, 0, 0), (36, .iload_n 1, 1, 0, 0), (37, .iconst 1, 1, 0, 0), 
  (38, .iload 4, 2, 0, 0), (40, .ishl, 1, 0, 0), (41, .ior, 1, 0, 0), (42, .istore_n 1, 1, 0, 0), (43, .iload 4, 2, 0, 0), (45, .istore_n 2, 1, 0, 0), (46, .iinc 3 1, 3, 0, 0), (49, .goto (-40), 3, 9, 0), 
  (52, .iload_n 1, 1, 0, 0), (53, .ireturn, 1, 0, 0)]
abbrev hX5_risingWords : xHd := (yX5_risingWords, cX5_risingWords, 5, some .int)
theorem kX5_risingWords : xck hX5_risingWords rX5_risingWords = true := by decide +kernel
def rX5_wordOf : List xRow := [(0, .iload_n 0, 1, 0, 0), (1, .bipush 97, 2, 0, 0), (3, .if_icmp .lt 16, 3, 19, 0), (6, .iload_n 0, 1, 0, 0), (7, .bipush 107, 2, 0, 0), (9, .if_icmp .ge 10, 3, 19, 0), (12, .iload_n 0, 1, 0, 0), (13, .bipush 97, 2, 0, 0), 
  (15, .isub, 1, 0, 0), (16, .goto 4, 3, 20, 0), (19, .iconst (-1), 1, 0, 0), (20, .ireturn, 1, 0, 0)]
abbrev hX5_wordOf : xHd := (yX5_wordOf, cX5_wordOf, 1, some .int)
theorem kX5_wordOf : xck hX5_wordOf rX5_wordOf = true := by decide +kernel
def rX5_sortOf : List xRow := [(0, .iload_n 0, 1, 0, 0), (1, .bipush 97, 2, 0, 0), (3, .if_icmp .lt 11, 3, 14, 0), (6, .iload_n 0, 1, 0, 0), (7, .bipush 122, 2, 0, 0), (9, .if_icmp .gt 5, 3, 14, 0), (12, .iconst 0, 1, 0, 0), (13, .ireturn, 1, 0, 0), 
  (14, .iload_n 0, 1, 0, 0), (15, .bipush 48, 2, 0, 0), (17, .if_icmp .lt 13, 3, 30, 0), (20, .iload_n 0, 1, 0, 0), (21, .bipush 57, 2, 0, 0), (23, .if_icmp .gt 7, 3, 30, 0), (26, .iconst 1, 1, 0, 0), (27, .goto 4, 3, 31, 0), 
  (30, .iconst 2, 1, 0, 0), (31, .ireturn, 1, 0, 0)]
abbrev hX5_sortOf : xHd := (yX5_sortOf, cX5_sortOf, 1, some .int)
theorem kX5_sortOf : xck hX5_sortOf rX5_sortOf = true := by decide +kernel
def rX6_faultIn : List xRow := [(0, .iconst 0, 1, 0, 0), (1, .istore_n 1, 1, 0, 0), (2, .iconst 1, 1, 0, 0), (3, .istore_n 2, 1, 0, 0), (4, .iconst 0, 1, 0, 0), (5, .istore_n 3, 1, 0, 0), (6, .aload_n 0, 1, 0, 0), (7, .invokevirtual 24, 3, 34, 0), 
  (10, .aload_n 0, 1, 0, 0), (11, .invokevirtual 29, 3, 36, 0), (14, .iconst 0, 1, 0, 0), (15, .istore 4, 2, 0, 0), (17, .iload 4, 2, 0, 0), (19, .sipush 200, 3, 0, 0), (22, .if_icmp .ge 137, 3, 159, 0), (25, .aload_n 0, 1, 0, 0), 
  (26, .invokevirtual 32, 3, 37, 0), (29, .ifCond .ne 130, 3, 159, 0), (32, .aload_n 0, 1, 0, 0), (33, .invokevirtual 36, 3, 41, 0), (36, .iconst (-1), 1, 0, 0), (37, .if_icmp .ne 12, 3, 49, 0), (40, .aload_n 0, 1, 0, 0), (41, .bipush 46, 2, 0, 0), 
  (43, .invokevirtual 40, 3, 38, 1), (46, .ifCond .eq 10, 3, 56, 0), (49, .iconst 0, 1, 0, 0), (50, .istore_n 2, 1, 0, 0), (51, .iconst 1, 1, 0, 0), (52, .istore_n 3, 1, 0, 0), (53, .goto 96, 3, 149, 0), (56, .aload_n 0, 1, 0, 0), 
  (57, .bipush 40, 2, 0, 0), (59, .invokevirtual 40, 3, 38, 1), (62, .ifCond .eq 19, 3, 81, 0), (65, .iload_n 1, 1, 0, 0), (66, .bipush 6, 2, 0, 0), (68, .if_icmp .ge 13, 3, 81, 0), (71, .iinc 1 1, 3, 0, 0), (74, .iconst 1, 1, 0, 0), 
  (75, .istore_n 2, 1, 0, 0), (76, .iconst 0, 1, 0, 0), (77, .istore_n 3, 1, 0, 0), (78, .goto 71, 3, 149, 0), (81, .aload_n 0, 1, 0, 0), (82, .bipush 41, 2, 0, 0), (84, .invokevirtual 40, 3, 38, 1), (87, .ifCond .eq 19, 3, 106, 0), 
  (90, .iload_n 1, 1, 0, 0), (91, .ifCond .le 15, 3, 106, 0), (94, .iload_n 2, 1, 0, 0), (95, .ifCond .ne 11, 3, 106, 0), (98, .iinc 1 (-1), 3, 0, 0), (101, .iconst 1, 1, 0, 0), (102, .istore_n 3, 1, 0, 0), (103, .goto 46, 3, 149, 0), 
  (106, .aload_n 0, 1, 0, 0), (107, .bipush 124, 2, 0, 0), (109, .invokevirtual 40, 3, 38, 1), (112, .ifCond .eq 14, 3, 126, 0), (115, .iload_n 2, 1, 0, 0), (116, .ifCond .ne 10, 3, 126, 0), (119, .iconst 1, 1, 0, 0), (120, .istore_n 2, 1, 0, 0), 
  (121, .iconst 0, 1, 0, 0), (122, .istore_n 3, 1, 0, 0), (123, .goto 26, 3, 149, 0), (126, .aload_n 0, 1, 0, 0), (127, .bipush 42, 2, 0, 0), (129, .invokevirtual 40, 3, 38, 1), (132, .ifCond .eq 12, 3, 144, 0), (135, .iload_n 3, 1, 0, 0), 
  (136, .ifCond .eq 8, 3, 144, 0), (139, .iconst 0, 1, 0, 0), (140, .istore_n 3, 1, 0, 0), (141, .goto 8, 3, 149, 0), (144, .aload_n 0, 1, 0, 0), (145, .getfield 44, 3, 5, 2), (148, .ireturn, 1, 0, 0), (149, .aload_n 0, 1, 0, 0), 
  (150, .invokevirtual 29, 3, 36, 0), (153, .iinc 4 1, 3, 0, 0), (156, .goto (-139), 3, 17, 0), (159, .iload_n 2, 1, 0, 0), (160, .ifCond .ne 7, 3, 167, 0), (163, .iload_n 1, 1, 0, 0), (164, .ifCond .le 10, 3, 174, 0), (167, .aload_n 0, 1, 0, 0), 
  (168, .getfield 48, 3, 5, 1), (171, .goto 4, 3, 175, 0), (174, .iconst (-1), 1, 0, 0), (175, .ireturn, 1, 0, 0)]
abbrev hX6_faultIn : xHd := (yX6_faultIn, cX6_faultIn, 5, some .int)
theorem kX6_faultIn : xck hX6_faultIn rX6_faultIn = true := by decide +kernel
def rX6_take : List xRow := [(0, .iconst 0, 1, 0, 0), (1, .istore_n 2, 1, 0, 0), (2, .aload_n 0, 1, 0, 0), (3, .iconst 0, 1, 0, 0), (4, .putfield 51, 3, 6, 5), (7, .aload_n 0, 1, 0, 0), (8, .iconst 0, 1, 0, 0), (9, .putfield 52, 3, 6, 6), 
  (12, .iconst 0, 1, 0, 0), (13, .istore_n 3, 1, 0, 0), (14, .iload_n 3, 1, 0, 0), (15, .aload_n 1, 1, 0, 0), (16, .getfield 48, 3, 5, 1), (19, .if_icmp .ge 135, 3, 154, 0), (22, .aload_n 1, 1, 0, 0), (23, .getfield 55, 3, 5, 0), 
  (26, .iload_n 3, 1, 0, 0), (27, .iaload, 1, 0, 0), (28, .istore 4, 2, 0, 0), (30, .iload 4, 2, 0, 0), (32, .bipush 32, 2, 0, 0), (34, .if_icmp .ne 6, 3, 40, 0), (37, .goto 111, 3, 148, 0), (40, .iload 4, 2, 0, 0), 
  (42, .bipush 40, 2, 0, 0), (44, .if_icmp .ne 25, 3, 69, 0), (47, .iload_n 2, 1, 0, 0), (48, .bipush 6, 2, 0, 0), (50, .if_icmp .ge 19, 3, 69, 0), (53, .aload_n 0, 1, 0, 0), (54, .getfield 18, 3, 6, 2), (57, .iload_n 2, 1, 0, 0), 
  (58, .aload_n 0, 1, 0, 0), (59, .getfield 51, 3, 6, 5), (62, .iastore, 1, 0, 0), (63, .iinc 2 1, 3, 0, 0), (66, .goto 61, 3, 127, 0), (69, .iload 4, 2, 0, 0), (71, .bipush 41, 2, 0, 0), (73, .if_icmp .ne 28, 3, 101, 0), 
  (76, .iload_n 2, 1, 0, 0), (77, .ifCond .le 24, 3, 101, 0), (80, .iinc 2 (-1), 3, 0, 0), (83, .aload_n 0, 1, 0, 0), (84, .getfield 15, 3, 6, 1), (87, .aload_n 0, 1, 0, 0), (88, .getfield 18, 3, 6, 2), (91, .iload_n 2, 1, 0, 0), 
  (92, .iaload, 1, 0, 0), (93, .aload_n 0, 1, 0, 0), (94, .getfield 51, 3, 6, 5), (97, .iastore, 1, 0, 0), (98, .goto 29, 3, 127, 0), (101, .iload 4, 2, 0, 0), (103, .bipush 46, 2, 0, 0), (105, .if_icmp .eq 12, 3, 117, 0), 
  (108, .iload 4, 2, 0, 0), (110, .invokestatic 58, 3, 43, 1), (113, .iconst (-1), 1, 0, 0), (114, .if_icmp .eq 13, 3, 127, 0), (117, .aload_n 0, 1, 0, 0), (118, .dup, 1, 0, 0), (119, .getfield 52, 3, 6, 6), (122, .iconst 1, 1, 0, 0), 
  (123, .iadd, 1, 0, 0), (124, .putfield 52, 3, 6, 6), (127, .aload_n 0, 1, 0, 0), (128, .getfield 9, 3, 6, 0), (131, .aload_n 0, 1, 0, 0), (132, .getfield 51, 3, 6, 5), (135, .iload 4, 2, 0, 0), (137, .iastore, 1, 0, 0), 
  (138, .aload_n 0, 1, 0, 0), (139, .dup, 1, 0, 0), (140, .getfield 51, 3, 6, 5), (143, .iconst 1, 1, 0, 0), (144, .iadd, 1, 0, 0), (145, .putfield 51, 3, 6, 5), (148, .iinc 3 1, 3, 0, 0), (151, .goto (-137), 3, 14, 0), 
  (154, .return_, 1, 0, 0)]
abbrev hX6_take : xHd := (yX6_take, cX6_take, 5, none)
theorem kX6_take : xck hX6_take rX6_take = true := by decide +kernel
def rX6_endsIn : List xRow := [(0, .aload_n 0, 1, 0, 0), (1, .aload_n 1, 1, 0, 0), (2, .getfield 62, 3, 4, 1), (5, .iload_n 2, 1, 0, 0), (6, .iaload, 1, 0, 0), (7, .putfield 67, 3, 6, 4), (10, .iconst 0, 1, 0, 0), (11, .istore_n 3, 1, 0, 0), 
  (12, .iload_n 3, 1, 0, 0), (13, .aload_n 0, 1, 0, 0), (14, .getfield 67, 3, 6, 4), (17, .if_icmp .ge 21, 3, 38, 0), (20, .aload_n 0, 1, 0, 0), (21, .getfield 21, 3, 6, 3), (24, .iload_n 3, 1, 0, 0), (25, .aload_n 1, 1, 0, 0), 
  (26, .iload_n 2, 1, 0, 0), (27, .iload_n 3, 1, 0, 0), (28, .invokevirtual 70, 3, 30, 2), (31, .iastore, 1, 0, 0), (32, .iinc 3 1, 3, 0, 0), (35, .goto (-23), 3, 12, 0), (38, .aload_n 0, 1, 0, 0), (39, .iconst 0, 1, 0, 0), 
  (40, .aload_n 0, 1, 0, 0), (41, .getfield 51, 3, 6, 5), (44, .iconst 1, 1, 0, 0), (45, .iconst 0, 1, 0, 0), (46, .invokevirtual 74, 3, 49, 4), (49, .ireturn, 1, 0, 0)]
abbrev hX6_endsIn : xHd := (yX6_endsIn, cX6_endsIn, 4, some .int)
theorem kX6_endsIn : xck hX6_endsIn rX6_endsIn = true := by decide +kernel
def rX6_sumEnds : List xRow := [(0, .iconst 0, 1, 0, 0), (1, .istore 5, 2, 0, 0), (3, .iload_n 3, 1, 0, 0), (4, .istore 6, 2, 0, 0), (6, .iload_n 1, 1, 0, 0), (7, .istore 7, 2, 0, 0), (9, .iload 7, 2, 0, 0), (11, .iload_n 2, 1, 0, 0), 
  (12, .if_icmp .ge 98, 3, 110, 0), (15, .aload_n 0, 1, 0, 0), (16, .getfield 9, 3, 6, 0), (19, .iload 7, 2, 0, 0), (21, .iaload, 1, 0, 0), (22, .bipush 124, 2, 0, 0), (24, .if_icmp .ne 19, 3, 43, 0), (27, .iload 5, 2, 0, 0), 
  (29, .iload 6, 2, 0, 0), (31, .ior, 1, 0, 0), (32, .istore 5, 2, 0, 0), (34, .iload_n 3, 1, 0, 0), (35, .istore 6, 2, 0, 0), (37, .iinc 7 1, 3, 0, 0), (40, .goto (-31), 3, 9, 0), (43, .aload_n 0, 1, 0, 0), 
  (44, .iload 7, 2, 0, 0), (46, .invokevirtual 78, 3, 50, 1), (49, .istore 8, 2, 0, 0), (51, .iload 8, 2, 0, 0), (53, .iload_n 2, 1, 0, 0), (54, .if_icmp .ge 35, 3, 89, 0), (57, .aload_n 0, 1, 0, 0), (58, .getfield 9, 3, 6, 0), 
  (61, .iload 8, 2, 0, 0), (63, .iaload, 1, 0, 0), (64, .bipush 42, 2, 0, 0), (66, .if_icmp .ne 23, 3, 89, 0), (69, .aload_n 0, 1, 0, 0), (70, .iload 7, 2, 0, 0), (72, .iload 8, 2, 0, 0), (74, .iload 6, 2, 0, 0), 
  (76, .iload 4, 2, 0, 0), (78, .invokevirtual 81, 3, 51, 4), (81, .istore 6, 2, 0, 0), (83, .iinc 8 1, 3, 0, 0), (86, .goto 17, 3, 103, 0), (89, .aload_n 0, 1, 0, 0), (90, .iload 7, 2, 0, 0), (92, .iload 8, 2, 0, 0), 
  (94, .iload 6, 2, 0, 0), (96, .iload 4, 2, 0, 0), (98, .invokevirtual 84, 3, 52, 4), (101, .istore 6, 2, 0, 0), (103, .iload 8, 2, 0, 0), (105, .istore 7, 2, 0, 0), (107, .goto (-98), 3, 9, 0), (110, .iload 5, 2, 0, 0), 
  (112, .iload 6, 2, 0, 0), (114, .ior, 1, 0, 0), (115, .ireturn, 1, 0, 0)]
abbrev hX6_sumEnds : xHd := (yX6_sumEnds, cX6_sumEnds, 9, some .int)
theorem kX6_sumEnds : xck hX6_sumEnds rX6_sumEnds = true := by decide +kernel
def rX6_behindPart : List xRow := [(0, .aload_n 0, 1, 0, 0), (1, .getfield 9, 3, 6, 0), (4, .iload_n 1, 1, 0, 0), (5, .iaload, 1, 0, 0), (6, .bipush 40, 2, 0, 0), (8, .if_icmp .ne 18, 3, 26, 0), (11, .iload_n 1, 1, 0, 0), (12, .aload_n 0, 1, 0, 0), 
  (13, .getfield 15, 3, 6, 1), (16, .iload_n 1, 1, 0, 0), (17, .iaload, 1, 0, 0), (18, .invokestatic 87, 3, 224, 2), (21, .iconst 1, 1, 0, 0), (22, .iadd, 1, 0, 0), (23, .goto 6, 3, 29, 0), (26, .iload_n 1, 1, 0, 0), 
  (27, .iconst 1, 1, 0, 0), (28, .iadd, 1, 0, 0), (29, .ireturn, 1, 0, 0)]
abbrev hX6_behindPart : xHd := (yX6_behindPart, cX6_behindPart, 2, some .int)
theorem kX6_behindPart : xck hX6_behindPart rX6_behindPart = true := by decide +kernel
def rX6_repeatedEnds : List xRow := [(0, .iload_n 3, 1, 0, 0), (1, .istore 5, 2, 0, 0), (3, .iload_n 3, 1, 0, 0), (4, .istore 6, 2, 0, 0), (6, .iconst 0, 1, 0, 0), (7, .istore 7, 2, 0, 0), (9, .iload 7, 2, 0, 0), (11, .bipush 16, 2, 0, 0), 
  (13, .if_icmp .gt 38, 3, 51, 0), (16, .iload 6, 2, 0, 0), (18, .ifCond .eq 33, 3, 51, 0), (21, .aload_n 0, 1, 0, 0), (22, .iload_n 1, 1, 0, 0), (23, .iload_n 2, 1, 0, 0), (24, .iload 6, 2, 0, 0), (26, .iload 4, 2, 0, 0), 
  (28, .invokevirtual 84, 3, 52, 4), (31, .iload 5, 2, 0, 0), (33, .iconst (-1), 1, 0, 0), (34, .ixor, 1, 0, 0), (35, .iand, 1, 0, 0), (36, .istore 6, 2, 0, 0), (38, .iload 5, 2, 0, 0), (40, .iload 6, 2, 0, 0), 
  (42, .ior, 1, 0, 0), (43, .istore 5, 2, 0, 0), (45, .iinc 7 1, 3, 0, 0), (48, .goto (-39), 3, 9, 0), (51, .iload 5, 2, 0, 0), (53, .ireturn, 1, 0, 0)]
abbrev hX6_repeatedEnds : xHd := (yX6_repeatedEnds, cX6_repeatedEnds, 8, some .int)
theorem kX6_repeatedEnds : xck hX6_repeatedEnds rX6_repeatedEnds = true := by decide +kernel
def rX6_partEnds : List xRow := [(0, .aload_n 0, 1, 0, 0), (1, .getfield 9, 3, 6, 0), (4, .iload_n 1, 1, 0, 0), (5, .iaload, 1, 0, 0), (6, .bipush 40, 2, 0, 0), (8, .if_icmp .eq 15, 3, 23, 0), (11, .aload_n 0, 1, 0, 0), (12, .aload_n 0, 1, 0, 0), 
  (13, .getfield 9, 3, 6, 0), (16, .iload_n 1, 1, 0, 0), (17, .iaload, 1, 0, 0), (18, .iload_n 3, 1, 0, 0), (19, .invokevirtual 92, 3, 53, 2), (22, .ireturn, 1, 0, 0), (23, .iload 4, 2, 0, 0), (25, .bipush 6, 2, 0, 0), 
  (27, .if_icmp .ge 21, 3, 48, 0), (30, .aload_n 0, 1, 0, 0), (31, .iload_n 1, 1, 0, 0), (32, .iconst 1, 1, 0, 0), (33, .iadd, 1, 0, 0), (34, .iload_n 2, 1, 0, 0), (35, .iconst 1, 1, 0, 0), (36, .isub, 1, 0, 0), 
  (37, .iload_n 3, 1, 0, 0), (38, .iload 4, 2, 0, 0), (40, .iconst 1, 1, 0, 0), (41, .iadd, 1, 0, 0), (42, .invokevirtual 74, 3, 49, 4), (45, .goto 4, 3, 49, 0), (48, .iconst 0, 1, 0, 0), (49, .ireturn, 1, 0, 0)]
abbrev hX6_partEnds : xHd := (yX6_partEnds, cX6_partEnds, 5, some .int)
theorem kX6_partEnds : xck hX6_partEnds rX6_partEnds = true := by decide +kernel
def rX6_wordEnds : List xRow := [(0, .iconst 0, 1, 0, 0), (1, .istore_n 3, 1, 0, 0), (2, .iconst 0, 1, 0, 0), (3, .istore 4, 2, 0, 0), (5, .iload 4, 2, 0, 0), (7, .aload_n 0, 1, 0, 0), (8, .getfield 67, 3, 6, 4), (11, .if_icmp .ge 46, 3, 57, 0), 
  (14, .iload_n 2, 1, 0, 0), (15, .iload 4, 2, 0, 0), (17, .ishr, 1, 0, 0), (18, .iconst 1, 1, 0, 0), (19, .iand, 1, 0, 0), (20, .iconst 1, 1, 0, 0), (21, .if_icmp .ne 30, 3, 51, 0), (24, .iload_n 1, 1, 0, 0), 
  (25, .bipush 46, 2, 0, 0), (27, .if_icmp .eq 17, 3, 44, 0), (30, .aload_n 0, 1, 0, 0), (31, .getfield 21, 3, 6, 3), (34, .iload 4, 2, 0, 0), (36, .iaload, 1, 0, 0), (37, .iload_n 1, 1, 0, 0), (38, .invokestatic 58, 3, 43, 1), 
  (41, .if_icmp .ne 10, 3, 51, 0), (44, .iload_n 3, 1, 0, 0), (45, .iconst 2, 1, 0, 0), (46, .iload 4, 2, 0, 0), (48, .ishl, 1, 0, 0), (49, .ior, 1, 0, 0), (50, .istore_n 3, 1, 0, 0), (51, .iinc 4 1, 3, 0, 0), 
  (54, .goto (-49), 3, 5, 0), (57, .iload_n 3, 1, 0, 0), (58, .ireturn, 1, 0, 0)]
abbrev hX6_wordEnds : xHd := (yX6_wordEnds, cX6_wordEnds, 5, some .int)
theorem kX6_wordEnds : xck hX6_wordEnds rX6_wordEnds = true := by decide +kernel
def rX7_become : List xRow := [(0, .aload_n 0, 1, 0, 0), (1, .aload_n 1, 1, 0, 0), (2, .getfield 27, 3, 7, 0), (5, .putfield 27, 3, 7, 0), (8, .aload_n 0, 1, 0, 0), (9, .aload_n 1, 1, 0, 0), (10, .getfield 31, 3, 7, 1), (13, .putfield 31, 3, 7, 1), 
  (16, .aload_n 0, 1, 0, 0), (17, .aload_n 1, 1, 0, 0), (18, .getfield 34, 3, 7, 2), (21, .putfield 34, 3, 7, 2), (24, .aload_n 0, 1, 0, 0), (25, .aload_n 1, 1, 0, 0), (26, .getfield 37, 3, 7, 3), (29, .putfield 37, 3, 7, 3), 
  (32, .aload_n 1, 1, 0, 0), (33, .getfield 9, 3, 7, 4), (36, .iconst 0, 1, 0, 0), (37, .aload_n 0, 1, 0, 0), (38, .getfield 9, 3, 7, 4), (41, .iconst 0, 1, 0, 0), (42, .bipush 8, 2, 0, 0), (44, .invokestatic 40, 3, 1000, 0), 
  (47, .aload_n 1, 1, 0, 0), (48, .getfield 15, 3, 7, 5), (51, .iconst 0, 1, 0, 0), (52, .aload_n 0, 1, 0, 0), (53, .getfield 15, 3, 7, 5), (56, .iconst 0, 1, 0, 0), (57, .bipush 8, 2, 0, 0), (59, .invokestatic 40, 3, 1000, 0), 
  (62, .aload_n 1, 1, 0, 0), (63, .getfield 18, 3, 7, 6), (66, .iconst 0, 1, 0, 0), (67, .aload_n 0, 1, 0, 0), (68, .getfield 18, 3, 7, 6), (71, .iconst 0, 1, 0, 0), (72, .bipush 80, 2, 0, 0), (74, .invokestatic 40, 3, 1000, 0), 
  (77, .aload_n 1, 1, 0, 0), (78, .getfield 21, 3, 7, 7), (81, .iconst 0, 1, 0, 0), (82, .aload_n 0, 1, 0, 0), (83, .getfield 21, 3, 7, 7), (86, .iconst 0, 1, 0, 0), (87, .iconst 4, 1, 0, 0), (88, .invokestatic 40, 3, 1000, 0), 
  (91, .aload_n 1, 1, 0, 0), (92, .getfield 24, 3, 7, 8), (95, .iconst 0, 1, 0, 0), (96, .aload_n 0, 1, 0, 0), (97, .getfield 24, 3, 7, 8), (100, .iconst 0, 1, 0, 0), (101, .iconst 4, 1, 0, 0), (102, .invokestatic 40, 3, 1000, 0), 
  (105, .return_, 1, 0, 0)]
abbrev hX7_become : xHd := (yX7_become, cX7_become, 2, none)
theorem kX7_become : xck hX7_become rX7_become = true := by decide +kernel
def rX7_clear : List xRow := [(0, .aload_n 0, 1, 0, 0), (1, .iconst 0, 1, 0, 0), (2, .putfield 27, 3, 7, 0), (5, .aload_n 0, 1, 0, 0), (6, .iconst 0, 1, 0, 0), (7, .putfield 31, 3, 7, 1), (10, .aload_n 0, 1, 0, 0), (11, .iconst 0, 1, 0, 0), 
  (12, .putfield 34, 3, 7, 2), (15, .aload_n 0, 1, 0, 0), (16, .iconst 0, 1, 0, 0), (17, .putfield 37, 3, 7, 3), (20, .return_, 1, 0, 0)]
abbrev hX7_clear : xHd := (yX7_clear, cX7_clear, 1, none)
theorem kX7_clear : xck hX7_clear rX7_clear = true := by decide +kernel
def rX7_addBird : List xRow := [(0, .aload_n 0, 1, 0, 0), (1, .getfield 9, 3, 7, 4), (4, .aload_n 0, 1, 0, 0), (5, .getfield 27, 3, 7, 0), (8, .iload_n 1, 1, 0, 0), (9, .iastore, 1, 0, 0), (10, .aload_n 0, 1, 0, 0), (11, .getfield 15, 3, 7, 5), 
  (14, .aload_n 0, 1, 0, 0), (15, .getfield 27, 3, 7, 0), (18, .iload_n 2, 1, 0, 0), (19, .iastore, 1, 0, 0), (20, .iconst 0, 1, 0, 0), (21, .istore_n 3, 1, 0, 0), (22, .iload_n 3, 1, 0, 0), (23, .bipush 10, 2, 0, 0), 
  (25, .if_icmp .ge 24, 3, 49, 0), (28, .aload_n 0, 1, 0, 0), (29, .getfield 18, 3, 7, 6), (32, .aload_n 0, 1, 0, 0), (33, .getfield 27, 3, 7, 0), (36, .bipush 10, 2, 0, 0), (38, .imul, 1, 0, 0), (39, .iload_n 3, 1, 0, 0), 
  (40, .iadd, 1, 0, 0), (41, .iconst 0, 1, 0, 0), (42, .iastore, 1, 0, 0), (43, .iinc 3 1, 3, 0, 0), (46, .goto (-24), 3, 22, 0), (49, .aload_n 0, 1, 0, 0), (50, .dup, 1, 0, 0), (51, .getfield 27, 3, 7, 0), 
  (54, .iconst 1, 1, 0, 0), (55, .iadd, 1, 0, 0), (56, .putfield 27, 3, 7, 0), (59, .return_, 1, 0, 0)]
abbrev hX7_addBird : xHd := (yX7_addBird, cX7_addBird, 4, none)
theorem kX7_addBird : xck hX7_addBird rX7_addBird = true := by decide +kernel
def rX7_addMan : List xRow := [(0, .aload_n 0, 1, 0, 0), (1, .getfield 21, 3, 7, 7), (4, .aload_n 0, 1, 0, 0), (5, .getfield 31, 3, 7, 1), (8, .iload_n 1, 1, 0, 0), (9, .iastore, 1, 0, 0), (10, .aload_n 0, 1, 0, 0), (11, .getfield 24, 3, 7, 8), 
  (14, .aload_n 0, 1, 0, 0), (15, .getfield 31, 3, 7, 1), (18, .iconst (-1), 1, 0, 0), (19, .iastore, 1, 0, 0), (20, .aload_n 0, 1, 0, 0), (21, .dup, 1, 0, 0), (22, .getfield 31, 3, 7, 1), (25, .iconst 1, 1, 0, 0), 
  (26, .iadd, 1, 0, 0), (27, .putfield 31, 3, 7, 1), (30, .return_, 1, 0, 0)]
abbrev hX7_addMan : xHd := (yX7_addMan, cX7_addMan, 2, none)
theorem kX7_addMan : xck hX7_addMan rX7_addMan = true := by decide +kernel
def rX7_isCovered : List xRow := [(0, .aload_n 0, 1, 0, 0), (1, .getfield 37, 3, 7, 3), (4, .iload_n 1, 1, 0, 0), (5, .ishr, 1, 0, 0), (6, .iconst 1, 1, 0, 0), (7, .iand, 1, 0, 0), (8, .iconst 1, 1, 0, 0), (9, .if_icmp .ne 7, 3, 16, 0), 
  (12, .iconst 1, 1, 0, 0), (13, .goto 4, 3, 17, 0), (16, .iconst 0, 1, 0, 0), (17, .ireturn, 1, 0, 0)]
abbrev hX7_isCovered : xHd := (yX7_isCovered, cX7_isCovered, 2, some .boolean)
theorem kX7_isCovered : xck hX7_isCovered rX7_isCovered = true := by decide +kernel
def rX7_knowledge : List xRow := [(0, .aload_n 0, 1, 0, 0), (1, .getfield 18, 3, 7, 6), (4, .iload_n 1, 1, 0, 0), (5, .bipush 10, 2, 0, 0), (7, .imul, 1, 0, 0), (8, .iload_n 2, 1, 0, 0), (9, .iadd, 1, 0, 0), (10, .iaload, 1, 0, 0), 
  (11, .ireturn, 1, 0, 0)]
abbrev hX7_knowledge : xHd := (yX7_knowledge, cX7_knowledge, 3, some .int)
theorem kX7_knowledge : xck hX7_knowledge rX7_knowledge = true := by decide +kernel
def rX7_allKnowledge : List xRow := [(0, .iconst 0, 1, 0, 0), (1, .istore_n 2, 1, 0, 0), (2, .iconst 0, 1, 0, 0), (3, .istore_n 3, 1, 0, 0), (4, .iload_n 3, 1, 0, 0), (5, .bipush 10, 2, 0, 0), (7, .if_icmp .ge 18, 3, 25, 0), (10, .iload_n 2, 1, 0, 0), 
  (11, .aload_n 0, 1, 0, 0), (12, .iload_n 1, 1, 0, 0), (13, .iload_n 3, 1, 0, 0), (14, .invokevirtual 46, 3, 60, 2), (17, .iadd, 1, 0, 0), (18, .istore_n 2, 1, 0, 0), (19, .iinc 3 1, 3, 0, 0), (22, .goto (-18), 3, 4, 0), 
  (25, .iload_n 2, 1, 0, 0), (26, .ireturn, 1, 0, 0)]
abbrev hX7_allKnowledge : xHd := (yX7_allKnowledge, cX7_allKnowledge, 4, some .int)
theorem kX7_allKnowledge : xck hX7_allKnowledge rX7_allKnowledge = true := by decide +kernel
def rX7_wellKnown : List xRow := [(0, .iconst 0, 1, 0, 0), (1, .istore_n 2, 1, 0, 0), (2, .iconst 0, 1, 0, 0), (3, .istore_n 3, 1, 0, 0), (4, .iload_n 3, 1, 0, 0), (5, .bipush 10, 2, 0, 0), (7, .if_icmp .ge 25, 3, 32, 0), (10, .aload_n 0, 1, 0, 0), 
  (11, .iload_n 1, 1, 0, 0), (12, .iload_n 3, 1, 0, 0), (13, .invokevirtual 46, 3, 60, 2), (16, .iconst 5, 1, 0, 0), (17, .if_icmp .lt 9, 3, 26, 0), (20, .iload_n 2, 1, 0, 0), (21, .iconst 1, 1, 0, 0), (22, .iload_n 3, 1, 0, 0), 
  (23, .ishl, 1, 0, 0), (24, .ior, 1, 0, 0), (25, .istore_n 2, 1, 0, 0), (26, .iinc 3 1, 3, 0, 0), (29, .goto (-25), 3, 4, 0), (32, .iload_n 2, 1, 0, 0), (33, .ireturn, 1, 0, 0)]
abbrev hX7_wellKnown : xHd := (yX7_wellKnown, cX7_wellKnown, 4, some .int)
theorem kX7_wellKnown : xck hX7_wellKnown rX7_wellKnown = true := by decide +kernel
def rX7_wellKnownBySome : List xRow := [(0, .iconst 0, 1, 0, 0), (1, .istore_n 1, 1, 0, 0), (2, .iconst 0, 1, 0, 0), (3, .istore_n 2, 1, 0, 0), (4, .iload_n 2, 1, 0, 0), (5, .aload_n 0, 1, 0, 0), (6, .getfield 27, 3, 7, 0), (9, .if_icmp .ge 17, 3, 26, 0), 
  (12, .iload_n 1, 1, 0, 0), (13, .aload_n 0, 1, 0, 0), (14, .iload_n 2, 1, 0, 0), (15, .invokevirtual 50, 3, 62, 1), (18, .ior, 1, 0, 0), (19, .istore_n 1, 1, 0, 0), (20, .iinc 2 1, 3, 0, 0), (23, .goto (-19), 3, 4, 0), 
  (26, .iload_n 1, 1, 0, 0), (27, .ireturn, 1, 0, 0)]
abbrev hX7_wellKnownBySome : xHd := (yX7_wellKnownBySome, cX7_wellKnownBySome, 3, some .int)
theorem kX7_wellKnownBySome : xck hX7_wellKnownBySome rX7_wellKnownBySome = true := by decide +kernel
def rX7_allWordsOfMen : List xRow := [(0, .iconst 0, 1, 0, 0), (1, .istore_n 1, 1, 0, 0), (2, .iconst 0, 1, 0, 0), (3, .istore_n 2, 1, 0, 0), (4, .iload_n 2, 1, 0, 0), (5, .aload_n 0, 1, 0, 0), (6, .getfield 31, 3, 7, 1), (9, .if_icmp .ge 21, 3, 30, 0), 
  (12, .iload_n 1, 1, 0, 0), (13, .aload_n 0, 1, 0, 0), (14, .getfield 21, 3, 7, 7), (17, .iload_n 2, 1, 0, 0), (18, .iaload, 1, 0, 0), (19, .invokestatic 54, 3, 223, 1), (22, .iadd, 1, 0, 0), (23, .istore_n 1, 1, 0, 0), 
  (24, .iinc 2 1, 3, 0, 0), (27, .goto (-23), 3, 4, 0), (30, .iload_n 1, 1, 0, 0), (31, .ireturn, 1, 0, 0)]
abbrev hX7_allWordsOfMen : xHd := (yX7_allWordsOfMen, cX7_allWordsOfMen, 3, some .int)
theorem kX7_allWordsOfMen : xck hX7_allWordsOfMen rX7_allWordsOfMen = true := by decide +kernel
def rX7_manBeside : List xRow := [(0, .iconst 0, 1, 0, 0), (1, .istore_n 2, 1, 0, 0), (2, .iload_n 2, 1, 0, 0), (3, .aload_n 0, 1, 0, 0), (4, .getfield 31, 3, 7, 1), (7, .if_icmp .ge 21, 3, 28, 0), (10, .aload_n 0, 1, 0, 0), (11, .getfield 24, 3, 7, 8), 
  (14, .iload_n 2, 1, 0, 0), (15, .iaload, 1, 0, 0), (16, .iload_n 1, 1, 0, 0), (17, .if_icmp .ne 5, 3, 22, 0), (20, .iload_n 2, 1, 0, 0), (21, .ireturn, 1, 0, 0), (22, .iinc 2 1, 3, 0, 0), (25, .goto (-23), 3, 2, 0), 
  (28, .iconst (-1), 1, 0, 0), (29, .ireturn, 1, 0, 0)]
abbrev hX7_manBeside : xHd := (yX7_manBeside, cX7_manBeside, 3, some .int)
theorem kX7_manBeside : xck hX7_manBeside rX7_manBeside = true := by decide +kernel
def rX7_seat : List xRow := [(0, .iload_n 2, 1, 0, 0), (1, .iconst (-1), 1, 0, 0), (2, .if_icmp .ne 7, 3, 9, 0), (5, .iconst (-1), 1, 0, 0), (6, .goto 8, 3, 14, 0), (9, .aload_n 0, 1, 0, 0), (10, .iload_n 2, 1, 0, 0), (11, .invokevirtual 59, 3, 65, 1), 
  (14, .istore_n 3, 1, 0, 0), (15, .iload_n 3, 1, 0, 0), (16, .iconst (-1), 1, 0, 0), (17, .if_icmp .eq 10, 3, 27, 0), (20, .aload_n 0, 1, 0, 0), (21, .getfield 24, 3, 7, 8), (24, .iload_n 3, 1, 0, 0), (25, .iconst (-1), 1, 0, 0), 
  (26, .iastore, 1, 0, 0), (27, .aload_n 0, 1, 0, 0), (28, .getfield 24, 3, 7, 8), (31, .iload_n 1, 1, 0, 0), (32, .iload_n 2, 1, 0, 0), (33, .iastore, 1, 0, 0), (34, .return_, 1, 0, 0)]
abbrev hX7_seat : xHd := (yX7_seat, cX7_seat, 4, none)
theorem kX7_seat : xck hX7_seat rX7_seat = true := by decide +kernel
def rX7_learn : List xRow := [(0, .aload_n 0, 1, 0, 0), (1, .getfield 18, 3, 7, 6), (4, .iload_n 1, 1, 0, 0), (5, .bipush 10, 2, 0, 0), (7, .imul, 1, 0, 0), (8, .iload_n 2, 1, 0, 0), (9, .iadd, 1, 0, 0), (10, .iaload, 1, 0, 0), 
  (11, .iload_n 3, 1, 0, 0), (12, .iadd, 1, 0, 0), (13, .istore 4, 2, 0, 0), (15, .aload_n 0, 1, 0, 0), (16, .getfield 18, 3, 7, 6), (19, .iload_n 1, 1, 0, 0), (20, .bipush 10, 2, 0, 0), (22, .imul, 1, 0, 0), 
  (23, .iload_n 2, 1, 0, 0), (24, .iadd, 1, 0, 0), (25, .iload 4, 2, 0, 0), (27, .bipush 9, 2, 0, 0), (29, .if_icmp .le 8, 3, 37, 0), (32, .bipush 9, 2, 0, 0), (34, .goto 5, 3, 39, 0), (37, .iload 4, 2, 0, 0), 
  (39, .iastore, 1, 0, 0), (40, .return_, 1, 0, 0)]
abbrev hX7_learn : xHd := (yX7_learn, cX7_learn, 5, none)
theorem kX7_learn : xck hX7_learn rX7_learn = true := by decide +kernel
def rX7_halve : List xRow := [(0, .iconst 0, 1, 0, 0), (1, .istore_n 2, 1, 0, 0), (2, .iload_n 2, 1, 0, 0), (3, .bipush 10, 2, 0, 0), (5, .if_icmp .ge 24, 3, 29, 0), (8, .aload_n 0, 1, 0, 0), (9, .getfield 18, 3, 7, 6), (12, .iload_n 1, 1, 0, 0), 
  (13, .bipush 10, 2, 0, 0), (15, .imul, 1, 0, 0), (16, .iload_n 2, 1, 0, 0), (17, .iadd, 1, 0, 0), (18, .dup2, 1, 0, 0), (19, .iaload, 1, 0, 0), (20, .iconst 2, 1, 0, 0), (21, .idiv, 1, 0, 0), 
  (22, .iastore, 1, 0, 0), (23, .iinc 2 1, 3, 0, 0), (26, .goto (-24), 3, 2, 0), (29, .return_, 1, 0, 0)]
abbrev hX7_halve : xHd := (yX7_halve, cX7_halve, 3, none)
theorem kX7_halve : xck hX7_halve rX7_halve = true := by decide +kernel
def rX7_hearable : List xRow := [(0, .aload_n 0, 1, 0, 0), (1, .aload_n 0, 1, 0, 0), (2, .getfield 15, 3, 7, 5), (5, .iload_n 1, 1, 0, 0), (6, .iaload, 1, 0, 0), (7, .invokevirtual 62, 3, 72, 1), (10, .iconst 1, 1, 0, 0), (11, .iload_n 1, 1, 0, 0), 
  (12, .ishl, 1, 0, 0), (13, .iconst (-1), 1, 0, 0), (14, .ixor, 1, 0, 0), (15, .iand, 1, 0, 0), (16, .ireturn, 1, 0, 0)]
abbrev hX7_hearable : xHd := (yX7_hearable, cX7_hearable, 2, some .int)
theorem kX7_hearable : xck hX7_hearable rX7_hearable = true := by decide +kernel
def rX7_passEvening : List xRow := [(0, .iconst 0, 1, 0, 0), (1, .istore_n 2, 1, 0, 0), (2, .iload_n 2, 1, 0, 0), (3, .aload_n 0, 1, 0, 0), (4, .getfield 31, 3, 7, 1), (7, .if_icmp .ge 14, 3, 21, 0), (10, .aload_n 0, 1, 0, 0), (11, .iload_n 2, 1, 0, 0), 
  (12, .invokevirtual 65, 3, 71, 1), (15, .iinc 2 1, 3, 0, 0), (18, .goto (-16), 3, 2, 0), (21, .aload_n 1, 1, 0, 0), (22, .invokevirtual 69, 3, 28, 0), (25, .iconst 0, 1, 0, 0), (26, .istore_n 2, 1, 0, 0), (27, .iload_n 2, 1, 0, 0), 
  (28, .iconst 4, 1, 0, 0), (29, .if_icmp .ge 30, 3, 59, 0), (32, .aload_n 0, 1, 0, 0), (33, .iload_n 2, 1, 0, 0), (34, .invokevirtual 62, 3, 72, 1), (37, .istore_n 3, 1, 0, 0), (38, .aload_n 0, 1, 0, 0), (39, .iload_n 3, 1, 0, 0), 
  (40, .invokevirtual 74, 3, 73, 1), (43, .ifCond .ne 10, 3, 53, 0), (46, .aload_n 0, 1, 0, 0), (47, .iload_n 2, 1, 0, 0), (48, .iload_n 3, 1, 0, 0), (49, .aload_n 1, 1, 0, 0), (50, .invokevirtual 78, 3, 74, 3), (53, .iinc 2 1, 3, 0, 0), 
  (56, .goto (-29), 3, 27, 0), (59, .aload_n 0, 1, 0, 0), (60, .getfield 34, 3, 7, 2), (63, .iconst 3, 1, 0, 0), (64, .irem, 1, 0, 0), (65, .iconst 2, 1, 0, 0), (66, .if_icmp .ne 24, 3, 90, 0), (69, .iconst 0, 1, 0, 0), 
  (70, .istore_n 2, 1, 0, 0), (71, .iload_n 2, 1, 0, 0), (72, .aload_n 0, 1, 0, 0), (73, .getfield 27, 3, 7, 0), (76, .if_icmp .ge 14, 3, 90, 0), (79, .aload_n 0, 1, 0, 0), (80, .iload_n 2, 1, 0, 0), (81, .invokevirtual 82, 3, 78, 1), 
  (84, .iinc 2 1, 3, 0, 0), (87, .goto (-16), 3, 71, 0), (90, .aload_n 0, 1, 0, 0), (91, .dup, 1, 0, 0), (92, .getfield 34, 3, 7, 2), (95, .iconst 1, 1, 0, 0), (96, .iadd, 1, 0, 0), (97, .putfield 34, 3, 7, 2), 
  (100, .return_, 1, 0, 0)]
abbrev hX7_passEvening : xHd := (yX7_passEvening, cX7_passEvening, 4, none)
theorem kX7_passEvening : xck hX7_passEvening rX7_passEvening = true := by decide +kernel
def rX7_handOver : List xRow := [(0, .aload_n 0, 1, 0, 0), (1, .getfield 24, 3, 7, 8), (4, .iload_n 1, 1, 0, 0), (5, .iaload, 1, 0, 0), (6, .istore_n 2, 1, 0, 0), (7, .iload_n 2, 1, 0, 0), (8, .iconst (-1), 1, 0, 0), (9, .if_icmp .eq 20, 3, 29, 0), 
  (12, .aload_n 0, 1, 0, 0), (13, .getfield 21, 3, 7, 7), (16, .iload_n 1, 1, 0, 0), (17, .iaload, 1, 0, 0), (18, .ifCond .eq 11, 3, 29, 0), (21, .aload_n 0, 1, 0, 0), (22, .iload_n 2, 1, 0, 0), (23, .invokevirtual 85, 3, 59, 1), 
  (26, .ifCond .eq 4, 3, 30, 0), (29, .return_, 1, 0, 0), (30, .getstatic 88, 3, 2, 1), (33, .aload_n 0, 1, 0, 0), (34, .getfield 9, 3, 7, 4), (37, .iload_n 2, 1, 0, 0), (38, .iaload, 1, 0, 0), (39, .iaload, 1, 0, 0), 
  (40, .istore_n 3, 1, 0, 0), (41, .iload_n 3, 1, 0, 0), (42, .ifCond .le 35, 3, 77, 0), (45, .aload_n 0, 1, 0, 0), (46, .iload_n 2, 1, 0, 0), (47, .aload_n 0, 1, 0, 0), (48, .getfield 21, 3, 7, 7), (51, .iload_n 1, 1, 0, 0), 
  (52, .iaload, 1, 0, 0), (53, .invokestatic 91, 3, 222, 1), (56, .iload_n 3, 1, 0, 0), (57, .invokevirtual 94, 3, 67, 3), (60, .aload_n 0, 1, 0, 0), (61, .getfield 21, 3, 7, 7), (64, .iload_n 1, 1, 0, 0), (65, .dup2, 1, 0, 0), 
  (66, .iaload, 1, 0, 0), (67, .aload_n 0, 1, 0, 0), (68, .getfield 21, 3, 7, 7), (71, .iload_n 1, 1, 0, 0), (72, .iaload, 1, 0, 0), (73, .iconst 1, 1, 0, 0), (74, .isub, 1, 0, 0), (75, .iand, 1, 0, 0), 
  (76, .iastore, 1, 0, 0), (77, .return_, 1, 0, 0)]
abbrev hX7_handOver : xHd := (yX7_handOver, cX7_handOver, 4, none)
theorem kX7_handOver : xck hX7_handOver rX7_handOver = true := by decide +kernel
def rX7_awakeOn : List xRow := [(0, .iconst 0, 1, 0, 0), (1, .istore_n 2, 1, 0, 0), (2, .iconst 0, 1, 0, 0), (3, .istore_n 3, 1, 0, 0), (4, .iload_n 3, 1, 0, 0), (5, .aload_n 0, 1, 0, 0), (6, .getfield 27, 3, 7, 0), (9, .if_icmp .ge 25, 3, 34, 0), 
  (12, .aload_n 0, 1, 0, 0), (13, .getfield 15, 3, 7, 5), (16, .iload_n 3, 1, 0, 0), (17, .iaload, 1, 0, 0), (18, .iload_n 1, 1, 0, 0), (19, .if_icmp .ne 9, 3, 28, 0), (22, .iload_n 2, 1, 0, 0), (23, .iconst 1, 1, 0, 0), 
  (24, .iload_n 3, 1, 0, 0), (25, .ishl, 1, 0, 0), (26, .ior, 1, 0, 0), (27, .istore_n 2, 1, 0, 0), (28, .iinc 3 1, 3, 0, 0), (31, .goto (-27), 3, 4, 0), (34, .iload_n 2, 1, 0, 0), (35, .aload_n 0, 1, 0, 0), 
  (36, .getfield 37, 3, 7, 3), (39, .iconst (-1), 1, 0, 0), (40, .ixor, 1, 0, 0), (41, .iand, 1, 0, 0), (42, .ireturn, 1, 0, 0)]
abbrev hX7_awakeOn : xHd := (yX7_awakeOn, cX7_awakeOn, 4, some .int)
theorem kX7_awakeOn : xck hX7_awakeOn rX7_awakeOn = true := by decide +kernel
def rX7_isSilenced : List xRow := [(0, .iconst 0, 1, 0, 0), (1, .istore_n 2, 1, 0, 0), (2, .iload_n 2, 1, 0, 0), (3, .aload_n 0, 1, 0, 0), (4, .getfield 27, 3, 7, 0), (7, .if_icmp .ge 30, 3, 37, 0), (10, .iload_n 1, 1, 0, 0), (11, .iload_n 2, 1, 0, 0), 
  (12, .ishr, 1, 0, 0), (13, .iconst 1, 1, 0, 0), (14, .iand, 1, 0, 0), (15, .iconst 1, 1, 0, 0), (16, .if_icmp .ne 15, 3, 31, 0), (19, .aload_n 0, 1, 0, 0), (20, .getfield 9, 3, 7, 4), (23, .iload_n 2, 1, 0, 0), 
  (24, .iaload, 1, 0, 0), (25, .iconst 3, 1, 0, 0), (26, .if_icmp .ne 5, 3, 31, 0), (29, .iconst 1, 1, 0, 0), (30, .ireturn, 1, 0, 0), (31, .iinc 2 1, 3, 0, 0), (34, .goto (-32), 3, 2, 0), (37, .iconst 0, 1, 0, 0), 
  (38, .ireturn, 1, 0, 0)]
abbrev hX7_isSilenced : xHd := (yX7_isSilenced, cX7_isSilenced, 3, some .boolean)
theorem kX7_isSilenced : xck hX7_isSilenced rX7_isSilenced = true := by decide +kernel
def rX7_speakOn : List xRow := [(0, .iconst 0, 1, 0, 0), (1, .istore 4, 2, 0, 0), (3, .iload 4, 2, 0, 0), (5, .aload_n 0, 1, 0, 0), (6, .getfield 27, 3, 7, 0), (9, .if_icmp .ge 35, 3, 44, 0), (12, .iload_n 2, 1, 0, 0), (13, .iload 4, 2, 0, 0), 
  (15, .ishr, 1, 0, 0), (16, .iconst 1, 1, 0, 0), (17, .iand, 1, 0, 0), (18, .iconst 1, 1, 0, 0), (19, .if_icmp .ne 19, 3, 38, 0), (22, .aload_n 0, 1, 0, 0), (23, .iload 4, 2, 0, 0), (25, .iload_n 1, 1, 0, 0), 
  (26, .iload_n 2, 1, 0, 0), (27, .iconst 1, 1, 0, 0), (28, .iload 4, 2, 0, 0), (30, .ishl, 1, 0, 0), (31, .iconst (-1), 1, 0, 0), (32, .ixor, 1, 0, 0), (33, .iand, 1, 0, 0), (34, .aload_n 3, 1, 0, 0), 
  (35, .invokevirtual 98, 3, 75, 4), (38, .iinc 4 1, 3, 0, 0), (41, .goto (-38), 3, 3, 0), (44, .return_, 1, 0, 0)]
abbrev hX7_speakOn : xHd := (yX7_speakOn, cX7_speakOn, 5, none)
theorem kX7_speakOn : xck hX7_speakOn rX7_speakOn = true := by decide +kernel
def rX7_speak : List xRow := [(0, .iconst 0, 1, 0, 0), (1, .istore 5, 2, 0, 0), (3, .iconst 0, 1, 0, 0), (4, .istore 6, 2, 0, 0), (6, .iload 6, 2, 0, 0), (8, .getstatic 102, 3, 3, 1), (11, .aload_n 0, 1, 0, 0), (12, .getfield 9, 3, 7, 4), 
  (15, .iload_n 1, 1, 0, 0), (16, .iaload, 1, 0, 0), (17, .iaload, 1, 0, 0), (18, .if_icmp .ge 49, 3, 67, 0), (21, .aload_n 0, 1, 0, 0), (22, .iload_n 1, 1, 0, 0), (23, .iload 5, 2, 0, 0), (25, .invokevirtual 105, 3, 76, 2), 
  (28, .istore 7, 2, 0, 0), (30, .iload 7, 2, 0, 0), (32, .iconst (-1), 1, 0, 0), (33, .if_icmp .ne 4, 3, 37, 0), (36, .return_, 1, 0, 0), (37, .iload 5, 2, 0, 0), (39, .iconst 1, 1, 0, 0), (40, .iload 7, 2, 0, 0), 
  (42, .ishl, 1, 0, 0), (43, .ior, 1, 0, 0), (44, .istore 5, 2, 0, 0), (46, .aload 4, 2, 0, 0), (48, .iload_n 2, 1, 0, 0), (49, .iload 7, 2, 0, 0), (51, .invokevirtual 108, 3, 29, 2), (54, .aload_n 0, 1, 0, 0), 
  (55, .iload 7, 2, 0, 0), (57, .iload_n 3, 1, 0, 0), (58, .invokevirtual 112, 3, 77, 2), (61, .iinc 6 1, 3, 0, 0), (64, .goto (-58), 3, 6, 0), (67, .return_, 1, 0, 0)]
abbrev hX7_speak : xHd := (yX7_speak, cX7_speak, 8, none)
theorem kX7_speak : xck hX7_speak rX7_speak = true := by decide +kernel
def rX7_bestKnown : List xRow := [(0, .iconst (-1), 1, 0, 0), (1, .istore_n 3, 1, 0, 0), (2, .iconst 0, 1, 0, 0), (3, .istore 4, 2, 0, 0), (5, .iconst 0, 1, 0, 0), (6, .istore 5, 2, 0, 0), (8, .iload 5, 2, 0, 0), (10, .bipush 10, 2, 0, 0), 
  (12, .if_icmp .ge 46, 3, 58, 0), (15, .aload_n 0, 1, 0, 0), (16, .getfield 18, 3, 7, 6), (19, .iload_n 1, 1, 0, 0), (20, .bipush 10, 2, 0, 0), (22, .imul, 1, 0, 0), (23, .iload 5, 2, 0, 0), (25, .iadd, 1, 0, 0), 
  (26, .iaload, 1, 0, 0), (27, .istore 6, 2, 0, 0), (29, .iload 6, 2, 0, 0), (31, .iload 4, 2, 0, 0), (33, .if_icmp .le 19, 3, 52, 0), (36, .iload_n 2, 1, 0, 0), (37, .iload 5, 2, 0, 0), (39, .ishr, 1, 0, 0), 
  (40, .iconst 1, 1, 0, 0), (41, .iand, 1, 0, 0), (42, .ifCond .ne 10, 3, 52, 0), (45, .iload 6, 2, 0, 0), (47, .istore 4, 2, 0, 0), (49, .iload 5, 2, 0, 0), (51, .istore_n 3, 1, 0, 0), (52, .iinc 5 1, 3, 0, 0), 
  (55, .goto (-47), 3, 8, 0), (58, .iload_n 3, 1, 0, 0), (59, .ireturn, 1, 0, 0)]
abbrev hX7_bestKnown : xHd := (yX7_bestKnown, cX7_bestKnown, 7, some .int)
theorem kX7_bestKnown : xck hX7_bestKnown rX7_bestKnown = true := by decide +kernel
def rX7_spread : List xRow := [(0, .iconst 0, 1, 0, 0), (1, .istore_n 3, 1, 0, 0), (2, .iload_n 3, 1, 0, 0), (3, .aload_n 0, 1, 0, 0), (4, .getfield 27, 3, 7, 0), (7, .if_icmp .ge 34, 3, 41, 0), (10, .iload_n 2, 1, 0, 0), (11, .iload_n 3, 1, 0, 0), 
  (12, .ishr, 1, 0, 0), (13, .iconst 1, 1, 0, 0), (14, .iand, 1, 0, 0), (15, .iconst 1, 1, 0, 0), (16, .if_icmp .ne 19, 3, 35, 0), (19, .aload_n 0, 1, 0, 0), (20, .iload_n 3, 1, 0, 0), (21, .iload_n 1, 1, 0, 0), 
  (22, .getstatic 115, 3, 1, 1), (25, .aload_n 0, 1, 0, 0), (26, .getfield 9, 3, 7, 4), (29, .iload_n 3, 1, 0, 0), (30, .iaload, 1, 0, 0), (31, .iaload, 1, 0, 0), (32, .invokevirtual 94, 3, 67, 3), (35, .iinc 3 1, 3, 0, 0), 
  (38, .goto (-36), 3, 2, 0), (41, .return_, 1, 0, 0)]
abbrev hX7_spread : xHd := (yX7_spread, cX7_spread, 4, none)
theorem kX7_spread : xck hX7_spread rX7_spread = true := by decide +kernel
def rX7_lose : List xRow := [(0, .aload_n 0, 1, 0, 0), (1, .iload_n 1, 1, 0, 0), (2, .invokevirtual 85, 3, 59, 1), (5, .ifCond .eq 4, 3, 9, 0), (8, .return_, 1, 0, 0), (9, .iconst 0, 1, 0, 0), (10, .istore_n 2, 1, 0, 0), (11, .iload_n 2, 1, 0, 0), 
  (12, .bipush 10, 2, 0, 0), (14, .if_icmp .ge 53, 3, 67, 0), (17, .aload_n 0, 1, 0, 0), (18, .iload_n 1, 1, 0, 0), (19, .iload_n 2, 1, 0, 0), (20, .invokevirtual 46, 3, 60, 2), (23, .istore_n 3, 1, 0, 0), (24, .iload_n 3, 1, 0, 0), 
  (25, .iconst 1, 1, 0, 0), (26, .if_icmp .lt 35, 3, 61, 0), (29, .iload_n 3, 1, 0, 0), (30, .iconst 5, 1, 0, 0), (31, .if_icmp .ge 30, 3, 61, 0), (34, .aload_n 0, 1, 0, 0), (35, .getfield 18, 3, 7, 6), (38, .iload_n 1, 1, 0, 0), 
  (39, .bipush 10, 2, 0, 0), (41, .imul, 1, 0, 0), (42, .iload_n 2, 1, 0, 0), (43, .iadd, 1, 0, 0), (44, .iconst 0, 1, 0, 0), (45, .iload_n 3, 1, 0, 0), (46, .getstatic 118, 3, 4, 1), (49, .aload_n 0, 1, 0, 0), 
  (50, .getfield 9, 3, 7, 4), (53, .iload_n 1, 1, 0, 0), (54, .iaload, 1, 0, 0), (55, .iaload, 1, 0, 0), (56, .isub, 1, 0, 0), (57, .invokestatic 121, 3, 224, 2), (60, .iastore, 1, 0, 0), (61, .iinc 2 1, 3, 0, 0), 
  (64, .goto (-53), 3, 11, 0), (67, .return_, 1, 0, 0)]
abbrev hX7_lose : xHd := (yX7_lose, cX7_lose, 4, none)
theorem kX7_lose : xck hX7_lose rX7_lose = true := by decide +kernel
end
section
def rX8_write : List xRow := [(0, .iload_n 1, 1, 0, 0), (1, .iconst 0, 1, 0, 0), (2, .sipush 255, 3, 0, 0), (5, .invokestatic 77, 3, 114, 3), (8, .ifCond .eq 6, 3, 14, 0), (11, .bipush (-3), 2, 0, 0), (13, .ireturn, 1, 0, 0), (14, .aload_n 0, 1, 0, 0), 
  (15, .getfield 10, 3, 8, 0), (18, .getfield 81, 3, 5, 1), (21, .sipush 200, 3, 0, 0), (24, .if_icmp .lt 6, 3, 30, 0), (27, .bipush (-5), 2, 0, 0), (29, .ireturn, 1, 0, 0), (30, .aload_n 0, 1, 0, 0), (31, .getfield 10, 3, 8, 0), 
  (34, .iload_n 1, 1, 0, 0), (35, .invokevirtual 85, 3, 32, 1), (38, .aload_n 0, 1, 0, 0), (39, .getfield 10, 3, 8, 0), (42, .getfield 81, 3, 5, 1), (45, .ireturn, 1, 0, 0)]
abbrev hX8_write : xHd := (yX8_write, cX8_write, 2, some .int)
theorem kX8_write : xck hX8_write rX8_write = true := by decide +kernel
def rX8_erase : List xRow := [(0, .aload_n 0, 1, 0, 0), (1, .getfield 10, 3, 8, 0), (4, .getfield 81, 3, 5, 1), (7, .istore_n 1, 1, 0, 0), (8, .aload_n 0, 1, 0, 0), (9, .getfield 10, 3, 8, 0), (12, .invokevirtual 89, 3, 33, 0), (15, .iload_n 1, 1, 0, 0), 
  (16, .ireturn, 1, 0, 0)]
abbrev hX8_erase : xHd := (yX8_erase, cX8_erase, 2, some .int)
theorem kX8_erase : xck hX8_erase rX8_erase = true := by decide +kernel
def rX8_fault : List xRow := [(0, .iload_n 1, 1, 0, 0), (1, .iconst 0, 1, 0, 0), (2, .iconst 1, 1, 0, 0), (3, .invokestatic 77, 3, 114, 3), (6, .ifCond .eq 6, 3, 12, 0), (9, .bipush (-3), 2, 0, 0), (11, .ireturn, 1, 0, 0), (12, .iload_n 1, 1, 0, 0), 
  (13, .ifCond .ne 17, 3, 30, 0), (16, .aload_n 0, 1, 0, 0), (17, .getfield 21, 3, 8, 1), (20, .aload_n 0, 1, 0, 0), (21, .getfield 35, 3, 8, 3), (24, .invokevirtual 92, 3, 1, 1), (27, .goto 10, 3, 37, 0), (30, .aload_n 0, 1, 0, 0), 
  (31, .getfield 10, 3, 8, 0), (34, .invokestatic 96, 3, 46, 1), (37, .ireturn, 1, 0, 0)]
abbrev hX8_fault : xHd := (yX8_fault, cX8_fault, 2, some .int)
theorem kX8_fault : xck hX8_fault rX8_fault = true := by decide +kernel
def rX8_harbour : List xRow := [(0, .aload_n 0, 1, 0, 0), (1, .getfield 21, 3, 8, 1), (4, .aload_n 0, 1, 0, 0), (5, .getfield 35, 3, 8, 3), (8, .invokevirtual 92, 3, 1, 1), (11, .iconst (-1), 1, 0, 0), (12, .if_icmp .eq 6, 3, 18, 0), (15, .bipush (-4), 2, 0, 0), 
  (17, .ireturn, 1, 0, 0), (18, .aload_n 0, 1, 0, 0), (19, .getfield 35, 3, 8, 3), (22, .aload_n 0, 1, 0, 0), (23, .getfield 21, 3, 8, 1), (26, .getfield 100, 3, 0, 1), (29, .invokevirtual 103, 3, 55, 1), (32, .aload_n 0, 1, 0, 0), 
  (33, .getfield 39, 3, 8, 4), (36, .aload_n 0, 1, 0, 0), (37, .getfield 35, 3, 8, 3), (40, .invokevirtual 103, 3, 55, 1), (43, .aload_n 0, 1, 0, 0), (44, .getfield 55, 3, 8, 7), (47, .invokevirtual 107, 3, 11, 0), (50, .aload_n 0, 1, 0, 0), 
  (51, .getfield 62, 3, 8, 8), (54, .invokevirtual 108, 3, 24, 0), (57, .aload_n 0, 1, 0, 0), (58, .getfield 10, 3, 8, 0), (61, .invokevirtual 89, 3, 33, 0), (64, .aload_n 0, 1, 0, 0), (65, .getfield 21, 3, 8, 1), (68, .getfield 109, 3, 0, 2), 
  (71, .ireturn, 1, 0, 0)]
abbrev hX8_harbour : xHd := (yX8_harbour, cX8_harbour, 1, some .int)
theorem kX8_harbour : xck hX8_harbour rX8_harbour = true := by decide +kernel
def rX8_tongue : List xRow := [(0, .aload_n 0, 1, 0, 0), (1, .getfield 10, 3, 8, 0), (4, .invokestatic 96, 3, 46, 1), (7, .iconst (-1), 1, 0, 0), (8, .if_icmp .eq 6, 3, 14, 0), (11, .bipush (-4), 2, 0, 0), (13, .ireturn, 1, 0, 0), (14, .aload_n 0, 1, 0, 0), 
  (15, .getfield 28, 3, 8, 2), (18, .aload_n 0, 1, 0, 0), (19, .getfield 10, 3, 8, 0), (22, .invokevirtual 112, 3, 47, 1), (25, .aload_n 0, 1, 0, 0), (26, .getfield 10, 3, 8, 0), (29, .invokevirtual 89, 3, 33, 0), (32, .aload_n 0, 1, 0, 0), 
  (33, .getfield 28, 3, 8, 2), (36, .getfield 115, 3, 6, 6), (39, .ireturn, 1, 0, 0)]
abbrev hX8_tongue : xHd := (yX8_tongue, cX8_tongue, 1, some .int)
theorem kX8_tongue : xck hX8_tongue rX8_tongue = true := by decide +kernel
def rX8_bird : List xRow := [(0, .aload_n 0, 1, 0, 0), (1, .iload_n 1, 1, 0, 0), (2, .invokevirtual 118, 3, 115, 1), (5, .ifCond .eq 6, 3, 11, 0), (8, .bipush (-2), 2, 0, 0), (10, .ireturn, 1, 0, 0), (11, .iload_n 2, 1, 0, 0), (12, .tableswitch 91 0 4 #[36, 46, 56, 73, 82], 36, 0, 0), 
  (48, .aload_n 0, 1, 0, 0), (49, .getfield 39, 3, 8, 4), (52, .getfield 122, 3, 7, 4), (55, .iload_n 1, 1, 0, 0), (56, .iaload, 1, 0, 0), (57, .ireturn, 1, 0, 0), (58, .aload_n 0, 1, 0, 0), (59, .getfield 39, 3, 8, 4), 
  (62, .getfield 125, 3, 7, 5), (65, .iload_n 1, 1, 0, 0), (66, .iaload, 1, 0, 0), (67, .ireturn, 1, 0, 0), (68, .aload_n 0, 1, 0, 0), (69, .getfield 39, 3, 8, 4), (72, .iload_n 1, 1, 0, 0), (73, .invokevirtual 128, 3, 59, 1), 
  (76, .ifCond .eq 7, 3, 83, 0), (79, .iconst 1, 1, 0, 0), (80, .goto 4, 3, 84, 0), (83, .iconst 0, 1, 0, 0), (84, .ireturn, 1, 0, 0), (85, .aload_n 0, 1, 0, 0), (86, .getfield 39, 3, 8, 4), (89, .iload_n 1, 1, 0, 0), 
  (90, .invokevirtual 131, 3, 65, 1), (93, .ireturn, 1, 0, 0), (94, .aload_n 0, 1, 0, 0), (95, .getfield 39, 3, 8, 4), (98, .iload_n 1, 1, 0, 0), (99, .invokevirtual 135, 3, 62, 1), (102, .ireturn, 1, 0, 0), (103, .bipush (-3), 2, 0, 0), 
  (105, .ireturn, 1, 0, 0)]
abbrev hX8_bird : xHd := (yX8_bird, cX8_bird, 3, some .int)
theorem kX8_bird : xck hX8_bird rX8_bird = true := by decide +kernel
def rX8_man : List xRow := [(0, .aload_n 0, 1, 0, 0), (1, .iload_n 1, 1, 0, 0), (2, .invokevirtual 138, 3, 116, 1), (5, .ifCond .eq 6, 3, 11, 0), (8, .bipush (-2), 2, 0, 0), (10, .ireturn, 1, 0, 0), (11, .iload_n 2, 1, 0, 0), (12, .iconst 0, 1, 0, 0), 
  (13, .iconst 1, 1, 0, 0), (14, .invokestatic 77, 3, 114, 3), (17, .ifCond .eq 6, 3, 23, 0), (20, .bipush (-3), 2, 0, 0), (22, .ireturn, 1, 0, 0), (23, .iload_n 2, 1, 0, 0), (24, .ifCond .ne 15, 3, 39, 0), (27, .aload_n 0, 1, 0, 0), 
  (28, .getfield 39, 3, 8, 4), (31, .getfield 141, 3, 7, 7), (34, .iload_n 1, 1, 0, 0), (35, .iaload, 1, 0, 0), (36, .goto 12, 3, 48, 0), (39, .aload_n 0, 1, 0, 0), (40, .getfield 39, 3, 8, 4), (43, .getfield 144, 3, 7, 8), 
  (46, .iload_n 1, 1, 0, 0), (47, .iaload, 1, 0, 0), (48, .ireturn, 1, 0, 0)]
abbrev hX8_man : xHd := (yX8_man, cX8_man, 3, some .int)
theorem kX8_man : xck hX8_man rX8_man = true := by decide +kernel
def rX8_known : List xRow := [(0, .aload_n 0, 1, 0, 0), (1, .iload_n 1, 1, 0, 0), (2, .invokevirtual 118, 3, 115, 1), (5, .ifCond .ne 10, 3, 15, 0), (8, .iload_n 2, 1, 0, 0), (9, .invokestatic 147, 3, 117, 1), (12, .ifCond .eq 6, 3, 18, 0), (15, .bipush (-2), 2, 0, 0), 
  (17, .ireturn, 1, 0, 0), (18, .iload_n 3, 1, 0, 0), (19, .iconst 0, 1, 0, 0), (20, .bipush 60, 2, 0, 0), (22, .invokestatic 77, 3, 114, 3), (25, .ifCond .eq 6, 3, 31, 0), (28, .bipush (-3), 2, 0, 0), (30, .ireturn, 1, 0, 0), 
  (31, .aload_n 0, 1, 0, 0), (32, .getfield 42, 3, 8, 5), (35, .aload_n 0, 1, 0, 0), (36, .getfield 39, 3, 8, 4), (39, .invokevirtual 103, 3, 55, 1), (42, .iconst 0, 1, 0, 0), (43, .istore 4, 2, 0, 0), (45, .iload 4, 2, 0, 0), 
  (47, .iload_n 3, 1, 0, 0), (48, .if_icmp .ge 20, 3, 68, 0), (51, .aload_n 0, 1, 0, 0), (52, .getfield 42, 3, 8, 5), (55, .aload_n 0, 1, 0, 0), (56, .getfield 48, 3, 8, 6), (59, .invokevirtual 150, 3, 70, 1), (62, .iinc 4 1, 3, 0, 0), 
  (65, .goto (-20), 3, 45, 0), (68, .aload_n 0, 1, 0, 0), (69, .getfield 42, 3, 8, 5), (72, .iload_n 1, 1, 0, 0), (73, .iload_n 2, 1, 0, 0), (74, .invokevirtual 154, 3, 60, 2), (77, .ireturn, 1, 0, 0)]
abbrev hX8_known : xHd := (yX8_known, cX8_known, 5, some .int)
theorem kX8_known : xck hX8_known rX8_known = true := by decide +kernel
def rX8_as : List xRow := [(0, .aload_n 0, 1, 0, 0), (1, .iload_n 1, 1, 0, 0), (2, .invokevirtual 118, 3, 115, 1), (5, .ifCond .eq 6, 3, 11, 0), (8, .bipush (-2), 2, 0, 0), (10, .ireturn, 1, 0, 0), (11, .iload_n 2, 1, 0, 0), (12, .iconst 0, 1, 0, 0), 
  (13, .iconst 5, 1, 0, 0), (14, .invokestatic 77, 3, 114, 3), (17, .ifCond .eq 6, 3, 23, 0), (20, .bipush (-3), 2, 0, 0), (22, .ireturn, 1, 0, 0), (23, .aload_n 0, 1, 0, 0), (24, .getfield 39, 3, 8, 4), (27, .getfield 122, 3, 7, 4), 
  (30, .iload_n 1, 1, 0, 0), (31, .iaload, 1, 0, 0), (32, .istore_n 3, 1, 0, 0), (33, .getstatic 158, 3, 5, 0), (36, .iload_n 3, 1, 0, 0), (37, .iaload, 1, 0, 0), (38, .iload_n 2, 1, 0, 0), (39, .ishr, 1, 0, 0), 
  (40, .iconst 1, 1, 0, 0), (41, .iand, 1, 0, 0), (42, .ifCond .ne 6, 3, 48, 0), (45, .bipush (-4), 2, 0, 0), (47, .ireturn, 1, 0, 0), (48, .getstatic 161, 3, 2, 0), (51, .iload_n 3, 1, 0, 0), (52, .iaload, 1, 0, 0), 
  (53, .ireturn, 1, 0, 0)]
abbrev hX8_as : xHd := (yX8_as, cX8_as, 4, some .int)
theorem kX8_as : xck hX8_as rX8_as = true := by decide +kernel
def rX8_evening : List xRow := [(0, .iload_n 1, 1, 0, 0), (1, .iconst 1, 1, 0, 0), (2, .bipush 12, 2, 0, 0), (4, .invokestatic 77, 3, 114, 3), (7, .ifCond .eq 6, 3, 13, 0), (10, .bipush (-3), 2, 0, 0), (12, .ireturn, 1, 0, 0), (13, .aload_n 0, 1, 0, 0), 
  (14, .getfield 39, 3, 8, 4), (17, .getfield 164, 3, 7, 2), (20, .iload_n 1, 1, 0, 0), (21, .iadd, 1, 0, 0), (22, .sipush 999, 3, 0, 0), (25, .if_icmp .le 6, 3, 31, 0), (28, .bipush (-5), 2, 0, 0), (30, .ireturn, 1, 0, 0), 
  (31, .aload_n 0, 1, 0, 0), (32, .getfield 55, 3, 8, 7), (35, .aload_n 0, 1, 0, 0), (36, .getfield 39, 3, 8, 4), (39, .invokevirtual 167, 3, 12, 1), (42, .iconst 0, 1, 0, 0), (43, .istore_n 2, 1, 0, 0), (44, .iload_n 2, 1, 0, 0), 
  (45, .iload_n 1, 1, 0, 0), (46, .if_icmp .ge 20, 3, 66, 0), (49, .aload_n 0, 1, 0, 0), (50, .getfield 39, 3, 8, 4), (53, .aload_n 0, 1, 0, 0), (54, .getfield 48, 3, 8, 6), (57, .invokevirtual 150, 3, 70, 1), (60, .iinc 2 1, 3, 0, 0), 
  (63, .goto (-19), 3, 44, 0), (66, .aload_n 0, 1, 0, 0), (67, .getfield 39, 3, 8, 4), (70, .getfield 164, 3, 7, 2), (73, .ireturn, 1, 0, 0)]
abbrev hX8_evening : xHd := (yX8_evening, cX8_evening, 3, some .int)
theorem kX8_evening : xck hX8_evening rX8_evening = true := by decide +kernel
def rX8_teach : List xRow := [(0, .aload_n 0, 1, 0, 0), (1, .iload_n 1, 1, 0, 0), (2, .invokevirtual 118, 3, 115, 1), (5, .ifCond .ne 10, 3, 15, 0), (8, .iload_n 2, 1, 0, 0), (9, .invokestatic 147, 3, 117, 1), (12, .ifCond .eq 6, 3, 18, 0), (15, .bipush (-2), 2, 0, 0), 
  (17, .ireturn, 1, 0, 0), (18, .aload_n 0, 1, 0, 0), (19, .getfield 55, 3, 8, 7), (22, .aload_n 0, 1, 0, 0), (23, .getfield 39, 3, 8, 4), (26, .invokevirtual 167, 3, 12, 1), (29, .aload_n 0, 1, 0, 0), (30, .getfield 39, 3, 8, 4), 
  (33, .iload_n 1, 1, 0, 0), (34, .iload_n 2, 1, 0, 0), (35, .iconst 3, 1, 0, 0), (36, .invokevirtual 170, 3, 67, 3), (39, .aload_n 0, 1, 0, 0), (40, .getfield 39, 3, 8, 4), (43, .iload_n 1, 1, 0, 0), (44, .iload_n 2, 1, 0, 0), 
  (45, .invokevirtual 154, 3, 60, 2), (48, .ireturn, 1, 0, 0)]
abbrev hX8_teach : xHd := (yX8_teach, cX8_teach, 3, some .int)
theorem kX8_teach : xck hX8_teach rX8_teach = true := by decide +kernel
def rX8_moult : List xRow := [(0, .aload_n 0, 1, 0, 0), (1, .iload_n 1, 1, 0, 0), (2, .invokevirtual 118, 3, 115, 1), (5, .ifCond .eq 6, 3, 11, 0), (8, .bipush (-2), 2, 0, 0), (10, .ireturn, 1, 0, 0), (11, .aload_n 0, 1, 0, 0), (12, .getfield 55, 3, 8, 7), 
  (15, .aload_n 0, 1, 0, 0), (16, .getfield 39, 3, 8, 4), (19, .invokevirtual 167, 3, 12, 1), (22, .aload_n 0, 1, 0, 0), (23, .getfield 39, 3, 8, 4), (26, .iload_n 1, 1, 0, 0), (27, .invokevirtual 174, 3, 68, 1), (30, .aload_n 0, 1, 0, 0), 
  (31, .getfield 39, 3, 8, 4), (34, .iload_n 1, 1, 0, 0), (35, .invokevirtual 177, 3, 61, 1), (38, .ireturn, 1, 0, 0)]
abbrev hX8_moult : xHd := (yX8_moult, cX8_moult, 2, some .int)
theorem kX8_moult : xck hX8_moult rX8_moult = true := by decide +kernel
def rX8_perch : List xRow := [(0, .aload_n 0, 1, 0, 0), (1, .iload_n 1, 1, 0, 0), (2, .invokevirtual 118, 3, 115, 1), (5, .ifCond .ne 10, 3, 15, 0), (8, .iload_n 2, 1, 0, 0), (9, .invokestatic 180, 3, 118, 1), (12, .ifCond .eq 6, 3, 18, 0), (15, .bipush (-2), 2, 0, 0), 
  (17, .ireturn, 1, 0, 0), (18, .aload_n 0, 1, 0, 0), (19, .getfield 39, 3, 8, 4), (22, .getfield 125, 3, 7, 5), (25, .iload_n 1, 1, 0, 0), (26, .iaload, 1, 0, 0), (27, .istore_n 3, 1, 0, 0), (28, .iload_n 3, 1, 0, 0), 
  (29, .iload_n 2, 1, 0, 0), (30, .if_icmp .ne 6, 3, 36, 0), (33, .bipush (-4), 2, 0, 0), (35, .ireturn, 1, 0, 0), (36, .aload_n 0, 1, 0, 0), (37, .getfield 55, 3, 8, 7), (40, .aload_n 0, 1, 0, 0), (41, .getfield 39, 3, 8, 4), 
  (44, .invokevirtual 167, 3, 12, 1), (47, .aload_n 0, 1, 0, 0), (48, .getfield 39, 3, 8, 4), (51, .getfield 125, 3, 7, 5), (54, .iload_n 1, 1, 0, 0), (55, .iload_n 2, 1, 0, 0), (56, .iastore, 1, 0, 0), (57, .iload_n 3, 1, 0, 0), 
  (58, .ireturn, 1, 0, 0)]
abbrev hX8_perch : xHd := (yX8_perch, cX8_perch, 4, some .int)
theorem kX8_perch : xck hX8_perch rX8_perch = true := by decide +kernel
def rX8_cover : List xRow := [(0, .aload_n 0, 1, 0, 0), (1, .iload_n 1, 1, 0, 0), (2, .invokevirtual 118, 3, 115, 1), (5, .ifCond .eq 6, 3, 11, 0), (8, .bipush (-2), 2, 0, 0), (10, .ireturn, 1, 0, 0), (11, .aload_n 0, 1, 0, 0), (12, .getfield 55, 3, 8, 7), 
  (15, .aload_n 0, 1, 0, 0), (16, .getfield 39, 3, 8, 4), (19, .invokevirtual 167, 3, 12, 1), (22, .aload_n 0, 1, 0, 0), (23, .getfield 39, 3, 8, 4), (26, .dup, 1, 0, 0), (27, .getfield 183, 3, 7, 3), (30, .iconst 1, 1, 0, 0), 
  (31, .iload_n 1, 1, 0, 0), (32, .ishl, 1, 0, 0), (33, .ixor, 1, 0, 0), (34, .putfield 183, 3, 7, 3), (37, .aload_n 0, 1, 0, 0), (38, .getfield 39, 3, 8, 4), (41, .iload_n 1, 1, 0, 0), (42, .invokevirtual 128, 3, 59, 1), 
  (45, .ifCond .eq 7, 3, 52, 0), (48, .iconst 1, 1, 0, 0), (49, .goto 4, 3, 53, 0), (52, .iconst 0, 1, 0, 0), (53, .ireturn, 1, 0, 0)]
abbrev hX8_cover : xHd := (yX8_cover, cX8_cover, 2, some .int)
theorem kX8_cover : xck hX8_cover rX8_cover = true := by decide +kernel
def rX8_sit : List xRow := [(0, .aload_n 0, 1, 0, 0), (1, .iload_n 1, 1, 0, 0), (2, .invokevirtual 138, 3, 116, 1), (5, .ifCond .ne 16, 3, 21, 0), (8, .iload_n 2, 1, 0, 0), (9, .iconst (-1), 1, 0, 0), (10, .if_icmp .eq 14, 3, 24, 0), (13, .aload_n 0, 1, 0, 0), 
  (14, .iload_n 2, 1, 0, 0), (15, .invokevirtual 118, 3, 115, 1), (18, .ifCond .eq 6, 3, 24, 0), (21, .bipush (-2), 2, 0, 0), (23, .ireturn, 1, 0, 0), (24, .aload_n 0, 1, 0, 0), (25, .getfield 39, 3, 8, 4), (28, .getfield 144, 3, 7, 8), 
  (31, .iload_n 1, 1, 0, 0), (32, .iaload, 1, 0, 0), (33, .istore_n 3, 1, 0, 0), (34, .iload_n 3, 1, 0, 0), (35, .iload_n 2, 1, 0, 0), (36, .if_icmp .ne 6, 3, 42, 0), (39, .bipush (-4), 2, 0, 0), (41, .ireturn, 1, 0, 0), 
  (42, .aload_n 0, 1, 0, 0), (43, .getfield 55, 3, 8, 7), (46, .aload_n 0, 1, 0, 0), (47, .getfield 39, 3, 8, 4), (50, .invokevirtual 167, 3, 12, 1), (53, .aload_n 0, 1, 0, 0), (54, .getfield 39, 3, 8, 4), (57, .iload_n 1, 1, 0, 0), 
  (58, .iload_n 2, 1, 0, 0), (59, .invokevirtual 186, 3, 66, 2), (62, .iload_n 3, 1, 0, 0), (63, .ireturn, 1, 0, 0)]
abbrev hX8_sit : xHd := (yX8_sit, cX8_sit, 4, some .int)
theorem kX8_sit : xck hX8_sit rX8_sit = true := by decide +kernel
def rX8_undo : List xRow := [(0, .aload_n 0, 1, 0, 0), (1, .getfield 55, 3, 8, 7), (4, .getfield 190, 3, 1, 4), (7, .ifCond .ne 6, 3, 13, 0), (10, .bipush (-4), 2, 0, 0), (12, .ireturn, 1, 0, 0), (13, .aload_n 0, 1, 0, 0), (14, .getfield 55, 3, 8, 7), 
  (17, .aload_n 0, 1, 0, 0), (18, .getfield 39, 3, 8, 4), (21, .invokevirtual 193, 3, 13, 1), (24, .aload_n 0, 1, 0, 0), (25, .getfield 55, 3, 8, 7), (28, .getfield 190, 3, 1, 4), (31, .ireturn, 1, 0, 0)]
abbrev hX8_undo : xHd := (yX8_undo, cX8_undo, 1, some .int)
theorem kX8_undo : xck hX8_undo rX8_undo = true := by decide +kernel
def rX8_keep : List xRow := [(0, .iload_n 1, 1, 0, 0), (1, .iconst 0, 1, 0, 0), (2, .iconst 1, 1, 0, 0), (3, .invokestatic 77, 3, 114, 3), (6, .ifCond .eq 6, 3, 12, 0), (9, .bipush (-2), 2, 0, 0), (11, .ireturn, 1, 0, 0), (12, .aload_n 0, 1, 0, 0), 
  (13, .getfield 55, 3, 8, 7), (16, .iload_n 1, 1, 0, 0), (17, .aload_n 0, 1, 0, 0), (18, .getfield 39, 3, 8, 4), (21, .invokevirtual 196, 3, 14, 2), (24, .aload_n 0, 1, 0, 0), (25, .getfield 39, 3, 8, 4), (28, .getfield 164, 3, 7, 2), 
  (31, .ireturn, 1, 0, 0)]
abbrev hX8_keep : xHd := (yX8_keep, cX8_keep, 2, some .int)
theorem kX8_keep : xck hX8_keep rX8_keep = true := by decide +kernel
def rX8_back : List xRow := [(0, .iload_n 1, 1, 0, 0), (1, .iconst 0, 1, 0, 0), (2, .iconst 1, 1, 0, 0), (3, .invokestatic 77, 3, 114, 3), (6, .ifCond .eq 6, 3, 12, 0), (9, .bipush (-2), 2, 0, 0), (11, .ireturn, 1, 0, 0), (12, .aload_n 0, 1, 0, 0), 
  (13, .getfield 55, 3, 8, 7), (16, .iload_n 1, 1, 0, 0), (17, .invokevirtual 200, 3, 15, 1), (20, .ifCond .ne 6, 3, 26, 0), (23, .bipush (-4), 2, 0, 0), (25, .ireturn, 1, 0, 0), (26, .aload_n 0, 1, 0, 0), (27, .getfield 55, 3, 8, 7), 
  (30, .iload_n 1, 1, 0, 0), (31, .aload_n 0, 1, 0, 0), (32, .getfield 39, 3, 8, 4), (35, .invokevirtual 203, 3, 16, 2), (38, .aload_n 0, 1, 0, 0), (39, .getfield 39, 3, 8, 4), (42, .getfield 164, 3, 7, 2), (45, .ireturn, 1, 0, 0)]
abbrev hX8_back : xHd := (yX8_back, cX8_back, 2, some .int)
theorem kX8_back : xck hX8_back rX8_back = true := by decide +kernel
def rX8_said : List xRow := [(0, .iload_n 1, 1, 0, 0), (1, .invokestatic 180, 3, 118, 1), (4, .ifCond .eq 6, 3, 10, 0), (7, .bipush (-2), 2, 0, 0), (9, .ireturn, 1, 0, 0), (10, .iload_n 2, 1, 0, 0), (11, .iconst 0, 1, 0, 0), (12, .bipush 15, 2, 0, 0), 
  (14, .invokestatic 77, 3, 114, 3), (17, .ifCond .eq 6, 3, 23, 0), (20, .bipush (-3), 2, 0, 0), (22, .ireturn, 1, 0, 0), (23, .aload_n 0, 1, 0, 0), (24, .invokevirtual 206, 3, 121, 0), (27, .aload_n 0, 1, 0, 0), (28, .getfield 48, 3, 8, 6), 
  (31, .iload_n 1, 1, 0, 0), (32, .iload_n 2, 1, 0, 0), (33, .invokevirtual 209, 3, 30, 2), (36, .ireturn, 1, 0, 0)]
abbrev hX8_said : xHd := (yX8_said, cX8_said, 3, some .int)
theorem kX8_said : xck hX8_said rX8_said = true := by decide +kernel
def rX8_when : List xRow := [(0, .aload_n 0, 1, 0, 0), (1, .iload_n 1, 1, 0, 0), (2, .invokevirtual 118, 3, 115, 1), (5, .ifCond .ne 10, 3, 15, 0), (8, .iload_n 2, 1, 0, 0), (9, .invokestatic 147, 3, 117, 1), (12, .ifCond .eq 6, 3, 18, 0), (15, .bipush (-2), 2, 0, 0), 
  (17, .ireturn, 1, 0, 0), (18, .iload_n 3, 1, 0, 0), (19, .iconst 1, 1, 0, 0), (20, .bipush 9, 2, 0, 0), (22, .invokestatic 77, 3, 114, 3), (25, .ifCond .eq 6, 3, 31, 0), (28, .bipush (-3), 2, 0, 0), (30, .ireturn, 1, 0, 0), 
  (31, .aload_n 0, 1, 0, 0), (32, .getfield 42, 3, 8, 5), (35, .aload_n 0, 1, 0, 0), (36, .getfield 39, 3, 8, 4), (39, .invokevirtual 103, 3, 55, 1), (42, .iconst 0, 1, 0, 0), (43, .istore 4, 2, 0, 0), (45, .iload 4, 2, 0, 0), 
  (47, .bipush 60, 2, 0, 0), (49, .if_icmp .gt 36, 3, 85, 0), (52, .aload_n 0, 1, 0, 0), (53, .getfield 42, 3, 8, 5), (56, .iload_n 1, 1, 0, 0), (57, .iload_n 2, 1, 0, 0), (58, .invokevirtual 154, 3, 60, 2), (61, .iload_n 3, 1, 0, 0), 
  (62, .if_icmp .lt 6, 3, 68, 0), (65, .iload 4, 2, 0, 0), (67, .ireturn, 1, 0, 0), (68, .aload_n 0, 1, 0, 0), (69, .getfield 42, 3, 8, 5), (72, .aload_n 0, 1, 0, 0), (73, .getfield 48, 3, 8, 6), (76, .invokevirtual 150, 3, 70, 1), 
  (79, .iinc 4 1, 3, 0, 0), (82, .goto (-37), 3, 45, 0), (85, .iconst (-1), 1, 0, 0), (86, .ireturn, 1, 0, 0)]
abbrev hX8_when : xHd := (yX8_when, cX8_when, 5, some .int)
theorem kX8_when : xck hX8_when rX8_when = true := by decide +kernel
def rX8_keeps : List xRow := [(0, .aload_n 0, 1, 0, 0), (1, .iload_n 1, 1, 0, 0), (2, .invokevirtual 138, 3, 116, 1), (5, .ifCond .ne 11, 3, 16, 0), (8, .aload_n 0, 1, 0, 0), (9, .iload_n 2, 1, 0, 0), (10, .invokevirtual 118, 3, 115, 1), (13, .ifCond .eq 6, 3, 19, 0), 
  (16, .bipush (-2), 2, 0, 0), (18, .ireturn, 1, 0, 0), (19, .iload_n 3, 1, 0, 0), (20, .iconst 1, 1, 0, 0), (21, .bipush 20, 2, 0, 0), (23, .invokestatic 77, 3, 114, 3), (26, .ifCond .eq 6, 3, 32, 0), (29, .bipush (-3), 2, 0, 0), 
  (31, .ireturn, 1, 0, 0), (32, .aload_n 0, 1, 0, 0), (33, .iload_n 1, 1, 0, 0), (34, .iload_n 2, 1, 0, 0), (35, .iload_n 3, 1, 0, 0), (36, .invokevirtual 212, 3, 122, 3), (39, .ireturn, 1, 0, 0)]
abbrev hX8_keeps : xHd := (yX8_keeps, cX8_keeps, 4, some .int)
theorem kX8_keeps : xck hX8_keeps rX8_keeps = true := by decide +kernel
def rX8_match : List xRow := [(0, .iload_n 2, 1, 0, 0), (1, .iconst (-1), 1, 0, 0), (2, .if_icmp .eq 14, 3, 16, 0), (5, .aload_n 0, 1, 0, 0), (6, .iload_n 2, 1, 0, 0), (7, .invokevirtual 138, 3, 116, 1), (10, .ifCond .eq 6, 3, 16, 0), (13, .bipush (-2), 2, 0, 0), 
  (15, .ireturn, 1, 0, 0), (16, .iload_n 1, 1, 0, 0), (17, .iconst 1, 1, 0, 0), (18, .bipush 20, 2, 0, 0), (20, .invokestatic 77, 3, 114, 3), (23, .ifCond .eq 6, 3, 29, 0), (26, .bipush (-3), 2, 0, 0), (28, .ireturn, 1, 0, 0), 
  (29, .iconst 0, 1, 0, 0), (30, .istore_n 3, 1, 0, 0), (31, .iload_n 3, 1, 0, 0), (32, .aload_n 0, 1, 0, 0), (33, .getfield 39, 3, 8, 4), (36, .getfield 216, 3, 7, 1), (39, .if_icmp .ge 50, 3, 89, 0), (42, .iconst 0, 1, 0, 0), 
  (43, .istore 4, 2, 0, 0), (45, .iload 4, 2, 0, 0), (47, .aload_n 0, 1, 0, 0), (48, .getfield 39, 3, 8, 4), (51, .getfield 219, 3, 7, 0), (54, .if_icmp .ge 29, 3, 83, 0), (57, .aload_n 0, 1, 0, 0), (58, .getfield 73, 3, 8, 10), 
  (61, .iload_n 3, 1, 0, 0), (62, .bipush 8, 2, 0, 0), (64, .imul, 1, 0, 0), (65, .iload 4, 2, 0, 0), (67, .iadd, 1, 0, 0), (68, .aload_n 0, 1, 0, 0), (69, .iload_n 3, 1, 0, 0), (70, .iload 4, 2, 0, 0), 
  (72, .iload_n 1, 1, 0, 0), (73, .invokevirtual 212, 3, 122, 3), (76, .iastore, 1, 0, 0), (77, .iinc 4 1, 3, 0, 0), (80, .goto (-35), 3, 45, 0), (83, .iinc 3 1, 3, 0, 0), (86, .goto (-55), 3, 31, 0), (89, .iload_n 2, 1, 0, 0), 
  (90, .iconst (-1), 1, 0, 0), (91, .if_icmp .ne 12, 3, 103, 0), (94, .aload_n 0, 1, 0, 0), (95, .iconst 0, 1, 0, 0), (96, .iconst 0, 1, 0, 0), (97, .invokevirtual 222, 3, 123, 2), (100, .goto 8, 3, 108, 0), (103, .aload_n 0, 1, 0, 0), 
  (104, .iload_n 2, 1, 0, 0), (105, .invokevirtual 225, 3, 124, 1), (108, .ireturn, 1, 0, 0)]
abbrev hX8_match : xHd := (yX8_match, cX8_match, 5, some .int)
theorem kX8_match : xck hX8_match rX8_match = true := by decide +kernel
def rX8_clean : List xRow := [(0, .aload_n 0, 1, 0, 0), (1, .iload_n 1, 1, 0, 0), (2, .invokevirtual 118, 3, 115, 1), (5, .ifCond .ne 10, 3, 15, 0), (8, .iload_n 2, 1, 0, 0), (9, .invokestatic 147, 3, 117, 1), (12, .ifCond .eq 6, 3, 18, 0), (15, .bipush (-2), 2, 0, 0), 
  (17, .ireturn, 1, 0, 0), (18, .iload_n 3, 1, 0, 0), (19, .iconst 1, 1, 0, 0), (20, .bipush 20, 2, 0, 0), (22, .invokestatic 77, 3, 114, 3), (25, .ifCond .eq 6, 3, 31, 0), (28, .bipush (-3), 2, 0, 0), (30, .ireturn, 1, 0, 0), 
  (31, .aload_n 0, 1, 0, 0), (32, .getfield 39, 3, 8, 4), (35, .iload_n 1, 1, 0, 0), (36, .invokevirtual 228, 3, 69, 1), (39, .istore 4, 2, 0, 0), (41, .iconst 0, 1, 0, 0), (42, .istore 5, 2, 0, 0), (44, .iload 5, 2, 0, 0), 
  (46, .bipush 8, 2, 0, 0), (48, .if_icmp .ge 61, 3, 109, 0), (51, .iconst 0, 1, 0, 0), (52, .istore 6, 2, 0, 0), (54, .iload 6, 2, 0, 0), (56, .sipush 256, 3, 0, 0), (59, .if_icmp .ge 44, 3, 103, 0), (62, .iload 6, 2, 0, 0), 
  (64, .iload 4, 2, 0, 0), (66, .iconst (-1), 1, 0, 0), (67, .ixor, 1, 0, 0), (68, .iand, 1, 0, 0), (69, .ifCond .ne 28, 3, 97, 0), (72, .iload 6, 2, 0, 0), (74, .invokestatic 231, 3, 223, 1), (77, .iload 5, 2, 0, 0), 
  (79, .if_icmp .ne 18, 3, 97, 0), (82, .aload_n 0, 1, 0, 0), (83, .iload_n 1, 1, 0, 0), (84, .iload_n 2, 1, 0, 0), (85, .iload_n 3, 1, 0, 0), (86, .iload 6, 2, 0, 0), (88, .invokevirtual 236, 3, 126, 4), (91, .ifCond .eq 6, 3, 97, 0), 
  (94, .iload 6, 2, 0, 0), (96, .ireturn, 1, 0, 0), (97, .iinc 6 1, 3, 0, 0), (100, .goto (-46), 3, 54, 0), (103, .iinc 5 1, 3, 0, 0), (106, .goto (-62), 3, 44, 0), (109, .iconst (-1), 1, 0, 0), (110, .ireturn, 1, 0, 0)]
abbrev hX8_clean : xHd := (yX8_clean, cX8_clean, 7, some .int)
theorem kX8_clean : xck hX8_clean rX8_clean = true := by decide +kernel
def rX8_of : List xRow := [(0, .iload_n 1, 1, 0, 0), (1, .invokestatic 180, 3, 118, 1), (4, .ifCond .eq 6, 3, 10, 0), (7, .bipush (-2), 2, 0, 0), (9, .ireturn, 1, 0, 0), (10, .iload_n 2, 1, 0, 0), (11, .iconst 0, 1, 0, 0), (12, .iconst 1, 1, 0, 0), 
  (13, .invokestatic 77, 3, 114, 3), (16, .ifCond .eq 6, 3, 22, 0), (19, .bipush (-3), 2, 0, 0), (21, .ireturn, 1, 0, 0), (22, .aload_n 0, 1, 0, 0), (23, .getfield 28, 3, 8, 2), (26, .getfield 240, 3, 6, 5), (29, .ifCond .ne 6, 3, 35, 0), 
  (32, .bipush (-4), 2, 0, 0), (34, .ireturn, 1, 0, 0), (35, .aload_n 0, 1, 0, 0), (36, .invokevirtual 206, 3, 121, 0), (39, .aload_n 0, 1, 0, 0), (40, .getfield 28, 3, 8, 2), (43, .aload_n 0, 1, 0, 0), (44, .getfield 48, 3, 8, 6), 
  (47, .iload_n 1, 1, 0, 0), (48, .invokevirtual 241, 3, 48, 2), (51, .istore_n 3, 1, 0, 0), (52, .iload_n 2, 1, 0, 0), (53, .ifCond .ne 17, 3, 70, 0), (56, .iload_n 3, 1, 0, 0), (57, .aload_n 0, 1, 0, 0), (58, .getfield 48, 3, 8, 6), 
  (61, .getfield 245, 3, 4, 1), (64, .iload_n 1, 1, 0, 0), (65, .iaload, 1, 0, 0), (66, .ishr, 1, 0, 0), (67, .iconst 1, 1, 0, 0), (68, .iand, 1, 0, 0), (69, .ireturn, 1, 0, 0), (70, .aload_n 0, 1, 0, 0), 
  (71, .getfield 48, 3, 8, 6), (74, .getfield 245, 3, 4, 1), (77, .iload_n 1, 1, 0, 0), (78, .iaload, 1, 0, 0), (79, .istore 4, 2, 0, 0), (81, .iload 4, 2, 0, 0), (83, .ifCond .lt 22, 3, 105, 0), (86, .iload_n 3, 1, 0, 0), 
  (87, .iload 4, 2, 0, 0), (89, .ishr, 1, 0, 0), (90, .iconst 1, 1, 0, 0), (91, .iand, 1, 0, 0), (92, .iconst 1, 1, 0, 0), (93, .if_icmp .ne 6, 3, 99, 0), (96, .iload 4, 2, 0, 0), (98, .ireturn, 1, 0, 0), 
  (99, .iinc 4 (-1), 3, 0, 0), (102, .goto (-21), 3, 81, 0), (105, .iconst (-1), 1, 0, 0), (106, .ireturn, 1, 0, 0)]
abbrev hX8_of : xHd := (yX8_of, cX8_of, 5, some .int)
theorem kX8_of : xck hX8_of rX8_of = true := by decide +kernel
def rX8_left : List xRow := [(0, .iload_n 1, 1, 0, 0), (1, .invokestatic 147, 3, 117, 1), (4, .ifCond .eq 6, 3, 10, 0), (7, .bipush (-2), 2, 0, 0), (9, .ireturn, 1, 0, 0), (10, .iload_n 2, 1, 0, 0), (11, .iconst 0, 1, 0, 0), (12, .bipush 10, 2, 0, 0), 
  (14, .invokestatic 77, 3, 114, 3), (17, .ifCond .ne 12, 3, 29, 0), (20, .iload_n 3, 1, 0, 0), (21, .iconst 0, 1, 0, 0), (22, .iconst 1, 1, 0, 0), (23, .invokestatic 77, 3, 114, 3), (26, .ifCond .eq 6, 3, 32, 0), (29, .bipush (-3), 2, 0, 0), 
  (31, .ireturn, 1, 0, 0), (32, .iconst 1, 1, 0, 0), (33, .istore 4, 2, 0, 0), (35, .iconst 1, 1, 0, 0), (36, .istore 5, 2, 0, 0), (38, .iconst 0, 1, 0, 0), (39, .istore 6, 2, 0, 0), (41, .iload 6, 2, 0, 0), 
  (43, .aload_n 0, 1, 0, 0), (44, .getfield 39, 3, 8, 4), (47, .getfield 219, 3, 7, 0), (50, .if_icmp .ge 36, 3, 86, 0), (53, .aload_n 0, 1, 0, 0), (54, .getfield 39, 3, 8, 4), (57, .iload 6, 2, 0, 0), (59, .iload_n 1, 1, 0, 0), 
  (60, .invokevirtual 154, 3, 60, 2), (63, .iconst 5, 1, 0, 0), (64, .if_icmp .lt 16, 3, 80, 0), (67, .iload 4, 2, 0, 0), (69, .bipush 10, 2, 0, 0), (71, .imul, 1, 0, 0), (72, .istore 4, 2, 0, 0), (74, .iload 5, 2, 0, 0), 
  (76, .iload_n 2, 1, 0, 0), (77, .imul, 1, 0, 0), (78, .istore 5, 2, 0, 0), (80, .iinc 6 1, 3, 0, 0), (83, .goto (-42), 3, 41, 0), (86, .iload 4, 2, 0, 0), (88, .iload 5, 2, 0, 0), (90, .isub, 1, 0, 0), 
  (91, .istore 6, 2, 0, 0), (93, .iload 4, 2, 0, 0), (95, .iload 6, 2, 0, 0), (97, .invokestatic 248, 3, 127, 2), (100, .istore 7, 2, 0, 0), (102, .iload_n 3, 1, 0, 0), (103, .ifCond .ne 8, 3, 111, 0), (106, .iload 6, 2, 0, 0), 
  (108, .goto 5, 3, 113, 0), (111, .iload 4, 2, 0, 0), (113, .iload 7, 2, 0, 0), (115, .idiv, 1, 0, 0), (116, .ireturn, 1, 0, 0)]
abbrev hX8_left : xHd := (yX8_left, cX8_left, 8, some .int)
theorem kX8_left : xck hX8_left rX8_left = true := by decide +kernel
def rX8_seen : List xRow := [(0, .iload_n 1, 1, 0, 0), (1, .invokestatic 180, 3, 118, 1), (4, .ifCond .ne 15, 3, 19, 0), (7, .iload_n 3, 1, 0, 0), (8, .iconst (-1), 1, 0, 0), (9, .if_icmp .eq 13, 3, 22, 0), (12, .iload_n 3, 1, 0, 0), (13, .invokestatic 147, 3, 117, 1), 
  (16, .ifCond .eq 6, 3, 22, 0), (19, .bipush (-2), 2, 0, 0), (21, .ireturn, 1, 0, 0), (22, .iload_n 2, 1, 0, 0), (23, .iconst 0, 1, 0, 0), (24, .bipush 9, 2, 0, 0), (26, .invokestatic 77, 3, 114, 3), (29, .ifCond .eq 6, 3, 35, 0), 
  (32, .bipush (-3), 2, 0, 0), (34, .ireturn, 1, 0, 0), (35, .aload_n 0, 1, 0, 0), (36, .getfield 62, 3, 8, 8), (39, .getfield 251, 3, 3, 3), (42, .bipush 6, 2, 0, 0), (44, .if_icmp .lt 6, 3, 50, 0), (47, .bipush (-5), 2, 0, 0), 
  (49, .ireturn, 1, 0, 0), (50, .aload_n 0, 1, 0, 0), (51, .getfield 62, 3, 8, 8), (54, .iload_n 1, 1, 0, 0), (55, .iload_n 2, 1, 0, 0), (56, .iload_n 3, 1, 0, 0), (57, .invokevirtual 252, 3, 25, 3), (60, .aload_n 0, 1, 0, 0), 
  (61, .getfield 62, 3, 8, 8), (64, .getfield 251, 3, 3, 3), (67, .ireturn, 1, 0, 0)]
abbrev hX8_seen : xHd := (yX8_seen, cX8_seen, 4, some .int)
theorem kX8_seen : xck hX8_seen rX8_seen = true := by decide +kernel
def rX8_forget : List xRow := [(0, .aload_n 0, 1, 0, 0), (1, .getfield 62, 3, 8, 8), (4, .getfield 251, 3, 3, 3), (7, .istore_n 1, 1, 0, 0), (8, .aload_n 0, 1, 0, 0), (9, .getfield 62, 3, 8, 8), (12, .invokevirtual 108, 3, 24, 0), (15, .iload_n 1, 1, 0, 0), 
  (16, .ireturn, 1, 0, 0)]
abbrev hX8_forget : xHd := (yX8_forget, cX8_forget, 2, some .int)
theorem kX8_forget : xck hX8_forget rX8_forget = true := by decide +kernel
def rX8_kinds : List xRow := [(0, .aload_n 0, 1, 0, 0), (1, .iload_n 1, 1, 0, 0), (2, .invokevirtual 118, 3, 115, 1), (5, .ifCond .eq 6, 3, 11, 0), (8, .bipush (-2), 2, 0, 0), (10, .ireturn, 1, 0, 0), (11, .iconst 0, 1, 0, 0), (12, .istore_n 2, 1, 0, 0), 
  (13, .iconst 0, 1, 0, 0), (14, .istore_n 3, 1, 0, 0), (15, .iload_n 3, 1, 0, 0), (16, .iconst 5, 1, 0, 0), (17, .if_icmp .ge 61, 3, 78, 0), (20, .aload_n 0, 1, 0, 0), (21, .getfield 42, 3, 8, 5), (24, .aload_n 0, 1, 0, 0), 
  (25, .getfield 39, 3, 8, 4), (28, .invokevirtual 103, 3, 55, 1), (31, .aload_n 0, 1, 0, 0), (32, .getfield 42, 3, 8, 5), (35, .getfield 122, 3, 7, 4), (38, .iload_n 1, 1, 0, 0), (39, .iload_n 3, 1, 0, 0), (40, .iastore, 1, 0, 0), 
  (41, .aload_n 0, 1, 0, 0), (42, .getfield 42, 3, 8, 5), (45, .aload_n 0, 1, 0, 0), (46, .getfield 48, 3, 8, 6), (49, .invokevirtual 150, 3, 70, 1), (52, .aload_n 0, 1, 0, 0), (53, .getfield 62, 3, 8, 8), (56, .aload_n 0, 1, 0, 0), 
  (57, .getfield 48, 3, 8, 6), (60, .invokevirtual 254, 3, 26, 1), (63, .ifCond .eq 9, 3, 72, 0), (66, .iload_n 2, 1, 0, 0), (67, .iconst 1, 1, 0, 0), (68, .iload_n 3, 1, 0, 0), (69, .ishl, 1, 0, 0), (70, .ior, 1, 0, 0), 
  (71, .istore_n 2, 1, 0, 0), (72, .iinc 3 1, 3, 0, 0), (75, .goto (-60), 3, 15, 0), (78, .iload_n 2, 1, 0, 0), (79, .ireturn, 1, 0, 0)]
abbrev hX8_kinds : xHd := (yX8_kinds, cX8_kinds, 4, some .int)
theorem kX8_kinds : xck hX8_kinds rX8_kinds = true := by decide +kernel
def rX8_reel : List xRow := [(0, .iload_n 1, 1, 0, 0), (1, .invokestatic 258, 3, 119, 1), (4, .ifCond .eq 6, 3, 10, 0), (7, .bipush (-2), 2, 0, 0), (9, .ireturn, 1, 0, 0), (10, .iload_n 2, 1, 0, 0), (11, .invokestatic 261, 3, 120, 1), (14, .ifCond .ne 9, 3, 23, 0), 
  (17, .iload_n 3, 1, 0, 0), (18, .bipush 12, 2, 0, 0), (20, .if_icmp .le 6, 3, 26, 0), (23, .bipush (-3), 2, 0, 0), (25, .ireturn, 1, 0, 0), (26, .iload_n 3, 1, 0, 0), (27, .ifCond .ge 6, 3, 33, 0), (30, .bipush (-16), 2, 0, 0), 
  (32, .ireturn, 1, 0, 0), (33, .aload_n 0, 1, 0, 0), (34, .getfield 68, 3, 8, 9), (37, .iload_n 1, 1, 0, 0), (38, .aaload, 1, 0, 0), (39, .iload_n 2, 1, 0, 0), (40, .iload_n 3, 1, 0, 0), (41, .invokevirtual 264, 3, 18, 2), 
  (44, .iload_n 3, 1, 0, 0), (45, .ireturn, 1, 0, 0)]
abbrev hX8_reel : xHd := (yX8_reel, cX8_reel, 4, some .int)
theorem kX8_reel : xck hX8_reel rX8_reel = true := by decide +kernel
def rX8_record : List xRow := [(0, .iload_n 1, 1, 0, 0), (1, .invokestatic 258, 3, 119, 1), (4, .ifCond .ne 23, 3, 27, 0), (7, .iload_n 2, 1, 0, 0), (8, .iconst 3, 1, 0, 0), (9, .if_icmp .ne 21, 3, 30, 0), (12, .iload 4, 2, 0, 0), (14, .iconst (-1), 1, 0, 0), 
  (15, .if_icmp .eq 15, 3, 30, 0), (18, .aload_n 0, 1, 0, 0), (19, .iload 4, 2, 0, 0), (21, .invokevirtual 118, 3, 115, 1), (24, .ifCond .eq 6, 3, 30, 0), (27, .bipush (-2), 2, 0, 0), (29, .ireturn, 1, 0, 0), (30, .iload_n 2, 1, 0, 0), 
  (31, .invokestatic 261, 3, 120, 1), (34, .ifCond .eq 6, 3, 40, 0), (37, .bipush (-3), 2, 0, 0), (39, .ireturn, 1, 0, 0), (40, .aload_n 0, 1, 0, 0), (41, .getfield 68, 3, 8, 9), (44, .iload_n 1, 1, 0, 0), (45, .aaload, 1, 0, 0), 
  (46, .iload_n 2, 1, 0, 0), (47, .iload_n 3, 1, 0, 0), (48, .invokevirtual 267, 3, 19, 2), (51, .istore 5, 2, 0, 0), (53, .iload 5, 2, 0, 0), (55, .ifCond .ge 6, 3, 61, 0), (58, .iload 5, 2, 0, 0), (60, .ireturn, 1, 0, 0), 
  (61, .aload_n 0, 1, 0, 0), (62, .getfield 68, 3, 8, 9), (65, .iload_n 1, 1, 0, 0), (66, .aaload, 1, 0, 0), (67, .iload_n 3, 1, 0, 0), (68, .iload 4, 2, 0, 0), (70, .invokevirtual 270, 3, 21, 2), (73, .ireturn, 1, 0, 0)]
abbrev hX8_record : xHd := (yX8_record, cX8_record, 6, some .int)
theorem kX8_record : xck hX8_record rX8_record = true := by decide +kernel
def rX8_play : List xRow := [(0, .iload_n 1, 1, 0, 0), (1, .invokestatic 258, 3, 119, 1), (4, .ifCond .eq 6, 3, 10, 0), (7, .bipush (-2), 2, 0, 0), (9, .ireturn, 1, 0, 0), (10, .iload_n 2, 1, 0, 0), (11, .invokestatic 261, 3, 120, 1), (14, .ifCond .eq 6, 3, 20, 0), 
  (17, .bipush (-3), 2, 0, 0), (19, .ireturn, 1, 0, 0), (20, .aload_n 0, 1, 0, 0), (21, .getfield 68, 3, 8, 9), (24, .iload_n 1, 1, 0, 0), (25, .aaload, 1, 0, 0), (26, .iload_n 2, 1, 0, 0), (27, .iload_n 3, 1, 0, 0), 
  (28, .invokevirtual 267, 3, 19, 2), (31, .istore 4, 2, 0, 0), (33, .iload 4, 2, 0, 0), (35, .ifCond .ge 6, 3, 41, 0), (38, .iload 4, 2, 0, 0), (40, .ireturn, 1, 0, 0), (41, .aload_n 0, 1, 0, 0), (42, .getfield 68, 3, 8, 9), 
  (45, .iload_n 1, 1, 0, 0), (46, .aaload, 1, 0, 0), (47, .iload_n 3, 1, 0, 0), (48, .invokevirtual 273, 3, 22, 1), (51, .ireturn, 1, 0, 0)]
abbrev hX8_play : xHd := (yX8_play, cX8_play, 5, some .int)
theorem kX8_play : xck hX8_play rX8_play = true := by decide +kernel
def rX8_splice : List xRow := [(0, .iload_n 1, 1, 0, 0), (1, .invokestatic 258, 3, 119, 1), (4, .ifCond .ne 10, 3, 14, 0), (7, .iload_n 3, 1, 0, 0), (8, .invokestatic 258, 3, 119, 1), (11, .ifCond .eq 6, 3, 17, 0), (14, .bipush (-2), 2, 0, 0), (16, .ireturn, 1, 0, 0), 
  (17, .aload_n 0, 1, 0, 0), (18, .getfield 68, 3, 8, 9), (21, .iload_n 1, 1, 0, 0), (22, .aaload, 1, 0, 0), (23, .astore 6, 2, 0, 0), (25, .aload_n 0, 1, 0, 0), (26, .getfield 68, 3, 8, 9), (29, .iload_n 3, 1, 0, 0), 
  (30, .aaload, 1, 0, 0), (31, .astore 7, 2, 0, 0), (33, .aload 6, 2, 0, 0), (35, .getfield 276, 3, 2, 1), (38, .ifCond .eq 11, 3, 49, 0), (41, .aload 7, 2, 0, 0), (43, .getfield 276, 3, 2, 1), (46, .ifCond .ne 6, 3, 52, 0), 
  (49, .bipush (-11), 2, 0, 0), (51, .ireturn, 1, 0, 0), (52, .aload 6, 2, 0, 0), (54, .getfield 280, 3, 2, 2), (57, .aload 7, 2, 0, 0), (59, .getfield 280, 3, 2, 2), (62, .if_icmp .eq 6, 3, 68, 0), (65, .bipush (-13), 2, 0, 0), 
  (67, .ireturn, 1, 0, 0), (68, .aload 6, 2, 0, 0), (70, .iload_n 2, 1, 0, 0), (71, .iload 5, 2, 0, 0), (73, .invokevirtual 283, 3, 20, 2), (76, .ifCond .eq 15, 3, 91, 0), (79, .aload 7, 2, 0, 0), (81, .iload 4, 2, 0, 0), 
  (83, .iload 5, 2, 0, 0), (85, .invokevirtual 283, 3, 20, 2), (88, .ifCond .ne 6, 3, 94, 0), (91, .bipush (-14), 2, 0, 0), (93, .ireturn, 1, 0, 0), (94, .aload 6, 2, 0, 0), (96, .getfield 287, 3, 2, 0), (99, .iload_n 2, 1, 0, 0), 
  (100, .aload 7, 2, 0, 0), (102, .getfield 287, 3, 2, 0), (105, .iload 4, 2, 0, 0), (107, .iload 5, 2, 0, 0), (109, .invokestatic 290, 3, 1000, 0), (112, .iload 5, 2, 0, 0), (114, .ireturn, 1, 0, 0)]
abbrev hX8_splice : xHd := (yX8_splice, cX8_splice, 8, some .int)
theorem kX8_splice : xck hX8_splice rX8_splice = true := by decide +kernel
def rX8_drop : List xRow := [(0, .iload_n 1, 1, 0, 0), (1, .invokestatic 258, 3, 119, 1), (4, .ifCond .eq 6, 3, 10, 0), (7, .bipush (-2), 2, 0, 0), (9, .ireturn, 1, 0, 0), (10, .aload_n 0, 1, 0, 0), (11, .getfield 68, 3, 8, 9), (14, .iload_n 1, 1, 0, 0), 
  (15, .aaload, 1, 0, 0), (16, .getfield 276, 3, 2, 1), (19, .ifCond .ne 6, 3, 25, 0), (22, .bipush (-11), 2, 0, 0), (24, .ireturn, 1, 0, 0), (25, .aload_n 0, 1, 0, 0), (26, .getfield 68, 3, 8, 9), (29, .iload_n 1, 1, 0, 0), 
  (30, .aaload, 1, 0, 0), (31, .iconst 0, 1, 0, 0), (32, .putfield 276, 3, 2, 101), (35, .aload_n 0, 1, 0, 0), (36, .getfield 68, 3, 8, 9), (39, .iload_n 1, 1, 0, 0), (40, .aaload, 1, 0, 0), (41, .getfield 296, 3, 2, 3), 
  (44, .ireturn, 1, 0, 0)]
abbrev hX8_drop : xHd := (yX8_drop, cX8_drop, 2, some .int)
theorem kX8_drop : xck hX8_drop rX8_drop = true := by decide +kernel
def rX8_count : List xRow := [(0, .iload_n 1, 1, 0, 0), (1, .tableswitch 132 0 9 #[55, 63, 71, 79, 87, 95, 103, 108, 116, 124], 55, 0, 0), (56, .aload_n 0, 1, 0, 0), (57, .getfield 39, 3, 8, 4), (60, .getfield 219, 3, 7, 0), (63, .ireturn, 1, 0, 0), (64, .aload_n 0, 1, 0, 0), (65, .getfield 39, 3, 8, 4), 
  (68, .getfield 216, 3, 7, 1), (71, .ireturn, 1, 0, 0), (72, .aload_n 0, 1, 0, 0), (73, .getfield 39, 3, 8, 4), (76, .getfield 164, 3, 7, 2), (79, .ireturn, 1, 0, 0), (80, .aload_n 0, 1, 0, 0), (81, .getfield 39, 3, 8, 4), 
  (84, .getfield 183, 3, 7, 3), (87, .ireturn, 1, 0, 0), (88, .aload_n 0, 1, 0, 0), (89, .getfield 39, 3, 8, 4), (92, .invokevirtual 297, 3, 64, 0), (95, .ireturn, 1, 0, 0), (96, .aload_n 0, 1, 0, 0), (97, .getfield 62, 3, 8, 8), 
  (100, .getfield 251, 3, 3, 3), (103, .ireturn, 1, 0, 0), (104, .aload_n 0, 1, 0, 0), (105, .invokevirtual 301, 3, 128, 0), (108, .ireturn, 1, 0, 0), (109, .aload_n 0, 1, 0, 0), (110, .getfield 55, 3, 8, 7), (113, .getfield 190, 3, 1, 4), 
  (116, .ireturn, 1, 0, 0), (117, .aload_n 0, 1, 0, 0), (118, .getfield 10, 3, 8, 0), (121, .getfield 81, 3, 5, 1), (124, .ireturn, 1, 0, 0), (125, .aload_n 0, 1, 0, 0), (126, .getfield 39, 3, 8, 4), (129, .invokevirtual 304, 3, 63, 0), 
  (132, .ireturn, 1, 0, 0), (133, .bipush (-3), 2, 0, 0), (135, .ireturn, 1, 0, 0)]
abbrev hX8_count : xHd := (yX8_count, cX8_count, 2, some .int)
theorem kX8_count : xck hX8_count rX8_count = true := by decide +kernel
def rX8_isNot : List xRow := [(0, .iload_n 0, 1, 0, 0), (1, .iload_n 1, 1, 0, 0), (2, .if_icmp .lt 8, 3, 10, 0), (5, .iload_n 0, 1, 0, 0), (6, .iload_n 2, 1, 0, 0), (7, .if_icmp .le 7, 3, 14, 0), (10, .iconst 1, 1, 0, 0), (11, .goto 4, 3, 15, 0), 
  (14, .iconst 0, 1, 0, 0), (15, .ireturn, 1, 0, 0)]
abbrev hX8_isNot : xHd := (yX8_isNot, cX8_isNot, 3, some .boolean)
theorem kX8_isNot : xck hX8_isNot rX8_isNot = true := by decide +kernel
def rX8_noBird : List xRow := [(0, .iload_n 1, 1, 0, 0), (1, .iconst 0, 1, 0, 0), (2, .aload_n 0, 1, 0, 0), (3, .getfield 39, 3, 8, 4), (6, .getfield 219, 3, 7, 0), (9, .iconst 1, 1, 0, 0), (10, .isub, 1, 0, 0), (11, .invokestatic 77, 3, 114, 3), 
  (14, .ireturn, 1, 0, 0)]
abbrev hX8_noBird : xHd := (yX8_noBird, cX8_noBird, 2, some .boolean)
theorem kX8_noBird : xck hX8_noBird rX8_noBird = true := by decide +kernel
def rX8_noMan : List xRow := [(0, .iload_n 1, 1, 0, 0), (1, .iconst 0, 1, 0, 0), (2, .aload_n 0, 1, 0, 0), (3, .getfield 39, 3, 8, 4), (6, .getfield 216, 3, 7, 1), (9, .iconst 1, 1, 0, 0), (10, .isub, 1, 0, 0), (11, .invokestatic 77, 3, 114, 3), 
  (14, .ireturn, 1, 0, 0)]
abbrev hX8_noMan : xHd := (yX8_noMan, cX8_noMan, 2, some .boolean)
theorem kX8_noMan : xck hX8_noMan rX8_noMan = true := by decide +kernel
def rX8_noWord : List xRow := [(0, .iload_n 0, 1, 0, 0), (1, .iconst 0, 1, 0, 0), (2, .bipush 9, 2, 0, 0), (4, .invokestatic 77, 3, 114, 3), (7, .ireturn, 1, 0, 0)]
abbrev hX8_noWord : xHd := (yX8_noWord, cX8_noWord, 1, some .boolean)
theorem kX8_noWord : xck hX8_noWord rX8_noWord = true := by decide +kernel
def rX8_noPerch : List xRow := [(0, .iload_n 0, 1, 0, 0), (1, .iconst 0, 1, 0, 0), (2, .iconst 3, 1, 0, 0), (3, .invokestatic 77, 3, 114, 3), (6, .ireturn, 1, 0, 0)]
abbrev hX8_noPerch : xHd := (yX8_noPerch, cX8_noPerch, 1, some .boolean)
theorem kX8_noPerch : xck hX8_noPerch rX8_noPerch = true := by decide +kernel
def rX8_noReel : List xRow := [(0, .iload_n 0, 1, 0, 0), (1, .iconst 0, 1, 0, 0), (2, .iconst 2, 1, 0, 0), (3, .invokestatic 77, 3, 114, 3), (6, .ireturn, 1, 0, 0)]
abbrev hX8_noReel : xHd := (yX8_noReel, cX8_noReel, 1, some .boolean)
theorem kX8_noReel : xck hX8_noReel rX8_noReel = true := by decide +kernel
def rX8_noSort : List xRow := [(0, .iload_n 0, 1, 0, 0), (1, .iconst 0, 1, 0, 0), (2, .iconst 3, 1, 0, 0), (3, .invokestatic 77, 3, 114, 3), (6, .ireturn, 1, 0, 0)]
abbrev hX8_noSort : xHd := (yX8_noSort, cX8_noSort, 1, some .boolean)
theorem kX8_noSort : xck hX8_noSort rX8_noSort = true := by decide +kernel
def rX8_foretellSpeech : List xRow := [(0, .aload_n 0, 1, 0, 0), (1, .getfield 42, 3, 8, 5), (4, .aload_n 0, 1, 0, 0), (5, .getfield 39, 3, 8, 4), (8, .invokevirtual 103, 3, 55, 1), (11, .aload_n 0, 1, 0, 0), (12, .getfield 42, 3, 8, 5), (15, .aload_n 0, 1, 0, 0), 
  (16, .getfield 48, 3, 8, 6), (19, .invokevirtual 150, 3, 70, 1), (22, .return_, 1, 0, 0)]
abbrev hX8_foretellSpeech : xHd := (yX8_foretellSpeech, cX8_foretellSpeech, 1, none)
theorem kX8_foretellSpeech : xck hX8_foretellSpeech rX8_foretellSpeech = true := by decide +kernel
def rX8_keptWords : List xRow := [(0, .aload_n 0, 1, 0, 0), (1, .getfield 42, 3, 8, 5), (4, .aload_n 0, 1, 0, 0), (5, .getfield 39, 3, 8, 4), (8, .invokevirtual 103, 3, 55, 1), (11, .aload_n 0, 1, 0, 0), (12, .getfield 42, 3, 8, 5), (15, .iload_n 1, 1, 0, 0), 
  (16, .iload_n 2, 1, 0, 0), (17, .invokevirtual 186, 3, 66, 2), (20, .iconst 0, 1, 0, 0), (21, .istore 4, 2, 0, 0), (23, .iload 4, 2, 0, 0), (25, .iload_n 3, 1, 0, 0), (26, .if_icmp .ge 20, 3, 46, 0), (29, .aload_n 0, 1, 0, 0), 
  (30, .getfield 42, 3, 8, 5), (33, .aload_n 0, 1, 0, 0), (34, .getfield 48, 3, 8, 6), (37, .invokevirtual 150, 3, 70, 1), (40, .iinc 4 1, 3, 0, 0), (43, .goto (-20), 3, 23, 0), (46, .aload_n 0, 1, 0, 0), (47, .getfield 39, 3, 8, 4), 
  (50, .getfield 141, 3, 7, 7), (53, .iload_n 1, 1, 0, 0), (54, .iaload, 1, 0, 0), (55, .aload_n 0, 1, 0, 0), (56, .getfield 42, 3, 8, 5), (59, .iload_n 2, 1, 0, 0), (60, .invokevirtual 135, 3, 62, 1), (63, .iand, 1, 0, 0), 
  (64, .invokestatic 231, 3, 223, 1), (67, .ireturn, 1, 0, 0)]
abbrev hX8_keptWords : xHd := (yX8_keptWords, cX8_keptWords, 5, some .int)
theorem kX8_keptWords : xck hX8_keptWords rX8_keptWords = true := by decide +kernel
def rX8_mostKept : List xRow := [(0, .iload_n 1, 1, 0, 0), (1, .aload_n 0, 1, 0, 0), (2, .getfield 39, 3, 8, 4), (5, .getfield 216, 3, 7, 1), (8, .if_icmp .lt 5, 3, 13, 0), (11, .iconst 0, 1, 0, 0), (12, .ireturn, 1, 0, 0), (13, .aload_n 0, 1, 0, 0), 
  (14, .iload_n 1, 1, 0, 0), (15, .iconst 1, 1, 0, 0), (16, .iadd, 1, 0, 0), (17, .iload_n 2, 1, 0, 0), (18, .invokevirtual 222, 3, 123, 2), (21, .istore_n 3, 1, 0, 0), (22, .iconst 0, 1, 0, 0), (23, .istore 4, 2, 0, 0), 
  (25, .iload 4, 2, 0, 0), (27, .aload_n 0, 1, 0, 0), (28, .getfield 39, 3, 8, 4), (31, .getfield 219, 3, 7, 0), (34, .if_icmp .ge 49, 3, 83, 0), (37, .iload_n 2, 1, 0, 0), (38, .iload 4, 2, 0, 0), (40, .ishr, 1, 0, 0), 
  (41, .iconst 1, 1, 0, 0), (42, .iand, 1, 0, 0), (43, .ifCond .ne 34, 3, 77, 0), (46, .iload_n 3, 1, 0, 0), (47, .aload_n 0, 1, 0, 0), (48, .getfield 73, 3, 8, 10), (51, .iload_n 1, 1, 0, 0), (52, .bipush 8, 2, 0, 0), 
  (54, .imul, 1, 0, 0), (55, .iload 4, 2, 0, 0), (57, .iadd, 1, 0, 0), (58, .iaload, 1, 0, 0), (59, .aload_n 0, 1, 0, 0), (60, .iload_n 1, 1, 0, 0), (61, .iconst 1, 1, 0, 0), (62, .iadd, 1, 0, 0), 
  (63, .iload_n 2, 1, 0, 0), (64, .iconst 1, 1, 0, 0), (65, .iload 4, 2, 0, 0), (67, .ishl, 1, 0, 0), (68, .ior, 1, 0, 0), (69, .invokevirtual 222, 3, 123, 2), (72, .iadd, 1, 0, 0), (73, .invokestatic 307, 3, 224, 2), 
  (76, .istore_n 3, 1, 0, 0), (77, .iinc 4 1, 3, 0, 0), (80, .goto (-55), 3, 25, 0), (83, .iload_n 3, 1, 0, 0), (84, .ireturn, 1, 0, 0)]
abbrev hX8_mostKept : xHd := (yX8_mostKept, cX8_mostKept, 5, some .int)
theorem kX8_mostKept : xck hX8_mostKept rX8_mostKept = true := by decide +kernel
def rX8_matchOf : List xRow := [(0, .iconst 0, 1, 0, 0), (1, .istore_n 2, 1, 0, 0), (2, .iconst (-1), 1, 0, 0), (3, .istore_n 3, 1, 0, 0), (4, .iconst 0, 1, 0, 0), (5, .istore 4, 2, 0, 0), (7, .iload 4, 2, 0, 0), (9, .iload_n 1, 1, 0, 0), 
  (10, .if_icmp .gt 28, 3, 38, 0), (13, .aload_n 0, 1, 0, 0), (14, .iload 4, 2, 0, 0), (16, .iload_n 2, 1, 0, 0), (17, .invokevirtual 312, 3, 125, 2), (20, .istore_n 3, 1, 0, 0), (21, .iload_n 3, 1, 0, 0), (22, .iconst (-1), 1, 0, 0), 
  (23, .if_icmp .eq 9, 3, 32, 0), (26, .iload_n 2, 1, 0, 0), (27, .iconst 1, 1, 0, 0), (28, .iload_n 3, 1, 0, 0), (29, .ishl, 1, 0, 0), (30, .ior, 1, 0, 0), (31, .istore_n 2, 1, 0, 0), (32, .iinc 4 1, 3, 0, 0), 
  (35, .goto (-28), 3, 7, 0), (38, .iload_n 3, 1, 0, 0), (39, .ireturn, 1, 0, 0)]
abbrev hX8_matchOf : xHd := (yX8_matchOf, cX8_matchOf, 5, some .int)
theorem kX8_matchOf : xck hX8_matchOf rX8_matchOf = true := by decide +kernel
def rX8_leastChoice : List xRow := [(0, .aload_n 0, 1, 0, 0), (1, .iload_n 1, 1, 0, 0), (2, .iload_n 2, 1, 0, 0), (3, .invokevirtual 222, 3, 123, 2), (6, .istore_n 3, 1, 0, 0), (7, .iconst 0, 1, 0, 0), (8, .istore 4, 2, 0, 0), (10, .iload 4, 2, 0, 0), 
  (12, .aload_n 0, 1, 0, 0), (13, .getfield 39, 3, 8, 4), (16, .getfield 219, 3, 7, 0), (19, .if_icmp .ge 51, 3, 70, 0), (22, .iload_n 2, 1, 0, 0), (23, .iload 4, 2, 0, 0), (25, .ishr, 1, 0, 0), (26, .iconst 1, 1, 0, 0), 
  (27, .iand, 1, 0, 0), (28, .ifCond .ne 36, 3, 64, 0), (31, .aload_n 0, 1, 0, 0), (32, .getfield 73, 3, 8, 10), (35, .iload_n 1, 1, 0, 0), (36, .bipush 8, 2, 0, 0), (38, .imul, 1, 0, 0), (39, .iload 4, 2, 0, 0), 
  (41, .iadd, 1, 0, 0), (42, .iaload, 1, 0, 0), (43, .aload_n 0, 1, 0, 0), (44, .iload_n 1, 1, 0, 0), (45, .iconst 1, 1, 0, 0), (46, .iadd, 1, 0, 0), (47, .iload_n 2, 1, 0, 0), (48, .iconst 1, 1, 0, 0), 
  (49, .iload 4, 2, 0, 0), (51, .ishl, 1, 0, 0), (52, .ior, 1, 0, 0), (53, .invokevirtual 222, 3, 123, 2), (56, .iadd, 1, 0, 0), (57, .iload_n 3, 1, 0, 0), (58, .if_icmp .ne 6, 3, 64, 0), (61, .iload 4, 2, 0, 0), 
  (63, .ireturn, 1, 0, 0), (64, .iinc 4 1, 3, 0, 0), (67, .goto (-57), 3, 10, 0), (70, .iconst (-1), 1, 0, 0), (71, .ireturn, 1, 0, 0)]
abbrev hX8_leastChoice : xHd := (yX8_leastChoice, cX8_leastChoice, 5, some .int)
theorem kX8_leastChoice : xck hX8_leastChoice rX8_leastChoice = true := by decide +kernel
def rX8_staysClean : List xRow := [(0, .aload_n 0, 1, 0, 0), (1, .getfield 42, 3, 8, 5), (4, .aload_n 0, 1, 0, 0), (5, .getfield 39, 3, 8, 4), (8, .invokevirtual 103, 3, 55, 1), (11, .aload_n 0, 1, 0, 0), (12, .getfield 42, 3, 8, 5), (15, .dup, 1, 0, 0), 
  (16, .getfield 183, 3, 7, 3), (19, .iload 4, 2, 0, 0), (21, .ior, 1, 0, 0), (22, .putfield 183, 3, 7, 3), (25, .iconst 0, 1, 0, 0), (26, .istore 5, 2, 0, 0), (28, .iload 5, 2, 0, 0), (30, .iload_n 3, 1, 0, 0), 
  (31, .if_icmp .ge 20, 3, 51, 0), (34, .aload_n 0, 1, 0, 0), (35, .getfield 42, 3, 8, 5), (38, .aload_n 0, 1, 0, 0), (39, .getfield 48, 3, 8, 6), (42, .invokevirtual 150, 3, 70, 1), (45, .iinc 5 1, 3, 0, 0), (48, .goto (-20), 3, 28, 0), 
  (51, .aload_n 0, 1, 0, 0), (52, .getfield 42, 3, 8, 5), (55, .iload_n 1, 1, 0, 0), (56, .iload_n 2, 1, 0, 0), (57, .invokevirtual 154, 3, 60, 2), (60, .iconst 5, 1, 0, 0), (61, .if_icmp .ge 7, 3, 68, 0), (64, .iconst 1, 1, 0, 0), 
  (65, .goto 4, 3, 69, 0), (68, .iconst 0, 1, 0, 0), (69, .ireturn, 1, 0, 0)]
abbrev hX8_staysClean : xHd := (yX8_staysClean, cX8_staysClean, 6, some .boolean)
theorem kX8_staysClean : xck hX8_staysClean rX8_staysClean = true := by decide +kernel
def rX8_commonDivisor : List xRow := [(0, .iload_n 0, 1, 0, 0), (1, .istore_n 2, 1, 0, 0), (2, .iload_n 1, 1, 0, 0), (3, .istore_n 3, 1, 0, 0), (4, .iconst 0, 1, 0, 0), (5, .istore 4, 2, 0, 0), (7, .iload 4, 2, 0, 0), (9, .bipush 100, 2, 0, 0), 
  (11, .if_icmp .ge 23, 3, 34, 0), (14, .iload_n 3, 1, 0, 0), (15, .ifCond .le 19, 3, 34, 0), (18, .iload_n 2, 1, 0, 0), (19, .iload_n 3, 1, 0, 0), (20, .irem, 1, 0, 0), (21, .istore 5, 2, 0, 0), (23, .iload_n 3, 1, 0, 0), 
  (24, .istore_n 2, 1, 0, 0), (25, .iload 5, 2, 0, 0), (27, .istore_n 3, 1, 0, 0), (28, .iinc 4 1, 3, 0, 0), (31, .goto (-24), 3, 7, 0), (34, .iload_n 2, 1, 0, 0), (35, .iconst 1, 1, 0, 0), (36, .invokestatic 307, 3, 224, 2), 
  (39, .ireturn, 1, 0, 0)]
abbrev hX8_commonDivisor : xHd := (yX8_commonDivisor, cX8_commonDivisor, 6, some .int)
theorem kX8_commonDivisor : xck hX8_commonDivisor rX8_commonDivisor = true := by decide +kernel
def rX8_reelsThere : List xRow := [(0, .iconst 0, 1, 0, 0), (1, .istore_n 1, 1, 0, 0), (2, .iconst 0, 1, 0, 0), (3, .istore_n 2, 1, 0, 0), (4, .iload_n 2, 1, 0, 0), (5, .iconst 3, 1, 0, 0), (6, .if_icmp .ge 24, 3, 30, 0), (9, .aload_n 0, 1, 0, 0), 
  (10, .getfield 68, 3, 8, 9), (13, .iload_n 2, 1, 0, 0), (14, .aaload, 1, 0, 0), (15, .getfield 276, 3, 2, 1), (18, .ifCond .eq 6, 3, 24, 0), (21, .iinc 1 1, 3, 0, 0), (24, .iinc 2 1, 3, 0, 0), (27, .goto (-23), 3, 4, 0), 
  (30, .iload_n 1, 1, 0, 0), (31, .ireturn, 1, 0, 0)]
abbrev hX8_reelsThere : xHd := (yX8_reelsThere, cX8_reelsThere, 3, some .int)
theorem kX8_reelsThere : xck hX8_reelsThere rX8_reelsThere = true := by decide +kernel
end
section
def rX9_in : List xRow := [(0, .lload_n 0, 1, 0, 0), (1, .lload_n 2, 1, 0, 0), (2, .lcmp, 1, 0, 0), (3, .ifCond .lt 14, 3, 17, 0), (6, .lload_n 0, 1, 0, 0), (7, .lload 4, 2, 0, 0), (9, .lcmp, 1, 0, 0), (10, .ifCond .gt 7, 3, 17, 0), 
  (13, .iconst 1, 1, 0, 0), (14, .goto 4, 3, 18, 0), (17, .iconst 0, 1, 0, 0), (18, .ireturn, 1, 0, 0)]
abbrev hX9_in : xHd := (yX9_in, cX9_in, 6, some .boolean)
theorem kX9_in : xck hX9_in rX9_in = true := by decide +kernel
def rX9_has : List xRow := [(0, .iload_n 0, 1, 0, 0), (1, .iload_n 1, 1, 0, 0), (2, .ishr, 1, 0, 0), (3, .iconst 1, 1, 0, 0), (4, .iand, 1, 0, 0), (5, .iconst 1, 1, 0, 0), (6, .if_icmp .ne 7, 3, 13, 0), (9, .iconst 1, 1, 0, 0), 
  (10, .goto 4, 3, 14, 0), (13, .iconst 0, 1, 0, 0), (14, .ireturn, 1, 0, 0)]
abbrev hX9_has : xHd := (yX9_has, cX9_has, 2, some .boolean)
theorem kX9_has : xck hX9_has rX9_has = true := by decide +kernel
def rX9_bits : List xRow := [(0, .iconst 0, 1, 0, 0), (1, .istore_n 1, 1, 0, 0), (2, .iconst 0, 1, 0, 0), (3, .istore_n 2, 1, 0, 0), (4, .iload_n 2, 1, 0, 0), (5, .bipush 10, 2, 0, 0), (7, .if_icmp .ge 17, 3, 24, 0), (10, .iload_n 1, 1, 0, 0), 
  (11, .iload_n 0, 1, 0, 0), (12, .iload_n 2, 1, 0, 0), (13, .ishr, 1, 0, 0), (14, .iconst 1, 1, 0, 0), (15, .iand, 1, 0, 0), (16, .iadd, 1, 0, 0), (17, .istore_n 1, 1, 0, 0), (18, .iinc 2 1, 3, 0, 0), 
  (21, .goto (-17), 3, 4, 0), (24, .iload_n 1, 1, 0, 0), (25, .ireturn, 1, 0, 0)]
abbrev hX9_bits : xHd := (yX9_bits, cX9_bits, 3, some .int)
theorem kX9_bits : xck hX9_bits rX9_bits = true := by decide +kernel
def rX9_write : List xRow := [(0, .iload_n 1, 1, 0, 0), (1, .i2l, 1, 0, 0), (2, .lconst 0, 1, 0, 0), (3, .ldc2_w 107, 3, 255, 0), (6, .invokestatic 109, 3, 130, 3), (9, .ifCond .ne 6, 3, 15, 0), (12, .bipush (-3), 2, 0, 0), (14, .ireturn, 1, 0, 0), 
  (15, .aload_n 0, 1, 0, 0), (16, .getfield 113, 3, 9, 4), (19, .sipush 200, 3, 0, 0), (22, .if_icmp .ne 6, 3, 28, 0), (25, .bipush (-5), 2, 0, 0), (27, .ireturn, 1, 0, 0), (28, .aload_n 0, 1, 0, 0), (29, .getfield 17, 3, 9, 3), 
  (32, .aload_n 0, 1, 0, 0), (33, .getfield 113, 3, 9, 4), (36, .iload_n 1, 1, 0, 0), (37, .iastore, 1, 0, 0), (38, .aload_n 0, 1, 0, 0), (39, .dup, 1, 0, 0), (40, .getfield 113, 3, 9, 4), (43, .iconst 1, 1, 0, 0), 
  (44, .iadd, 1, 0, 0), (45, .putfield 113, 3, 9, 4), (48, .aload_n 0, 1, 0, 0), (49, .getfield 113, 3, 9, 4), (52, .ireturn, 1, 0, 0)]
abbrev hX9_write : xHd := (yX9_write, cX9_write, 2, some .int)
theorem kX9_write : xck hX9_write rX9_write = true := by decide +kernel
def rX9_erase : List xRow := [(0, .aload_n 0, 1, 0, 0), (1, .getfield 113, 3, 9, 4), (4, .istore_n 1, 1, 0, 0), (5, .aload_n 0, 1, 0, 0), (6, .iconst 0, 1, 0, 0), (7, .putfield 113, 3, 9, 4), (10, .iload_n 1, 1, 0, 0), (11, .ireturn, 1, 0, 0)]
abbrev hX9_erase : xHd := (yX9_erase, cX9_erase, 2, some .int)
theorem kX9_erase : xck hX9_erase rX9_erase = true := by decide +kernel
def rX9_isLetter : List xRow := [(0, .iload_n 0, 1, 0, 0), (1, .i2l, 1, 0, 0), (2, .ldc2_w 117, 3, 97, 0), (5, .ldc2_w 119, 3, 122, 0), (8, .invokestatic 109, 3, 130, 3), (11, .ireturn, 1, 0, 0)]
abbrev hX9_isLetter : xHd := (yX9_isLetter, cX9_isLetter, 1, some .boolean)
theorem kX9_isLetter : xck hX9_isLetter rX9_isLetter = true := by decide +kernel
def rX9_isDigit : List xRow := [(0, .iload_n 0, 1, 0, 0), (1, .i2l, 1, 0, 0), (2, .ldc2_w 121, 3, 48, 0), (5, .ldc2_w 123, 3, 57, 0), (8, .invokestatic 109, 3, 130, 3), (11, .ireturn, 1, 0, 0)]
abbrev hX9_isDigit : xHd := (yX9_isDigit, cX9_isDigit, 1, some .boolean)
theorem kX9_isDigit : xck hX9_isDigit rX9_isDigit = true := by decide +kernel
def rX9_nextToken : List xRow := [(0, .aload_n 0, 1, 0, 0), (1, .aload_n 0, 1, 0, 0), (2, .getfield 125, 3, 9, 17), (5, .putfield 128, 3, 9, 16), (8, .aload_n 0, 1, 0, 0), (9, .getfield 128, 3, 9, 16), (12, .aload_n 0, 1, 0, 0), (13, .getfield 113, 3, 9, 4), 
  (16, .if_icmp .ge 30, 3, 46, 0), (19, .aload_n 0, 1, 0, 0), (20, .getfield 17, 3, 9, 3), (23, .aload_n 0, 1, 0, 0), (24, .getfield 128, 3, 9, 16), (27, .iaload, 1, 0, 0), (28, .bipush 32, 2, 0, 0), (30, .if_icmp .ne 16, 3, 46, 0), 
  (33, .aload_n 0, 1, 0, 0), (34, .dup, 1, 0, 0), (35, .getfield 128, 3, 9, 16), (38, .iconst 1, 1, 0, 0), (39, .iadd, 1, 0, 0), (40, .putfield 128, 3, 9, 16), (43, .goto (-35), 3, 8, 0), (46, .aload_n 0, 1, 0, 0), 
  (47, .aload_n 0, 1, 0, 0), (48, .getfield 128, 3, 9, 16), (51, .aload_n 0, 1, 0, 0), (52, .getfield 113, 3, 9, 4), (55, .if_icmp .ge 12, 3, 67, 0), (58, .aload_n 0, 1, 0, 0), (59, .getfield 128, 3, 9, 16), (62, .iconst 1, 1, 0, 0), 
  (63, .iadd, 1, 0, 0), (64, .goto 7, 3, 71, 0), (67, .aload_n 0, 1, 0, 0), (68, .getfield 128, 3, 9, 16), (71, .putfield 125, 3, 9, 17), (74, .aload_n 0, 1, 0, 0), (75, .getfield 128, 3, 9, 16), (78, .aload_n 0, 1, 0, 0), 
  (79, .getfield 113, 3, 9, 4), (82, .if_icmp .ge 57, 3, 139, 0), (85, .aload_n 0, 1, 0, 0), (86, .getfield 17, 3, 9, 3), (89, .aload_n 0, 1, 0, 0), (90, .getfield 128, 3, 9, 16), (93, .iaload, 1, 0, 0), (94, .invokestatic 131, 3, 135, 1), 
  (97, .ifCond .eq 42, 3, 139, 0), (100, .aload_n 0, 1, 0, 0), (101, .getfield 125, 3, 9, 17), (104, .aload_n 0, 1, 0, 0), (105, .getfield 113, 3, 9, 4), (108, .if_icmp .ge 96, 3, 204, 0), (111, .aload_n 0, 1, 0, 0), (112, .getfield 17, 3, 9, 3), 
  (115, .aload_n 0, 1, 0, 0), (116, .getfield 125, 3, 9, 17), (119, .iaload, 1, 0, 0), (120, .invokestatic 131, 3, 135, 1), (123, .ifCond .eq 81, 3, 204, 0), (126, .aload_n 0, 1, 0, 0), (127, .dup, 1, 0, 0), (128, .getfield 125, 3, 9, 17), 
  (131, .iconst 1, 1, 0, 0), (132, .iadd, 1, 0, 0), (133, .putfield 125, 3, 9, 17), (136, .goto (-36), 3, 100, 0), (139, .aload_n 0, 1, 0, 0), (140, .getfield 128, 3, 9, 16), (143, .aload_n 0, 1, 0, 0), (144, .getfield 113, 3, 9, 4), 
  (147, .if_icmp .ge 57, 3, 204, 0), (150, .aload_n 0, 1, 0, 0), (151, .getfield 17, 3, 9, 3), (154, .aload_n 0, 1, 0, 0), (155, .getfield 128, 3, 9, 16), (158, .iaload, 1, 0, 0), (159, .invokestatic 135, 3, 136, 1), (162, .ifCond .eq 42, 3, 204, 0), 
  (165, .aload_n 0, 1, 0, 0), (166, .getfield 125, 3, 9, 17), (169, .aload_n 0, 1, 0, 0), (170, .getfield 113, 3, 9, 4), (173, .if_icmp .ge 31, 3, 204, 0), (176, .aload_n 0, 1, 0, 0), (177, .getfield 17, 3, 9, 3), (180, .aload_n 0, 1, 0, 0), 
  (181, .getfield 125, 3, 9, 17), (184, .iaload, 1, 0, 0), (185, .invokestatic 135, 3, 136, 1), (188, .ifCond .eq 16, 3, 204, 0), (191, .aload_n 0, 1, 0, 0), (192, .dup, 1, 0, 0), (193, .getfield 125, 3, 9, 17), (196, .iconst 1, 1, 0, 0), 
  (197, .iadd, 1, 0, 0), (198, .putfield 125, 3, 9, 17), (201, .goto (-36), 3, 165, 0), (204, .return_, 1, 0, 0)]
abbrev hX9_nextToken : xHd := (yX9_nextToken, cX9_nextToken, 1, none)
theorem kX9_nextToken : xck hX9_nextToken rX9_nextToken = true := by decide +kernel
def rX9_isWord : List xRow := [(0, .aload_n 0, 1, 0, 0), (1, .getfield 125, 3, 9, 17), (4, .aload_n 0, 1, 0, 0), (5, .getfield 128, 3, 9, 16), (8, .isub, 1, 0, 0), (9, .aload_n 1, 1, 0, 0), (10, .arraylength, 1, 0, 0), (11, .if_icmp .ne 7, 3, 18, 0), 
  (14, .iconst 1, 1, 0, 0), (15, .goto 4, 3, 19, 0), (18, .iconst 0, 1, 0, 0), (19, .istore_n 2, 1, 0, 0), (20, .iconst 0, 1, 0, 0), (21, .istore_n 3, 1, 0, 0), (22, .iload_n 3, 1, 0, 0), (23, .aload_n 1, 1, 0, 0), 
  (24, .arraylength, 1, 0, 0), (25, .if_icmp .ge 36, 3, 61, 0), (28, .iload_n 2, 1, 0, 0), (29, .ifCond .eq 32, 3, 61, 0), (32, .aload_n 0, 1, 0, 0), (33, .getfield 17, 3, 9, 3), (36, .aload_n 0, 1, 0, 0), (37, .getfield 128, 3, 9, 16), 
  (40, .iload_n 3, 1, 0, 0), (41, .iadd, 1, 0, 0), (42, .iaload, 1, 0, 0), (43, .aload_n 1, 1, 0, 0), (44, .iload_n 3, 1, 0, 0), (45, .iaload, 1, 0, 0), (46, .if_icmp .ne 7, 3, 53, 0), (49, .iconst 1, 1, 0, 0), 
  (50, .goto 4, 3, 54, 0), (53, .iconst 0, 1, 0, 0), (54, .istore_n 2, 1, 0, 0), (55, .iinc 3 1, 3, 0, 0), (58, .goto (-36), 3, 22, 0), (61, .iload_n 2, 1, 0, 0), (62, .ireturn, 1, 0, 0)]
abbrev hX9_isWord : xHd := (yX9_isWord, cX9_isWord, 4, some .boolean)
theorem kX9_isWord : xck hX9_isWord rX9_isWord = true := by decide +kernel
def rX9_numberHere : List xRow := [(0, .aload_n 0, 1, 0, 0), (1, .getfield 128, 3, 9, 16), (4, .aload_n 0, 1, 0, 0), (5, .getfield 113, 3, 9, 4), (8, .if_icmp .ge 51, 3, 59, 0), (11, .aload_n 0, 1, 0, 0), (12, .getfield 17, 3, 9, 3), (15, .aload_n 0, 1, 0, 0), 
  (16, .getfield 128, 3, 9, 16), (19, .iaload, 1, 0, 0), (20, .invokestatic 135, 3, 136, 1), (23, .ifCond .eq 36, 3, 59, 0), (26, .aload_n 0, 1, 0, 0), (27, .getfield 125, 3, 9, 17), (30, .aload_n 0, 1, 0, 0), (31, .getfield 128, 3, 9, 16), 
  (34, .isub, 1, 0, 0), (35, .iconst 1, 1, 0, 0), (36, .if_icmp .ne 23, 3, 59, 0), (39, .aload_n 0, 1, 0, 0), (40, .getfield 17, 3, 9, 3), (43, .aload_n 0, 1, 0, 0), (44, .getfield 128, 3, 9, 16), (47, .iaload, 1, 0, 0), 
  (48, .bipush 48, 2, 0, 0), (50, .isub, 1, 0, 0), (51, .iload_n 1, 1, 0, 0), (52, .if_icmp .ge 7, 3, 59, 0), (55, .iconst 1, 1, 0, 0), (56, .goto 4, 3, 60, 0), (59, .iconst 0, 1, 0, 0), (60, .istore_n 2, 1, 0, 0), 
  (61, .iload_n 2, 1, 0, 0), (62, .ifCond .eq 18, 3, 80, 0), (65, .aload_n 0, 1, 0, 0), (66, .getfield 17, 3, 9, 3), (69, .aload_n 0, 1, 0, 0), (70, .getfield 128, 3, 9, 16), (73, .iaload, 1, 0, 0), (74, .bipush 48, 2, 0, 0), 
  (76, .isub, 1, 0, 0), (77, .goto 4, 3, 81, 0), (80, .iconst (-1), 1, 0, 0), (81, .ireturn, 1, 0, 0)]
abbrev hX9_numberHere : xHd := (yX9_numberHere, cX9_numberHere, 3, some .int)
theorem kX9_numberHere : xck hX9_numberHere rX9_numberHere = true := by decide +kernel
def rX9_number : List xRow := [(0, .aload_n 0, 1, 0, 0), (1, .iload_n 1, 1, 0, 0), (2, .invokevirtual 138, 3, 139, 1), (5, .istore_n 2, 1, 0, 0), (6, .iload_n 2, 1, 0, 0), (7, .iconst (-1), 1, 0, 0), (8, .if_icmp .eq 7, 3, 15, 0), (11, .aload_n 0, 1, 0, 0), 
  (12, .invokevirtual 142, 3, 137, 0), (15, .iload_n 2, 1, 0, 0), (16, .ireturn, 1, 0, 0)]
abbrev hX9_number : xHd := (yX9_number, cX9_number, 3, some .int)
theorem kX9_number : xck hX9_number rX9_number = true := by decide +kernel
def rX9_words : List xRow := [(0, .iconst 0, 1, 0, 0), (1, .istore_n 2, 1, 0, 0), (2, .aload_n 0, 1, 0, 0), (3, .getfield 128, 3, 9, 16), (6, .aload_n 0, 1, 0, 0), (7, .getfield 113, 3, 9, 4), (10, .if_icmp .ge 35, 3, 45, 0), (13, .aload_n 0, 1, 0, 0), 
  (14, .getfield 17, 3, 9, 3), (17, .aload_n 0, 1, 0, 0), (18, .getfield 128, 3, 9, 16), (21, .iaload, 1, 0, 0), (22, .invokestatic 131, 3, 135, 1), (25, .ifCond .eq 20, 3, 45, 0), (28, .aload_n 0, 1, 0, 0), (29, .getfield 125, 3, 9, 17), 
  (32, .aload_n 0, 1, 0, 0), (33, .getfield 128, 3, 9, 16), (36, .isub, 1, 0, 0), (37, .iload_n 1, 1, 0, 0), (38, .if_icmp .gt 7, 3, 45, 0), (41, .iconst 1, 1, 0, 0), (42, .goto 4, 3, 46, 0), (45, .iconst 0, 1, 0, 0), 
  (46, .istore_n 3, 1, 0, 0), (47, .bipush 96, 2, 0, 0), (49, .istore 4, 2, 0, 0), (51, .aload_n 0, 1, 0, 0), (52, .getfield 128, 3, 9, 16), (55, .istore 5, 2, 0, 0), (57, .iload 5, 2, 0, 0), (59, .aload_n 0, 1, 0, 0), 
  (60, .getfield 125, 3, 9, 17), (63, .if_icmp .ge 75, 3, 138, 0), (66, .iload_n 3, 1, 0, 0), (67, .ifCond .eq 71, 3, 138, 0), (70, .aload_n 0, 1, 0, 0), (71, .getfield 17, 3, 9, 3), (74, .iload 5, 2, 0, 0), (76, .iaload, 1, 0, 0), 
  (77, .iload 4, 2, 0, 0), (79, .if_icmp .le 19, 3, 98, 0), (82, .aload_n 0, 1, 0, 0), (83, .getfield 17, 3, 9, 3), (86, .iload 5, 2, 0, 0), (88, .iaload, 1, 0, 0), (89, .bipush 107, 2, 0, 0), (91, .if_icmp .ge 7, 3, 98, 0), 
  (94, .iconst 1, 1, 0, 0), (95, .goto 4, 3, 99, 0), (98, .iconst 0, 1, 0, 0), (99, .istore_n 3, 1, 0, 0), (100, .aload_n 0, 1, 0, 0), (101, .getfield 17, 3, 9, 3), (104, .iload 5, 2, 0, 0), (106, .iaload, 1, 0, 0), 
  (107, .istore 4, 2, 0, 0), (109, .iload_n 2, 1, 0, 0), (110, .iload_n 3, 1, 0, 0), (111, .ifCond .eq 18, 3, 129, 0), (114, .iconst 1, 1, 0, 0), (115, .aload_n 0, 1, 0, 0), (116, .getfield 17, 3, 9, 3), (119, .iload 5, 2, 0, 0), 
  (121, .iaload, 1, 0, 0), (122, .bipush 97, 2, 0, 0), (124, .isub, 1, 0, 0), (125, .ishl, 1, 0, 0), (126, .goto 4, 3, 130, 0), (129, .iconst 0, 1, 0, 0), (130, .ior, 1, 0, 0), (131, .istore_n 2, 1, 0, 0), 
  (132, .iinc 5 1, 3, 0, 0), (135, .goto (-78), 3, 57, 0), (138, .iload_n 3, 1, 0, 0), (139, .ifCond .eq 7, 3, 146, 0), (142, .aload_n 0, 1, 0, 0), (143, .invokevirtual 142, 3, 137, 0), (146, .iload_n 3, 1, 0, 0), (147, .ifCond .eq 7, 3, 154, 0), 
  (150, .iload_n 2, 1, 0, 0), (151, .goto 4, 3, 155, 0), (154, .iconst 0, 1, 0, 0), (155, .ireturn, 1, 0, 0)]
abbrev hX9_words : xHd := (yX9_words, cX9_words, 6, some .int)
theorem kX9_words : xck hX9_words rX9_words = true := by decide +kernel
def rX9_kindHere : List xRow := [(0, .aload_n 0, 1, 0, 0), (1, .aload_n 0, 1, 0, 0), (2, .getfield 53, 3, 9, 24), (5, .invokevirtual 145, 3, 138, 1), (8, .ifCond .eq 7, 3, 15, 0), (11, .iconst 0, 1, 0, 0), (12, .goto 64, 3, 76, 0), (15, .aload_n 0, 1, 0, 0), 
  (16, .aload_n 0, 1, 0, 0), (17, .getfield 56, 3, 9, 25), (20, .invokevirtual 145, 3, 138, 1), (23, .ifCond .eq 7, 3, 30, 0), (26, .iconst 1, 1, 0, 0), (27, .goto 49, 3, 76, 0), (30, .aload_n 0, 1, 0, 0), (31, .aload_n 0, 1, 0, 0), 
  (32, .getfield 59, 3, 9, 26), (35, .invokevirtual 145, 3, 138, 1), (38, .ifCond .eq 7, 3, 45, 0), (41, .iconst 2, 1, 0, 0), (42, .goto 34, 3, 76, 0), (45, .aload_n 0, 1, 0, 0), (46, .aload_n 0, 1, 0, 0), (47, .getfield 62, 3, 9, 27), 
  (50, .invokevirtual 145, 3, 138, 1), (53, .ifCond .eq 7, 3, 60, 0), (56, .iconst 3, 1, 0, 0), (57, .goto 19, 3, 76, 0), (60, .aload_n 0, 1, 0, 0), (61, .aload_n 0, 1, 0, 0), (62, .getfield 65, 3, 9, 28), (65, .invokevirtual 145, 3, 138, 1), 
  (68, .ifCond .eq 7, 3, 75, 0), (71, .iconst 4, 1, 0, 0), (72, .goto 4, 3, 76, 0), (75, .iconst (-1), 1, 0, 0), (76, .ireturn, 1, 0, 0)]
abbrev hX9_kindHere : xHd := (yX9_kindHere, cX9_kindHere, 1, some .int)
theorem kX9_kindHere : xck hX9_kindHere rX9_kindHere = true := by decide +kernel
def rX9_readsBird : List xRow := [(0, .aload_n 0, 1, 0, 0), (1, .getfield 149, 3, 9, 18), (4, .bipush 8, 2, 0, 0), (6, .if_icmp .ne 5, 3, 11, 0), (9, .iconst 0, 1, 0, 0), (10, .ireturn, 1, 0, 0), (11, .aload_n 0, 1, 0, 0), (12, .invokevirtual 142, 3, 137, 0), 
  (15, .aload_n 0, 1, 0, 0), (16, .iconst 4, 1, 0, 0), (17, .invokevirtual 152, 3, 140, 1), (20, .istore_n 2, 1, 0, 0), (21, .iload_n 2, 1, 0, 0), (22, .iconst (-1), 1, 0, 0), (23, .if_icmp .ne 5, 3, 28, 0), (26, .iconst 0, 1, 0, 0), 
  (27, .ireturn, 1, 0, 0), (28, .aload_n 0, 1, 0, 0), (29, .getfield 155, 3, 9, 22), (32, .ifCond .eq 40, 3, 72, 0), (35, .aload_n 0, 1, 0, 0), (36, .getfield 7, 3, 9, 0), (39, .bipush 112, 2, 0, 0), (41, .aload_n 0, 1, 0, 0), 
  (42, .getfield 149, 3, 9, 18), (45, .iadd, 1, 0, 0), (46, .iload_n 1, 1, 0, 0), (47, .iastore, 1, 0, 0), (48, .aload_n 0, 1, 0, 0), (49, .getfield 7, 3, 9, 0), (52, .bipush 120, 2, 0, 0), (54, .aload_n 0, 1, 0, 0), 
  (55, .getfield 149, 3, 9, 18), (58, .iadd, 1, 0, 0), (59, .iload_n 2, 1, 0, 0), (60, .iastore, 1, 0, 0), (61, .aload_n 0, 1, 0, 0), (62, .getfield 7, 3, 9, 0), (65, .bipush 108, 2, 0, 0), (67, .dup2, 1, 0, 0), 
  (68, .iaload, 1, 0, 0), (69, .iconst 1, 1, 0, 0), (70, .iadd, 1, 0, 0), (71, .iastore, 1, 0, 0), (72, .aload_n 0, 1, 0, 0), (73, .dup, 1, 0, 0), (74, .getfield 149, 3, 9, 18), (77, .iconst 1, 1, 0, 0), 
  (78, .iadd, 1, 0, 0), (79, .putfield 149, 3, 9, 18), (82, .iconst 1, 1, 0, 0), (83, .ireturn, 1, 0, 0)]
abbrev hX9_readsBird : xHd := (yX9_readsBird, cX9_readsBird, 3, some .boolean)
theorem kX9_readsBird : xck hX9_readsBird rX9_readsBird = true := by decide +kernel
def rX9_readsMan : List xRow := [(0, .aload_n 0, 1, 0, 0), (1, .getfield 159, 3, 9, 19), (4, .iconst 4, 1, 0, 0), (5, .if_icmp .ne 5, 3, 10, 0), (8, .iconst 0, 1, 0, 0), (9, .ireturn, 1, 0, 0), (10, .aload_n 0, 1, 0, 0), (11, .invokevirtual 142, 3, 137, 0), 
  (14, .aload_n 0, 1, 0, 0), (15, .bipush 10, 2, 0, 0), (17, .invokevirtual 162, 3, 141, 1), (20, .istore_n 1, 1, 0, 0), (21, .iload_n 1, 1, 0, 0), (22, .ifCond .ne 5, 3, 27, 0), (25, .iconst 0, 1, 0, 0), (26, .ireturn, 1, 0, 0), 
  (27, .aload_n 0, 1, 0, 0), (28, .getfield 155, 3, 9, 22), (31, .ifCond .eq 42, 3, 73, 0), (34, .aload_n 0, 1, 0, 0), (35, .getfield 7, 3, 9, 0), (38, .sipush 208, 3, 0, 0), (41, .aload_n 0, 1, 0, 0), (42, .getfield 159, 3, 9, 19), 
  (45, .iadd, 1, 0, 0), (46, .iload_n 1, 1, 0, 0), (47, .iastore, 1, 0, 0), (48, .aload_n 0, 1, 0, 0), (49, .getfield 7, 3, 9, 0), (52, .sipush 212, 3, 0, 0), (55, .aload_n 0, 1, 0, 0), (56, .getfield 159, 3, 9, 19), 
  (59, .iadd, 1, 0, 0), (60, .iconst (-1), 1, 0, 0), (61, .iastore, 1, 0, 0), (62, .aload_n 0, 1, 0, 0), (63, .getfield 7, 3, 9, 0), (66, .bipush 109, 2, 0, 0), (68, .dup2, 1, 0, 0), (69, .iaload, 1, 0, 0), 
  (70, .iconst 1, 1, 0, 0), (71, .iadd, 1, 0, 0), (72, .iastore, 1, 0, 0), (73, .aload_n 0, 1, 0, 0), (74, .getfield 47, 3, 9, 20), (77, .aload_n 0, 1, 0, 0), (78, .getfield 159, 3, 9, 19), (81, .iconst (-1), 1, 0, 0), 
  (82, .iastore, 1, 0, 0), (83, .aload_n 0, 1, 0, 0), (84, .dup, 1, 0, 0), (85, .getfield 159, 3, 9, 19), (88, .iconst 1, 1, 0, 0), (89, .iadd, 1, 0, 0), (90, .putfield 159, 3, 9, 19), (93, .iconst 1, 1, 0, 0), 
  (94, .ireturn, 1, 0, 0)]
abbrev hX9_readsMan : xHd := (yX9_readsMan, cX9_readsMan, 2, some .boolean)
theorem kX9_readsMan : xck hX9_readsMan rX9_readsMan = true := by decide +kernel
def rX9_readsKnows : List xRow := [(0, .aload_n 0, 1, 0, 0), (1, .invokevirtual 142, 3, 137, 0), (4, .aload_n 0, 1, 0, 0), (5, .aload_n 0, 1, 0, 0), (6, .getfield 149, 3, 9, 18), (9, .invokevirtual 152, 3, 140, 1), (12, .istore_n 1, 1, 0, 0), (13, .iload_n 1, 1, 0, 0), 
  (14, .iconst (-1), 1, 0, 0), (15, .if_icmp .ne 7, 3, 22, 0), (18, .iconst 0, 1, 0, 0), (19, .goto 8, 3, 27, 0), (22, .aload_n 0, 1, 0, 0), (23, .iconst 1, 1, 0, 0), (24, .invokevirtual 162, 3, 141, 1), (27, .istore_n 2, 1, 0, 0), 
  (28, .iload_n 2, 1, 0, 0), (29, .ifCond .ne 7, 3, 36, 0), (32, .iconst (-1), 1, 0, 0), (33, .goto 9, 3, 42, 0), (36, .aload_n 0, 1, 0, 0), (37, .bipush 10, 2, 0, 0), (39, .invokevirtual 152, 3, 140, 1), (42, .istore_n 3, 1, 0, 0), 
  (43, .iload_n 3, 1, 0, 0), (44, .iconst (-1), 1, 0, 0), (45, .if_icmp .ne 5, 3, 50, 0), (48, .iconst 0, 1, 0, 0), (49, .ireturn, 1, 0, 0), (50, .iconst 0, 1, 0, 0), (51, .istore 4, 2, 0, 0), (53, .iload 4, 2, 0, 0), 
  (55, .bipush 10, 2, 0, 0), (57, .if_icmp .ge 61, 3, 118, 0), (60, .aload_n 0, 1, 0, 0), (61, .getfield 155, 3, 9, 22), (64, .ifCond .eq 54, 3, 118, 0), (67, .aload_n 0, 1, 0, 0), (68, .getfield 7, 3, 9, 0), (71, .sipush 128, 3, 0, 0), 
  (74, .bipush 10, 2, 0, 0), (76, .iload_n 1, 1, 0, 0), (77, .imul, 1, 0, 0), (78, .iadd, 1, 0, 0), (79, .iload 4, 2, 0, 0), (81, .iadd, 1, 0, 0), (82, .iload_n 2, 1, 0, 0), (83, .iload 4, 2, 0, 0), 
  (85, .invokestatic 165, 3, 131, 2), (88, .ifCond .eq 7, 3, 95, 0), (91, .iload_n 3, 1, 0, 0), (92, .goto 19, 3, 111, 0), (95, .aload_n 0, 1, 0, 0), (96, .getfield 7, 3, 9, 0), (99, .sipush 128, 3, 0, 0), (102, .bipush 10, 2, 0, 0), 
  (104, .iload_n 1, 1, 0, 0), (105, .imul, 1, 0, 0), (106, .iadd, 1, 0, 0), (107, .iload 4, 2, 0, 0), (109, .iadd, 1, 0, 0), (110, .iaload, 1, 0, 0), (111, .iastore, 1, 0, 0), (112, .iinc 4 1, 3, 0, 0), 
  (115, .goto (-62), 3, 53, 0), (118, .iconst 1, 1, 0, 0), (119, .ireturn, 1, 0, 0)]
abbrev hX9_readsKnows : xHd := (yX9_readsKnows, cX9_readsKnows, 5, some .boolean)
theorem kX9_readsKnows : xck hX9_readsKnows rX9_readsKnows = true := by decide +kernel
def rX9_readsSits : List xRow := [(0, .aload_n 0, 1, 0, 0), (1, .invokevirtual 142, 3, 137, 0), (4, .aload_n 0, 1, 0, 0), (5, .aload_n 0, 1, 0, 0), (6, .getfield 159, 3, 9, 19), (9, .invokevirtual 152, 3, 140, 1), (12, .istore_n 1, 1, 0, 0), (13, .iload_n 1, 1, 0, 0), 
  (14, .iconst (-1), 1, 0, 0), (15, .if_icmp .ne 7, 3, 22, 0), (18, .iconst (-1), 1, 0, 0), (19, .goto 11, 3, 30, 0), (22, .aload_n 0, 1, 0, 0), (23, .aload_n 0, 1, 0, 0), (24, .getfield 149, 3, 9, 18), (27, .invokevirtual 138, 3, 139, 1), 
  (30, .istore_n 2, 1, 0, 0), (31, .iload_n 2, 1, 0, 0), (32, .iconst (-1), 1, 0, 0), (33, .if_icmp .eq 7, 3, 40, 0), (36, .iconst 1, 1, 0, 0), (37, .goto 4, 3, 41, 0), (40, .iconst 0, 1, 0, 0), (41, .istore_n 3, 1, 0, 0), 
  (42, .iconst 0, 1, 0, 0), (43, .istore 4, 2, 0, 0), (45, .iload 4, 2, 0, 0), (47, .aload_n 0, 1, 0, 0), (48, .getfield 159, 3, 9, 19), (51, .if_icmp .ge 36, 3, 87, 0), (54, .iload_n 3, 1, 0, 0), (55, .ifCond .eq 32, 3, 87, 0), 
  (58, .iload 4, 2, 0, 0), (60, .iload_n 1, 1, 0, 0), (61, .if_icmp .eq 14, 3, 75, 0), (64, .aload_n 0, 1, 0, 0), (65, .getfield 47, 3, 9, 20), (68, .iload 4, 2, 0, 0), (70, .iaload, 1, 0, 0), (71, .iload_n 2, 1, 0, 0), 
  (72, .if_icmp .eq 7, 3, 79, 0), (75, .iconst 1, 1, 0, 0), (76, .goto 4, 3, 80, 0), (79, .iconst 0, 1, 0, 0), (80, .istore_n 3, 1, 0, 0), (81, .iinc 4 1, 3, 0, 0), (84, .goto (-39), 3, 45, 0), (87, .iload_n 3, 1, 0, 0), 
  (88, .ifCond .ne 5, 3, 93, 0), (91, .iconst 0, 1, 0, 0), (92, .ireturn, 1, 0, 0), (93, .aload_n 0, 1, 0, 0), (94, .invokevirtual 142, 3, 137, 0), (97, .aload_n 0, 1, 0, 0), (98, .getfield 47, 3, 9, 20), (101, .iload_n 1, 1, 0, 0), 
  (102, .iload_n 2, 1, 0, 0), (103, .iastore, 1, 0, 0), (104, .aload_n 0, 1, 0, 0), (105, .getfield 7, 3, 9, 0), (108, .sipush 212, 3, 0, 0), (111, .iload_n 1, 1, 0, 0), (112, .iadd, 1, 0, 0), (113, .aload_n 0, 1, 0, 0), 
  (114, .getfield 155, 3, 9, 22), (117, .ifCond .eq 7, 3, 124, 0), (120, .iload_n 2, 1, 0, 0), (121, .goto 13, 3, 134, 0), (124, .aload_n 0, 1, 0, 0), (125, .getfield 7, 3, 9, 0), (128, .sipush 212, 3, 0, 0), (131, .iload_n 1, 1, 0, 0), 
  (132, .iadd, 1, 0, 0), (133, .iaload, 1, 0, 0), (134, .iastore, 1, 0, 0), (135, .iconst 1, 1, 0, 0), (136, .ireturn, 1, 0, 0)]
abbrev hX9_readsSits : xHd := (yX9_readsSits, cX9_readsSits, 5, some .boolean)
theorem kX9_readsSits : xck hX9_readsSits rX9_readsSits = true := by decide +kernel
def rX9_readsCover : List xRow := [(0, .aload_n 0, 1, 0, 0), (1, .invokevirtual 142, 3, 137, 0), (4, .aload_n 0, 1, 0, 0), (5, .aload_n 0, 1, 0, 0), (6, .getfield 149, 3, 9, 18), (9, .invokevirtual 152, 3, 140, 1), (12, .istore_n 1, 1, 0, 0), (13, .aload_n 0, 1, 0, 0), 
  (14, .getfield 7, 3, 9, 0), (17, .bipush 111, 2, 0, 0), (19, .dup2, 1, 0, 0), (20, .iaload, 1, 0, 0), (21, .aload_n 0, 1, 0, 0), (22, .getfield 155, 3, 9, 22), (25, .ifCond .eq 14, 3, 39, 0), (28, .iload_n 1, 1, 0, 0), 
  (29, .iconst (-1), 1, 0, 0), (30, .if_icmp .eq 9, 3, 39, 0), (33, .iconst 1, 1, 0, 0), (34, .iload_n 1, 1, 0, 0), (35, .ishl, 1, 0, 0), (36, .goto 4, 3, 40, 0), (39, .iconst 0, 1, 0, 0), (40, .ior, 1, 0, 0), 
  (41, .iastore, 1, 0, 0), (42, .iload_n 1, 1, 0, 0), (43, .iconst (-1), 1, 0, 0), (44, .if_icmp .eq 7, 3, 51, 0), (47, .iconst 1, 1, 0, 0), (48, .goto 4, 3, 52, 0), (51, .iconst 0, 1, 0, 0), (52, .ireturn, 1, 0, 0)]
abbrev hX9_readsCover : xHd := (yX9_readsCover, cX9_readsCover, 2, some .boolean)
theorem kX9_readsCover : xck hX9_readsCover rX9_readsCover = true := by decide +kernel
def rX9_readsHarbour : List xRow := [(0, .aload_n 0, 1, 0, 0), (1, .invokevirtual 142, 3, 137, 0), (4, .aload_n 0, 1, 0, 0), (5, .iconst 0, 1, 0, 0), (6, .putfield 149, 3, 9, 18), (9, .aload_n 0, 1, 0, 0), (10, .iconst 0, 1, 0, 0), (11, .putfield 159, 3, 9, 19), 
  (14, .iconst 0, 1, 0, 0), (15, .istore_n 1, 1, 0, 0), (16, .iload_n 1, 1, 0, 0), (17, .bipush 108, 2, 0, 0), (19, .if_icmp .ge 26, 3, 45, 0), (22, .aload_n 0, 1, 0, 0), (23, .getfield 155, 3, 9, 22), (26, .ifCond .eq 19, 3, 45, 0), 
  (29, .aload_n 0, 1, 0, 0), (30, .getfield 7, 3, 9, 0), (33, .bipush 108, 2, 0, 0), (35, .iload_n 1, 1, 0, 0), (36, .iadd, 1, 0, 0), (37, .iconst 0, 1, 0, 0), (38, .iastore, 1, 0, 0), (39, .iinc 1 1, 3, 0, 0), 
  (42, .goto (-26), 3, 16, 0), (45, .iconst 1, 1, 0, 0), (46, .ireturn, 1, 0, 0)]
abbrev hX9_readsHarbour : xHd := (yX9_readsHarbour, cX9_readsHarbour, 2, some .boolean)
theorem kX9_readsHarbour : xck hX9_readsHarbour rX9_readsHarbour = true := by decide +kernel
def rX9_readsClause : List xRow := [(0, .aload_n 0, 1, 0, 0), (1, .invokevirtual 169, 3, 142, 0), (4, .iconst (-1), 1, 0, 0), (5, .if_icmp .eq 12, 3, 17, 0), (8, .aload_n 0, 1, 0, 0), (9, .aload_n 0, 1, 0, 0), (10, .invokevirtual 169, 3, 142, 0), (13, .invokevirtual 173, 3, 143, 1), 
  (16, .ireturn, 1, 0, 0), (17, .aload_n 0, 1, 0, 0), (18, .aload_n 0, 1, 0, 0), (19, .getfield 68, 3, 9, 29), (22, .invokevirtual 145, 3, 138, 1), (25, .ifCond .eq 8, 3, 33, 0), (28, .aload_n 0, 1, 0, 0), (29, .invokevirtual 176, 3, 144, 0), 
  (32, .ireturn, 1, 0, 0), (33, .aload_n 0, 1, 0, 0), (34, .aload_n 0, 1, 0, 0), (35, .getfield 50, 3, 9, 23), (38, .invokevirtual 145, 3, 138, 1), (41, .ifCond .eq 10, 3, 51, 0), (44, .aload_n 0, 1, 0, 0), (45, .invokevirtual 180, 3, 148, 0), 
  (48, .goto 62, 3, 110, 0), (51, .aload_n 0, 1, 0, 0), (52, .aload_n 0, 1, 0, 0), (53, .getfield 71, 3, 9, 30), (56, .invokevirtual 145, 3, 138, 1), (59, .ifCond .eq 10, 3, 69, 0), (62, .aload_n 0, 1, 0, 0), (63, .invokevirtual 183, 3, 145, 0), 
  (66, .goto 44, 3, 110, 0), (69, .aload_n 0, 1, 0, 0), (70, .aload_n 0, 1, 0, 0), (71, .getfield 74, 3, 9, 31), (74, .invokevirtual 145, 3, 138, 1), (77, .ifCond .eq 10, 3, 87, 0), (80, .aload_n 0, 1, 0, 0), (81, .invokevirtual 186, 3, 146, 0), 
  (84, .goto 26, 3, 110, 0), (87, .aload_n 0, 1, 0, 0), (88, .aload_n 0, 1, 0, 0), (89, .getfield 77, 3, 9, 32), (92, .invokevirtual 145, 3, 138, 1), (95, .ifCond .eq 14, 3, 109, 0), (98, .aload_n 0, 1, 0, 0), (99, .invokevirtual 189, 3, 147, 0), 
  (102, .ifCond .eq 7, 3, 109, 0), (105, .iconst 1, 1, 0, 0), (106, .goto 4, 3, 110, 0), (109, .iconst 0, 1, 0, 0), (110, .ireturn, 1, 0, 0)]
abbrev hX9_readsClause : xHd := (yX9_readsClause, cX9_readsClause, 1, some .boolean)
theorem kX9_readsClause : xck hX9_readsClause rX9_readsClause = true := by decide +kernel
def rX9_reads : List xRow := [(0, .aload_n 0, 1, 0, 0), (1, .iload_n 1, 1, 0, 0), (2, .putfield 155, 3, 9, 122), (5, .aload_n 0, 1, 0, 0), (6, .iconst 0, 1, 0, 0), (7, .putfield 125, 3, 9, 17), (10, .aload_n 0, 1, 0, 0), (11, .iconst 1, 1, 0, 0), 
  (12, .putfield 192, 3, 9, 21), (15, .aload_n 0, 1, 0, 0), (16, .aload_n 0, 1, 0, 0), (17, .getfield 7, 3, 9, 0), (20, .bipush 108, 2, 0, 0), (22, .iaload, 1, 0, 0), (23, .putfield 149, 3, 9, 18), (26, .aload_n 0, 1, 0, 0), 
  (27, .aload_n 0, 1, 0, 0), (28, .getfield 7, 3, 9, 0), (31, .bipush 109, 2, 0, 0), (33, .iaload, 1, 0, 0), (34, .putfield 159, 3, 9, 19), (37, .iconst 0, 1, 0, 0), (38, .istore_n 2, 1, 0, 0), (39, .iload_n 2, 1, 0, 0), 
  (40, .iconst 4, 1, 0, 0), (41, .if_icmp .ge 25, 3, 66, 0), (44, .aload_n 0, 1, 0, 0), (45, .getfield 47, 3, 9, 20), (48, .iload_n 2, 1, 0, 0), (49, .aload_n 0, 1, 0, 0), (50, .getfield 7, 3, 9, 0), (53, .sipush 212, 3, 0, 0), 
  (56, .iload_n 2, 1, 0, 0), (57, .iadd, 1, 0, 0), (58, .iaload, 1, 0, 0), (59, .iastore, 1, 0, 0), (60, .iinc 2 1, 3, 0, 0), (63, .goto (-24), 3, 39, 0), (66, .aload_n 0, 1, 0, 0), (67, .invokevirtual 142, 3, 137, 0), 
  (70, .aload_n 0, 1, 0, 0), (71, .invokevirtual 195, 3, 149, 0), (74, .istore_n 2, 1, 0, 0), (75, .iload_n 2, 1, 0, 0), (76, .ifCond .eq 69, 3, 145, 0), (79, .aload_n 0, 1, 0, 0), (80, .getfield 128, 3, 9, 16), (83, .aload_n 0, 1, 0, 0), 
  (84, .getfield 113, 3, 9, 4), (87, .if_icmp .ge 58, 3, 145, 0), (90, .aload_n 0, 1, 0, 0), (91, .getfield 192, 3, 9, 21), (94, .bipush 20, 2, 0, 0), (96, .if_icmp .ge 21, 3, 117, 0), (99, .aload_n 0, 1, 0, 0), (100, .getfield 17, 3, 9, 3), 
  (103, .aload_n 0, 1, 0, 0), (104, .getfield 128, 3, 9, 16), (107, .iaload, 1, 0, 0), (108, .bipush 59, 2, 0, 0), (110, .if_icmp .ne 7, 3, 117, 0), (113, .iconst 1, 1, 0, 0), (114, .goto 4, 3, 118, 0), (117, .iconst 0, 1, 0, 0), 
  (118, .istore_n 2, 1, 0, 0), (119, .iload_n 2, 1, 0, 0), (120, .ifCond .eq (-45), 3, 75, 0), (123, .aload_n 0, 1, 0, 0), (124, .invokevirtual 142, 3, 137, 0), (127, .aload_n 0, 1, 0, 0), (128, .invokevirtual 195, 3, 149, 0), (131, .istore_n 2, 1, 0, 0), 
  (132, .aload_n 0, 1, 0, 0), (133, .dup, 1, 0, 0), (134, .getfield 192, 3, 9, 21), (137, .iconst 1, 1, 0, 0), (138, .iadd, 1, 0, 0), (139, .putfield 192, 3, 9, 21), (142, .goto (-67), 3, 75, 0), (145, .iload_n 2, 1, 0, 0), 
  (146, .ireturn, 1, 0, 0)]
abbrev hX9_reads : xHd := (yX9_reads, cX9_reads, 3, some .boolean)
theorem kX9_reads : xck hX9_reads rX9_reads = true := by decide +kernel
def rX9_copyHarbour : List xRow := [(0, .iconst 0, 1, 0, 0), (1, .istore_n 3, 1, 0, 0), (2, .iload_n 3, 1, 0, 0), (3, .bipush 108, 2, 0, 0), (5, .if_icmp .ge 25, 3, 30, 0), (8, .aload_n 0, 1, 0, 0), (9, .getfield 7, 3, 9, 0), (12, .iload_n 2, 1, 0, 0), 
  (13, .iload_n 3, 1, 0, 0), (14, .iadd, 1, 0, 0), (15, .aload_n 0, 1, 0, 0), (16, .getfield 7, 3, 9, 0), (19, .iload_n 1, 1, 0, 0), (20, .iload_n 3, 1, 0, 0), (21, .iadd, 1, 0, 0), (22, .iaload, 1, 0, 0), 
  (23, .iastore, 1, 0, 0), (24, .iinc 3 1, 3, 0, 0), (27, .goto (-25), 3, 2, 0), (30, .return_, 1, 0, 0)]
abbrev hX9_copyHarbour : xHd := (yX9_copyHarbour, cX9_copyHarbour, 4, none)
theorem kX9_copyHarbour : xck hX9_copyHarbour rX9_copyHarbour = true := by decide +kernel
def rX9_harbour : List xRow := [(0, .aload_n 0, 1, 0, 0), (1, .iconst 0, 1, 0, 0), (2, .invokevirtual 198, 3, 150, 1), (5, .ifCond .ne 6, 3, 11, 0), (8, .bipush (-4), 2, 0, 0), (10, .ireturn, 1, 0, 0), (11, .aload_n 0, 1, 0, 0), (12, .iconst 1, 1, 0, 0), 
  (13, .invokevirtual 198, 3, 150, 1), (16, .pop, 1, 0, 0), (17, .aload_n 0, 1, 0, 0), (18, .iconst 0, 1, 0, 0), (19, .putfield 113, 3, 9, 4), (22, .aload_n 0, 1, 0, 0), (23, .bipush 108, 2, 0, 0), (25, .iconst 0, 1, 0, 0), 
  (26, .invokevirtual 202, 3, 151, 2), (29, .aload_n 0, 1, 0, 0), (30, .iconst 0, 1, 0, 0), (31, .putfield 206, 3, 9, 1), (34, .aload_n 0, 1, 0, 0), (35, .getfield 13, 3, 9, 2), (38, .iconst 0, 1, 0, 0), (39, .iconst 0, 1, 0, 0), 
  (40, .bastore, 1, 0, 0), (41, .aload_n 0, 1, 0, 0), (42, .getfield 13, 3, 9, 2), (45, .iconst 1, 1, 0, 0), (46, .iconst 0, 1, 0, 0), (47, .bastore, 1, 0, 0), (48, .aload_n 0, 1, 0, 0), (49, .iconst 0, 1, 0, 0), 
  (50, .putfield 209, 3, 9, 5), (53, .aload_n 0, 1, 0, 0), (54, .getfield 192, 3, 9, 21), (57, .ireturn, 1, 0, 0)]
abbrev hX9_harbour : xHd := (yX9_harbour, cX9_harbour, 1, some .int)
theorem kX9_harbour : xck hX9_harbour rX9_harbour = true := by decide +kernel
def rX9_tongueFault : List xRow := [(0, .iconst 1, 1, 0, 0), (1, .istore_n 1, 1, 0, 0), (2, .iconst 0, 1, 0, 0), (3, .istore_n 2, 1, 0, 0), (4, .iconst 0, 1, 0, 0), (5, .istore_n 3, 1, 0, 0), (6, .iconst 0, 1, 0, 0), (7, .istore 4, 2, 0, 0), 
  (9, .iload 4, 2, 0, 0), (11, .aload_n 0, 1, 0, 0), (12, .getfield 113, 3, 9, 4), (15, .if_icmp .ge 184, 3, 199, 0), (18, .aload_n 0, 1, 0, 0), (19, .getfield 17, 3, 9, 3), (22, .iload 4, 2, 0, 0), (24, .iaload, 1, 0, 0), 
  (25, .istore 5, 2, 0, 0), (27, .iload 5, 2, 0, 0), (29, .bipush 32, 2, 0, 0), (31, .if_icmp .eq 162, 3, 193, 0), (34, .iload 5, 2, 0, 0), (36, .i2l, 1, 0, 0), (37, .ldc2_w 117, 3, 97, 0), (40, .ldc2_w 212, 3, 106, 0), 
  (43, .invokestatic 109, 3, 130, 3), (46, .ifCond .ne 10, 3, 56, 0), (49, .iload 5, 2, 0, 0), (51, .bipush 46, 2, 0, 0), (53, .if_icmp .ne 7, 3, 60, 0), (56, .iconst 1, 1, 0, 0), (57, .goto 4, 3, 61, 0), (60, .iconst 0, 1, 0, 0), 
  (61, .istore 6, 2, 0, 0), (63, .iload 6, 2, 0, 0), (65, .ifCond .ne 49, 3, 114, 0), (68, .iload 5, 2, 0, 0), (70, .bipush 40, 2, 0, 0), (72, .if_icmp .ne 9, 3, 81, 0), (75, .iload_n 3, 1, 0, 0), (76, .bipush 6, 2, 0, 0), 
  (78, .if_icmp .lt 36, 3, 114, 0), (81, .iload_n 1, 1, 0, 0), (82, .ifCond .ne 36, 3, 118, 0), (85, .iload 5, 2, 0, 0), (87, .bipush 124, 2, 0, 0), (89, .if_icmp .eq 25, 3, 114, 0), (92, .iload 5, 2, 0, 0), (94, .bipush 41, 2, 0, 0), 
  (96, .if_icmp .ne 7, 3, 103, 0), (99, .iload_n 3, 1, 0, 0), (100, .ifCond .gt 14, 3, 114, 0), (103, .iload 5, 2, 0, 0), (105, .bipush 42, 2, 0, 0), (107, .if_icmp .ne 11, 3, 118, 0), (110, .iload_n 2, 1, 0, 0), (111, .ifCond .eq 7, 3, 118, 0), 
  (114, .iconst 1, 1, 0, 0), (115, .goto 4, 3, 119, 0), (118, .iconst 0, 1, 0, 0), (119, .istore 7, 2, 0, 0), (121, .iload 7, 2, 0, 0), (123, .ifCond .ne 6, 3, 129, 0), (126, .iload 4, 2, 0, 0), (128, .ireturn, 1, 0, 0), 
  (129, .iload_n 3, 1, 0, 0), (130, .iload 5, 2, 0, 0), (132, .bipush 40, 2, 0, 0), (134, .if_icmp .ne 7, 3, 141, 0), (137, .iconst 1, 1, 0, 0), (138, .goto 15, 3, 153, 0), (141, .iload 5, 2, 0, 0), (143, .bipush 41, 2, 0, 0), 
  (145, .if_icmp .ne 7, 3, 152, 0), (148, .iconst (-1), 1, 0, 0), (149, .goto 4, 3, 153, 0), (152, .iconst 0, 1, 0, 0), (153, .iadd, 1, 0, 0), (154, .istore_n 3, 1, 0, 0), (155, .iload 5, 2, 0, 0), (157, .bipush 40, 2, 0, 0), 
  (159, .if_icmp .eq 10, 3, 169, 0), (162, .iload 5, 2, 0, 0), (164, .bipush 124, 2, 0, 0), (166, .if_icmp .ne 7, 3, 173, 0), (169, .iconst 1, 1, 0, 0), (170, .goto 4, 3, 174, 0), (173, .iconst 0, 1, 0, 0), (174, .istore_n 1, 1, 0, 0), 
  (175, .iload 6, 2, 0, 0), (177, .ifCond .ne 10, 3, 187, 0), (180, .iload 5, 2, 0, 0), (182, .bipush 41, 2, 0, 0), (184, .if_icmp .ne 7, 3, 191, 0), (187, .iconst 1, 1, 0, 0), (188, .goto 4, 3, 192, 0), (191, .iconst 0, 1, 0, 0), 
  (192, .istore_n 2, 1, 0, 0), (193, .iinc 4 1, 3, 0, 0), (196, .goto (-187), 3, 9, 0), (199, .iload_n 1, 1, 0, 0), (200, .ifCond .ne 7, 3, 207, 0), (203, .iload_n 3, 1, 0, 0), (204, .ifCond .le 10, 3, 214, 0), (207, .aload_n 0, 1, 0, 0), 
  (208, .getfield 113, 3, 9, 4), (211, .goto 4, 3, 215, 0), (214, .iconst (-1), 1, 0, 0), (215, .ireturn, 1, 0, 0)]
abbrev hX9_tongueFault : xHd := (yX9_tongueFault, cX9_tongueFault, 8, some .int)
theorem kX9_tongueFault : xck hX9_tongueFault rX9_tongueFault = true := by decide +kernel
def rX9_fault : List xRow := [(0, .iload_n 1, 1, 0, 0), (1, .i2l, 1, 0, 0), (2, .lconst 0, 1, 0, 0), (3, .lconst 1, 1, 0, 0), (4, .invokestatic 109, 3, 130, 3), (7, .ifCond .ne 6, 3, 13, 0), (10, .bipush (-3), 2, 0, 0), (12, .ireturn, 1, 0, 0), 
  (13, .iload_n 1, 1, 0, 0), (14, .iconst 1, 1, 0, 0), (15, .if_icmp .ne 8, 3, 23, 0), (18, .aload_n 0, 1, 0, 0), (19, .invokevirtual 214, 3, 153, 0), (22, .ireturn, 1, 0, 0), (23, .aload_n 0, 1, 0, 0), (24, .iconst 0, 1, 0, 0), 
  (25, .invokevirtual 198, 3, 150, 1), (28, .ifCond .eq 7, 3, 35, 0), (31, .iconst (-1), 1, 0, 0), (32, .goto 7, 3, 39, 0), (35, .aload_n 0, 1, 0, 0), (36, .getfield 128, 3, 9, 16), (39, .ireturn, 1, 0, 0)]
abbrev hX9_fault : xHd := (yX9_fault, cX9_fault, 2, some .int)
theorem kX9_fault : xck hX9_fault rX9_fault = true := by decide +kernel
def rX9_layTongue : List xRow := [(0, .iconst 0, 1, 0, 0), (1, .istore_n 1, 1, 0, 0), (2, .iconst 0, 1, 0, 0), (3, .istore_n 2, 1, 0, 0), (4, .iload_n 2, 1, 0, 0), (5, .aload_n 0, 1, 0, 0), (6, .getfield 217, 3, 9, 9), (9, .if_icmp .ge 121, 3, 130, 0), 
  (12, .aload_n 0, 1, 0, 0), (13, .getfield 29, 3, 9, 10), (16, .iload_n 2, 1, 0, 0), (17, .iaload, 1, 0, 0), (18, .istore_n 3, 1, 0, 0), (19, .aload_n 0, 1, 0, 0), (20, .getfield 35, 3, 9, 12), (23, .iload_n 2, 1, 0, 0), 
  (24, .iload_n 2, 1, 0, 0), (25, .iastore, 1, 0, 0), (26, .iload_n 3, 1, 0, 0), (27, .bipush 40, 2, 0, 0), (29, .if_icmp .ne 16, 3, 45, 0), (32, .aload_n 0, 1, 0, 0), (33, .getfield 80, 3, 9, 33), (36, .iload_n 1, 1, 0, 0), 
  (37, .iload_n 2, 1, 0, 0), (38, .iastore, 1, 0, 0), (39, .iinc 1 1, 3, 0, 0), (42, .goto 82, 3, 124, 0), (45, .iload_n 3, 1, 0, 0), (46, .bipush 41, 2, 0, 0), (48, .if_icmp .ne 33, 3, 81, 0), (51, .iinc 1 (-1), 3, 0, 0), 
  (54, .aload_n 0, 1, 0, 0), (55, .getfield 35, 3, 9, 12), (58, .iload_n 2, 1, 0, 0), (59, .aload_n 0, 1, 0, 0), (60, .getfield 80, 3, 9, 33), (63, .iload_n 1, 1, 0, 0), (64, .iaload, 1, 0, 0), (65, .iastore, 1, 0, 0), 
  (66, .aload_n 0, 1, 0, 0), (67, .getfield 32, 3, 9, 11), (70, .aload_n 0, 1, 0, 0), (71, .getfield 80, 3, 9, 33), (74, .iload_n 1, 1, 0, 0), (75, .iaload, 1, 0, 0), (76, .iload_n 2, 1, 0, 0), (77, .iastore, 1, 0, 0), 
  (78, .goto 46, 3, 124, 0), (81, .iload_n 3, 1, 0, 0), (82, .bipush 124, 2, 0, 0), (84, .if_icmp .ne 20, 3, 104, 0), (87, .aload_n 0, 1, 0, 0), (88, .getfield 35, 3, 9, 12), (91, .iload_n 2, 1, 0, 0), (92, .aload_n 0, 1, 0, 0), 
  (93, .getfield 80, 3, 9, 33), (96, .iload_n 1, 1, 0, 0), (97, .iconst 1, 1, 0, 0), (98, .isub, 1, 0, 0), (99, .iaload, 1, 0, 0), (100, .iastore, 1, 0, 0), (101, .goto 23, 3, 124, 0), (104, .iload_n 3, 1, 0, 0), 
  (105, .bipush 42, 2, 0, 0), (107, .if_icmp .ne 17, 3, 124, 0), (110, .aload_n 0, 1, 0, 0), (111, .getfield 35, 3, 9, 12), (114, .iload_n 2, 1, 0, 0), (115, .aload_n 0, 1, 0, 0), (116, .getfield 35, 3, 9, 12), (119, .iload_n 2, 1, 0, 0), 
  (120, .iconst 1, 1, 0, 0), (121, .isub, 1, 0, 0), (122, .iaload, 1, 0, 0), (123, .iastore, 1, 0, 0), (124, .iinc 2 1, 3, 0, 0), (127, .goto (-123), 3, 4, 0), (130, .return_, 1, 0, 0)]
abbrev hX9_layTongue : xHd := (yX9_layTongue, cX9_layTongue, 4, none)
theorem kX9_layTongue : xck hX9_layTongue rX9_layTongue = true := by decide +kernel
def rX9_tongue : List xRow := [(0, .aload_n 0, 1, 0, 0), (1, .invokevirtual 214, 3, 153, 0), (4, .iconst (-1), 1, 0, 0), (5, .if_icmp .eq 6, 3, 11, 0), (8, .bipush (-4), 2, 0, 0), (10, .ireturn, 1, 0, 0), (11, .iconst 0, 1, 0, 0), (12, .istore_n 1, 1, 0, 0), 
  (13, .aload_n 0, 1, 0, 0), (14, .getfield 29, 3, 9, 10), (17, .iconst 0, 1, 0, 0), (18, .bipush 40, 2, 0, 0), (20, .iastore, 1, 0, 0), (21, .aload_n 0, 1, 0, 0), (22, .iconst 1, 1, 0, 0), (23, .putfield 217, 3, 9, 9), 
  (26, .iconst 0, 1, 0, 0), (27, .istore_n 2, 1, 0, 0), (28, .iload_n 2, 1, 0, 0), (29, .aload_n 0, 1, 0, 0), (30, .getfield 113, 3, 9, 4), (33, .if_icmp .ge 83, 3, 116, 0), (36, .aload_n 0, 1, 0, 0), (37, .getfield 17, 3, 9, 3), 
  (40, .iload_n 2, 1, 0, 0), (41, .iaload, 1, 0, 0), (42, .bipush 32, 2, 0, 0), (44, .if_icmp .eq 66, 3, 110, 0), (47, .aload_n 0, 1, 0, 0), (48, .getfield 29, 3, 9, 10), (51, .aload_n 0, 1, 0, 0), (52, .getfield 217, 3, 9, 9), 
  (55, .aload_n 0, 1, 0, 0), (56, .getfield 17, 3, 9, 3), (59, .iload_n 2, 1, 0, 0), (60, .iaload, 1, 0, 0), (61, .iastore, 1, 0, 0), (62, .aload_n 0, 1, 0, 0), (63, .dup, 1, 0, 0), (64, .getfield 217, 3, 9, 9), 
  (67, .iconst 1, 1, 0, 0), (68, .iadd, 1, 0, 0), (69, .putfield 217, 3, 9, 9), (72, .iload_n 1, 1, 0, 0), (73, .aload_n 0, 1, 0, 0), (74, .getfield 17, 3, 9, 3), (77, .iload_n 2, 1, 0, 0), (78, .iaload, 1, 0, 0), 
  (79, .i2l, 1, 0, 0), (80, .ldc2_w 117, 3, 97, 0), (83, .ldc2_w 212, 3, 106, 0), (86, .invokestatic 109, 3, 130, 3), (89, .ifCond .ne 14, 3, 103, 0), (92, .aload_n 0, 1, 0, 0), (93, .getfield 17, 3, 9, 3), (96, .iload_n 2, 1, 0, 0), 
  (97, .iaload, 1, 0, 0), (98, .bipush 46, 2, 0, 0), (100, .if_icmp .ne 7, 3, 107, 0), (103, .iconst 1, 1, 0, 0), (104, .goto 4, 3, 108, 0), (107, .iconst 0, 1, 0, 0), (108, .iadd, 1, 0, 0), (109, .istore_n 1, 1, 0, 0), 
  (110, .iinc 2 1, 3, 0, 0), (113, .goto (-85), 3, 28, 0), (116, .aload_n 0, 1, 0, 0), (117, .getfield 29, 3, 9, 10), (120, .aload_n 0, 1, 0, 0), (121, .getfield 217, 3, 9, 9), (124, .bipush 41, 2, 0, 0), (126, .iastore, 1, 0, 0), 
  (127, .aload_n 0, 1, 0, 0), (128, .dup, 1, 0, 0), (129, .getfield 217, 3, 9, 9), (132, .iconst 1, 1, 0, 0), (133, .iadd, 1, 0, 0), (134, .putfield 217, 3, 9, 9), (137, .aload_n 0, 1, 0, 0), (138, .invokevirtual 220, 3, 155, 0), 
  (141, .aload_n 0, 1, 0, 0), (142, .iconst 0, 1, 0, 0), (143, .putfield 113, 3, 9, 4), (146, .iload_n 1, 1, 0, 0), (147, .ireturn, 1, 0, 0)]
abbrev hX9_tongue : xHd := (yX9_tongue, cX9_tongue, 3, some .int)
theorem kX9_tongue : xck hX9_tongue rX9_tongue = true := by decide +kernel
def rX9_mark : List xRow := [(0, .aload_n 0, 1, 0, 0), (1, .getfield 83, 3, 9, 34), (4, .iload_n 1, 1, 0, 0), (5, .baload, 1, 0, 0), (6, .ifCond .ne 7, 3, 13, 0), (9, .iconst 1, 1, 0, 0), (10, .goto 4, 3, 14, 0), (13, .iconst 0, 1, 0, 0), 
  (14, .istore_n 2, 1, 0, 0), (15, .aload_n 0, 1, 0, 0), (16, .getfield 83, 3, 9, 34), (19, .iload_n 1, 1, 0, 0), (20, .iconst 1, 1, 0, 0), (21, .bastore, 1, 0, 0), (22, .iload_n 2, 1, 0, 0), (23, .ireturn, 1, 0, 0)]
abbrev hX9_mark : xHd := (yX9_mark, cX9_mark, 3, some .boolean)
theorem kX9_mark : xck hX9_mark rX9_mark = true := by decide +kernel
def rX9_goesOn : List xRow := [(0, .aload_n 0, 1, 0, 0), (1, .getfield 29, 3, 9, 10), (4, .iload_n 1, 1, 0, 0), (5, .iaload, 1, 0, 0), (6, .istore_n 2, 1, 0, 0), (7, .iconst 0, 1, 0, 0), (8, .istore_n 3, 1, 0, 0), (9, .iload_n 2, 1, 0, 0), 
  (10, .bipush 40, 2, 0, 0), (12, .if_icmp .ne 77, 3, 89, 0), (15, .aload_n 0, 1, 0, 0), (16, .iload_n 1, 1, 0, 0), (17, .iconst 1, 1, 0, 0), (18, .iadd, 1, 0, 0), (19, .invokevirtual 223, 3, 157, 1), (22, .istore_n 3, 1, 0, 0), 
  (23, .iload_n 1, 1, 0, 0), (24, .iconst 1, 1, 0, 0), (25, .iadd, 1, 0, 0), (26, .istore 4, 2, 0, 0), (28, .iload 4, 2, 0, 0), (30, .aload_n 0, 1, 0, 0), (31, .getfield 32, 3, 9, 11), (34, .iload_n 1, 1, 0, 0), 
  (35, .iaload, 1, 0, 0), (36, .if_icmp .ge 53, 3, 89, 0), (39, .aload_n 0, 1, 0, 0), (40, .getfield 29, 3, 9, 10), (43, .iload 4, 2, 0, 0), (45, .iaload, 1, 0, 0), (46, .bipush 124, 2, 0, 0), (48, .if_icmp .ne 25, 3, 73, 0), 
  (51, .aload_n 0, 1, 0, 0), (52, .getfield 35, 3, 9, 12), (55, .iload 4, 2, 0, 0), (57, .iaload, 1, 0, 0), (58, .iload_n 1, 1, 0, 0), (59, .if_icmp .ne 14, 3, 73, 0), (62, .aload_n 0, 1, 0, 0), (63, .iload 4, 2, 0, 0), 
  (65, .iconst 1, 1, 0, 0), (66, .iadd, 1, 0, 0), (67, .invokevirtual 223, 3, 157, 1), (70, .ifCond .ne 7, 3, 77, 0), (73, .iload_n 3, 1, 0, 0), (74, .ifCond .eq 7, 3, 81, 0), (77, .iconst 1, 1, 0, 0), (78, .goto 4, 3, 82, 0), 
  (81, .iconst 0, 1, 0, 0), (82, .istore_n 3, 1, 0, 0), (83, .iinc 4 1, 3, 0, 0), (86, .goto (-58), 3, 28, 0), (89, .iload_n 2, 1, 0, 0), (90, .bipush 124, 2, 0, 0), (92, .if_icmp .ne 19, 3, 111, 0), (95, .aload_n 0, 1, 0, 0), 
  (96, .aload_n 0, 1, 0, 0), (97, .getfield 32, 3, 9, 11), (100, .aload_n 0, 1, 0, 0), (101, .getfield 35, 3, 9, 12), (104, .iload_n 1, 1, 0, 0), (105, .iaload, 1, 0, 0), (106, .iaload, 1, 0, 0), (107, .invokevirtual 223, 3, 157, 1), 
  (110, .istore_n 3, 1, 0, 0), (111, .iload_n 2, 1, 0, 0), (112, .bipush 41, 2, 0, 0), (114, .if_icmp .eq 9, 3, 123, 0), (117, .iload_n 2, 1, 0, 0), (118, .bipush 42, 2, 0, 0), (120, .if_icmp .ne 11, 3, 131, 0), (123, .aload_n 0, 1, 0, 0), 
  (124, .iload_n 1, 1, 0, 0), (125, .iconst 1, 1, 0, 0), (126, .iadd, 1, 0, 0), (127, .invokevirtual 223, 3, 157, 1), (130, .istore_n 3, 1, 0, 0), (131, .iload_n 2, 1, 0, 0), (132, .bipush 42, 2, 0, 0), (134, .if_icmp .ne 26, 3, 160, 0), 
  (137, .aload_n 0, 1, 0, 0), (138, .aload_n 0, 1, 0, 0), (139, .getfield 35, 3, 9, 12), (142, .iload_n 1, 1, 0, 0), (143, .iaload, 1, 0, 0), (144, .invokevirtual 223, 3, 157, 1), (147, .ifCond .ne 7, 3, 154, 0), (150, .iload_n 3, 1, 0, 0), 
  (151, .ifCond .eq 7, 3, 158, 0), (154, .iconst 1, 1, 0, 0), (155, .goto 4, 3, 159, 0), (158, .iconst 0, 1, 0, 0), (159, .istore_n 3, 1, 0, 0), (160, .iload_n 2, 1, 0, 0), (161, .bipush 40, 2, 0, 0), (163, .if_icmp .ne 12, 3, 175, 0), 
  (166, .aload_n 0, 1, 0, 0), (167, .getfield 32, 3, 9, 11), (170, .iload_n 1, 1, 0, 0), (171, .iaload, 1, 0, 0), (172, .goto 4, 3, 176, 0), (175, .iload_n 1, 1, 0, 0), (176, .istore 4, 2, 0, 0), (178, .iload_n 2, 1, 0, 0), 
  (179, .bipush 124, 2, 0, 0), (181, .if_icmp .eq 61, 3, 242, 0), (184, .iload_n 2, 1, 0, 0), (185, .bipush 41, 2, 0, 0), (187, .if_icmp .eq 55, 3, 242, 0), (190, .iload_n 2, 1, 0, 0), (191, .bipush 42, 2, 0, 0), (193, .if_icmp .eq 49, 3, 242, 0), 
  (196, .iload 4, 2, 0, 0), (198, .iconst 1, 1, 0, 0), (199, .iadd, 1, 0, 0), (200, .aload_n 0, 1, 0, 0), (201, .getfield 217, 3, 9, 9), (204, .if_icmp .ge 38, 3, 242, 0), (207, .aload_n 0, 1, 0, 0), (208, .getfield 29, 3, 9, 10), 
  (211, .iload 4, 2, 0, 0), (213, .iconst 1, 1, 0, 0), (214, .iadd, 1, 0, 0), (215, .iaload, 1, 0, 0), (216, .bipush 42, 2, 0, 0), (218, .if_icmp .ne 24, 3, 242, 0), (221, .aload_n 0, 1, 0, 0), (222, .iload 4, 2, 0, 0), 
  (224, .iconst 2, 1, 0, 0), (225, .iadd, 1, 0, 0), (226, .invokevirtual 223, 3, 157, 1), (229, .ifCond .ne 7, 3, 236, 0), (232, .iload_n 3, 1, 0, 0), (233, .ifCond .eq 7, 3, 240, 0), (236, .iconst 1, 1, 0, 0), (237, .goto 4, 3, 241, 0), 
  (240, .iconst 0, 1, 0, 0), (241, .istore_n 3, 1, 0, 0), (242, .iload_n 3, 1, 0, 0), (243, .ireturn, 1, 0, 0)]
abbrev hX9_goesOn : xHd := (yX9_goesOn, cX9_goesOn, 5, some .boolean)
theorem kX9_goesOn : xck hX9_goesOn rX9_goesOn = true := by decide +kernel
def rX9_goOnAll : List xRow := [(0, .iconst 1, 1, 0, 0), (1, .istore_n 1, 1, 0, 0), (2, .iload_n 1, 1, 0, 0), (3, .ifCond .eq 51, 3, 54, 0), (6, .iconst 0, 1, 0, 0), (7, .istore_n 1, 1, 0, 0), (8, .iconst 0, 1, 0, 0), (9, .istore_n 2, 1, 0, 0), 
  (10, .iload_n 2, 1, 0, 0), (11, .aload_n 0, 1, 0, 0), (12, .getfield 217, 3, 9, 9), (15, .if_icmp .ge 36, 3, 51, 0), (18, .aload_n 0, 1, 0, 0), (19, .getfield 83, 3, 9, 34), (22, .iload_n 2, 1, 0, 0), (23, .baload, 1, 0, 0), 
  (24, .ifCond .eq 11, 3, 35, 0), (27, .aload_n 0, 1, 0, 0), (28, .iload_n 2, 1, 0, 0), (29, .invokevirtual 226, 3, 158, 1), (32, .ifCond .ne 7, 3, 39, 0), (35, .iload_n 1, 1, 0, 0), (36, .ifCond .eq 7, 3, 43, 0), (39, .iconst 1, 1, 0, 0), 
  (40, .goto 4, 3, 44, 0), (43, .iconst 0, 1, 0, 0), (44, .istore_n 1, 1, 0, 0), (45, .iinc 2 1, 3, 0, 0), (48, .goto (-38), 3, 10, 0), (51, .goto (-49), 3, 2, 0), (54, .return_, 1, 0, 0)]
abbrev hX9_goOnAll : xHd := (yX9_goOnAll, cX9_goOnAll, 3, none)
theorem kX9_goOnAll : xck hX9_goOnAll rX9_goOnAll = true := by decide +kernel
def rX9_hearWord : List xRow := [(0, .iconst 0, 1, 0, 0), (1, .istore_n 2, 1, 0, 0), (2, .iload_n 2, 1, 0, 0), (3, .sipush 203, 3, 0, 0), (6, .if_icmp .ge 71, 3, 77, 0), (9, .aload_n 0, 1, 0, 0), (10, .getfield 86, 3, 9, 35), (13, .iload_n 2, 1, 0, 0), 
  (14, .iload_n 2, 1, 0, 0), (15, .ifCond .le 54, 3, 69, 0), (18, .iload_n 2, 1, 0, 0), (19, .aload_n 0, 1, 0, 0), (20, .getfield 217, 3, 9, 9), (23, .if_icmp .gt 46, 3, 69, 0), (26, .aload_n 0, 1, 0, 0), (27, .getfield 83, 3, 9, 34), 
  (30, .iload_n 2, 1, 0, 0), (31, .iconst 1, 1, 0, 0), (32, .isub, 1, 0, 0), (33, .baload, 1, 0, 0), (34, .ifCond .eq 35, 3, 69, 0), (37, .aload_n 0, 1, 0, 0), (38, .getfield 29, 3, 9, 10), (41, .iload_n 2, 1, 0, 0), 
  (42, .iconst 1, 1, 0, 0), (43, .isub, 1, 0, 0), (44, .iaload, 1, 0, 0), (45, .bipush 46, 2, 0, 0), (47, .if_icmp .eq 18, 3, 65, 0), (50, .aload_n 0, 1, 0, 0), (51, .getfield 29, 3, 9, 10), (54, .iload_n 2, 1, 0, 0), 
  (55, .iconst 1, 1, 0, 0), (56, .isub, 1, 0, 0), (57, .iaload, 1, 0, 0), (58, .bipush 97, 2, 0, 0), (60, .iload_n 1, 1, 0, 0), (61, .iadd, 1, 0, 0), (62, .if_icmp .ne 7, 3, 69, 0), (65, .iconst 1, 1, 0, 0), 
  (66, .goto 4, 3, 70, 0), (69, .iconst 0, 1, 0, 0), (70, .bastore, 1, 0, 0), (71, .iinc 2 1, 3, 0, 0), (74, .goto (-72), 3, 2, 0), (77, .iconst 0, 1, 0, 0), (78, .istore_n 2, 1, 0, 0), (79, .iload_n 2, 1, 0, 0), 
  (80, .sipush 203, 3, 0, 0), (83, .if_icmp .ge 21, 3, 104, 0), (86, .aload_n 0, 1, 0, 0), (87, .getfield 83, 3, 9, 34), (90, .iload_n 2, 1, 0, 0), (91, .aload_n 0, 1, 0, 0), (92, .getfield 86, 3, 9, 35), (95, .iload_n 2, 1, 0, 0), 
  (96, .baload, 1, 0, 0), (97, .bastore, 1, 0, 0), (98, .iinc 2 1, 3, 0, 0), (101, .goto (-22), 3, 79, 0), (104, .aload_n 0, 1, 0, 0), (105, .invokevirtual 229, 3, 159, 0), (108, .return_, 1, 0, 0)]
abbrev hX9_hearWord : xHd := (yX9_hearWord, cX9_hearWord, 3, none)
theorem kX9_hearWord : xck hX9_hearWord rX9_hearWord = true := by decide +kernel
def rX9_hears : List xRow := [(0, .iload_n 0, 1, 0, 0), (1, .iconst 3, 1, 0, 0), (2, .if_icmp .ne 7, 3, 9, 0), (5, .iconst 0, 1, 0, 0), (6, .goto 13, 3, 19, 0), (9, .iload_n 0, 1, 0, 0), (10, .iconst 4, 1, 0, 0), (11, .if_icmp .ne 7, 3, 18, 0), 
  (14, .iconst 2, 1, 0, 0), (15, .goto 4, 3, 19, 0), (18, .iconst 1, 1, 0, 0), (19, .ireturn, 1, 0, 0)]
abbrev hX9_hears : xHd := (yX9_hears, cX9_hears, 1, some .int)
theorem kX9_hears : xck hX9_hears rX9_hears = true := by decide +kernel
def rX9_gets : List xRow := [(0, .iload_n 0, 1, 0, 0), (1, .iconst 3, 1, 0, 0), (2, .if_icmp .eq 8, 3, 10, 0), (5, .iload_n 0, 1, 0, 0), (6, .iconst 4, 1, 0, 0), (7, .if_icmp .ne 7, 3, 14, 0), (10, .iconst 0, 1, 0, 0), (11, .goto 13, 3, 24, 0), 
  (14, .iload_n 0, 1, 0, 0), (15, .iconst 1, 1, 0, 0), (16, .if_icmp .ne 7, 3, 23, 0), (19, .iconst 5, 1, 0, 0), (20, .goto 4, 3, 24, 0), (23, .iconst 3, 1, 0, 0), (24, .ireturn, 1, 0, 0)]
abbrev hX9_gets : xHd := (yX9_gets, cX9_gets, 1, some .int)
theorem kX9_gets : xck hX9_gets rX9_gets = true := by decide +kernel
def rX9_says : List xRow := [(0, .iload_n 0, 1, 0, 0), (1, .iconst 3, 1, 0, 0), (2, .if_icmp .eq 8, 3, 10, 0), (5, .iload_n 0, 1, 0, 0), (6, .iconst 4, 1, 0, 0), (7, .if_icmp .ne 7, 3, 14, 0), (10, .iconst 0, 1, 0, 0), (11, .goto 13, 3, 24, 0), 
  (14, .iload_n 0, 1, 0, 0), (15, .iconst 2, 1, 0, 0), (16, .if_icmp .ne 7, 3, 23, 0), (19, .iconst 2, 1, 0, 0), (20, .goto 4, 3, 24, 0), (23, .iconst 1, 1, 0, 0), (24, .ireturn, 1, 0, 0)]
abbrev hX9_says : xHd := (yX9_says, cX9_says, 1, some .int)
theorem kX9_says : xck hX9_says rX9_says = true := by decide +kernel
def rX9_loses : List xRow := [(0, .iload_n 0, 1, 0, 0), (1, .ifCond .eq 8, 3, 9, 0), (4, .iload_n 0, 1, 0, 0), (5, .iconst 2, 1, 0, 0), (6, .if_icmp .ne 7, 3, 13, 0), (9, .iconst 1, 1, 0, 0), (10, .goto 4, 3, 14, 0), (13, .iconst 0, 1, 0, 0), 
  (14, .ireturn, 1, 0, 0)]
abbrev hX9_loses : xHd := (yX9_loses, cX9_loses, 1, some .int)
theorem kX9_loses : xck hX9_loses rX9_loses = true := by decide +kernel
def rX9_isBird : List xRow := [(0, .iload_n 1, 1, 0, 0), (1, .i2l, 1, 0, 0), (2, .lconst 0, 1, 0, 0), (3, .aload_n 0, 1, 0, 0), (4, .getfield 7, 3, 9, 0), (7, .iconst 0, 1, 0, 0), (8, .iaload, 1, 0, 0), (9, .iconst 1, 1, 0, 0), 
  (10, .isub, 1, 0, 0), (11, .i2l, 1, 0, 0), (12, .invokestatic 109, 3, 130, 3), (15, .ireturn, 1, 0, 0)]
abbrev hX9_isBird : xHd := (yX9_isBird, cX9_isBird, 2, some .boolean)
theorem kX9_isBird : xck hX9_isBird rX9_isBird = true := by decide +kernel
def rX9_isMan : List xRow := [(0, .iload_n 1, 1, 0, 0), (1, .i2l, 1, 0, 0), (2, .lconst 0, 1, 0, 0), (3, .aload_n 0, 1, 0, 0), (4, .getfield 7, 3, 9, 0), (7, .iconst 1, 1, 0, 0), (8, .iaload, 1, 0, 0), (9, .iconst 1, 1, 0, 0), 
  (10, .isub, 1, 0, 0), (11, .i2l, 1, 0, 0), (12, .invokestatic 109, 3, 130, 3), (15, .ireturn, 1, 0, 0)]
abbrev hX9_isMan : xHd := (yX9_isMan, cX9_isMan, 2, some .boolean)
theorem kX9_isMan : xck hX9_isMan rX9_isMan = true := by decide +kernel
def rX9_isWordNumber : List xRow := [(0, .iload_n 0, 1, 0, 0), (1, .i2l, 1, 0, 0), (2, .lconst 0, 1, 0, 0), (3, .ldc2_w 232, 3, 9, 0), (6, .invokestatic 109, 3, 130, 3), (9, .ireturn, 1, 0, 0)]
abbrev hX9_isWordNumber : xHd := (yX9_isWordNumber, cX9_isWordNumber, 1, some .boolean)
theorem kX9_isWordNumber : xck hX9_isWordNumber rX9_isWordNumber = true := by decide +kernel
def rX9_isOpen : List xRow := [(0, .aload_n 0, 1, 0, 0), (1, .getfield 7, 3, 9, 0), (4, .iload_n 1, 1, 0, 0), (5, .iconst 3, 1, 0, 0), (6, .iadd, 1, 0, 0), (7, .iaload, 1, 0, 0), (8, .iload_n 2, 1, 0, 0), (9, .invokestatic 165, 3, 131, 2), 
  (12, .ifCond .ne 7, 3, 19, 0), (15, .iconst 1, 1, 0, 0), (16, .goto 4, 3, 20, 0), (19, .iconst 0, 1, 0, 0), (20, .ireturn, 1, 0, 0)]
abbrev hX9_isOpen : xHd := (yX9_isOpen, cX9_isOpen, 3, some .boolean)
theorem kX9_isOpen : xck hX9_isOpen rX9_isOpen = true := by decide +kernel
def rX9_learns : List xRow := [(0, .iload_n 1, 1, 0, 0), (1, .bipush 20, 2, 0, 0), (3, .iadd, 1, 0, 0), (4, .bipush 10, 2, 0, 0), (6, .iload_n 2, 1, 0, 0), (7, .imul, 1, 0, 0), (8, .iadd, 1, 0, 0), (9, .iload_n 3, 1, 0, 0), 
  (10, .iadd, 1, 0, 0), (11, .istore 5, 2, 0, 0), (13, .aload_n 0, 1, 0, 0), (14, .getfield 7, 3, 9, 0), (17, .iload 5, 2, 0, 0), (19, .aload_n 0, 1, 0, 0), (20, .getfield 7, 3, 9, 0), (23, .iload 5, 2, 0, 0), 
  (25, .iaload, 1, 0, 0), (26, .iload 4, 2, 0, 0), (28, .iadd, 1, 0, 0), (29, .bipush 9, 2, 0, 0), (31, .if_icmp .le 8, 3, 39, 0), (34, .bipush 9, 2, 0, 0), (36, .goto 13, 3, 49, 0), (39, .aload_n 0, 1, 0, 0), 
  (40, .getfield 7, 3, 9, 0), (43, .iload 5, 2, 0, 0), (45, .iaload, 1, 0, 0), (46, .iload 4, 2, 0, 0), (48, .iadd, 1, 0, 0), (49, .iastore, 1, 0, 0), (50, .return_, 1, 0, 0)]
abbrev hX9_learns : xHd := (yX9_learns, cX9_learns, 6, none)
theorem kX9_learns : xck hX9_learns rX9_learns = true := by decide +kernel
def rX9_manOf : List xRow := [(0, .iconst (-1), 1, 0, 0), (1, .istore_n 3, 1, 0, 0), (2, .iconst 0, 1, 0, 0), (3, .istore 4, 2, 0, 0), (5, .iload 4, 2, 0, 0), (7, .aload_n 0, 1, 0, 0), (8, .getfield 7, 3, 9, 0), (11, .iload_n 1, 1, 0, 0), 
  (12, .iconst 1, 1, 0, 0), (13, .iadd, 1, 0, 0), (14, .iaload, 1, 0, 0), (15, .if_icmp .ge 32, 3, 47, 0), (18, .aload_n 0, 1, 0, 0), (19, .getfield 7, 3, 9, 0), (22, .iload_n 1, 1, 0, 0), (23, .bipush 104, 2, 0, 0), 
  (25, .iadd, 1, 0, 0), (26, .iload 4, 2, 0, 0), (28, .iadd, 1, 0, 0), (29, .iaload, 1, 0, 0), (30, .iload_n 2, 1, 0, 0), (31, .if_icmp .ne 8, 3, 39, 0), (34, .iload 4, 2, 0, 0), (36, .goto 4, 3, 40, 0), 
  (39, .iload_n 3, 1, 0, 0), (40, .istore_n 3, 1, 0, 0), (41, .iinc 4 1, 3, 0, 0), (44, .goto (-39), 3, 5, 0), (47, .iload_n 3, 1, 0, 0), (48, .ireturn, 1, 0, 0)]
abbrev hX9_manOf : xHd := (yX9_manOf, cX9_manOf, 5, some .int)
theorem kX9_manOf : xck hX9_manOf rX9_manOf = true := by decide +kernel
def rX9_wellKnown : List xRow := [(0, .iconst 0, 1, 0, 0), (1, .istore_n 3, 1, 0, 0), (2, .iconst 0, 1, 0, 0), (3, .istore 4, 2, 0, 0), (5, .iload 4, 2, 0, 0), (7, .bipush 10, 2, 0, 0), (9, .if_icmp .ge 41, 3, 50, 0), (12, .iload_n 3, 1, 0, 0), 
  (13, .aload_n 0, 1, 0, 0), (14, .getfield 7, 3, 9, 0), (17, .iload_n 1, 1, 0, 0), (18, .bipush 20, 2, 0, 0), (20, .iadd, 1, 0, 0), (21, .bipush 10, 2, 0, 0), (23, .iload_n 2, 1, 0, 0), (24, .imul, 1, 0, 0), 
  (25, .iadd, 1, 0, 0), (26, .iload 4, 2, 0, 0), (28, .iadd, 1, 0, 0), (29, .iaload, 1, 0, 0), (30, .iconst 4, 1, 0, 0), (31, .if_icmp .le 10, 3, 41, 0), (34, .iconst 1, 1, 0, 0), (35, .iload 4, 2, 0, 0), 
  (37, .ishl, 1, 0, 0), (38, .goto 4, 3, 42, 0), (41, .iconst 0, 1, 0, 0), (42, .ior, 1, 0, 0), (43, .istore_n 3, 1, 0, 0), (44, .iinc 4 1, 3, 0, 0), (47, .goto (-42), 3, 5, 0), (50, .iload_n 3, 1, 0, 0), 
  (51, .ireturn, 1, 0, 0)]
abbrev hX9_wellKnown : xHd := (yX9_wellKnown, cX9_wellKnown, 5, some .int)
theorem kX9_wellKnown : xck hX9_wellKnown rX9_wellKnown = true := by decide +kernel
def rX9_bird : List xRow := [(0, .aload_n 0, 1, 0, 0), (1, .iload_n 1, 1, 0, 0), (2, .invokevirtual 234, 3, 165, 1), (5, .ifCond .ne 6, 3, 11, 0), (8, .bipush (-2), 2, 0, 0), (10, .ireturn, 1, 0, 0), (11, .iload_n 2, 1, 0, 0), (12, .tableswitch 80 0 4 #[36, 45, 55, 66, 73], 36, 0, 0), 
  (48, .aload_n 0, 1, 0, 0), (49, .getfield 7, 3, 9, 0), (52, .iconst 4, 1, 0, 0), (53, .iload_n 1, 1, 0, 0), (54, .iadd, 1, 0, 0), (55, .iaload, 1, 0, 0), (56, .ireturn, 1, 0, 0), (57, .aload_n 0, 1, 0, 0), 
  (58, .getfield 7, 3, 9, 0), (61, .bipush 12, 2, 0, 0), (63, .iload_n 1, 1, 0, 0), (64, .iadd, 1, 0, 0), (65, .iaload, 1, 0, 0), (66, .ireturn, 1, 0, 0), (67, .aload_n 0, 1, 0, 0), (68, .getfield 7, 3, 9, 0), 
  (71, .iconst 3, 1, 0, 0), (72, .iaload, 1, 0, 0), (73, .iload_n 1, 1, 0, 0), (74, .ishr, 1, 0, 0), (75, .iconst 1, 1, 0, 0), (76, .iand, 1, 0, 0), (77, .ireturn, 1, 0, 0), (78, .aload_n 0, 1, 0, 0), 
  (79, .iconst 0, 1, 0, 0), (80, .iload_n 1, 1, 0, 0), (81, .invokevirtual 237, 3, 170, 2), (84, .ireturn, 1, 0, 0), (85, .aload_n 0, 1, 0, 0), (86, .iconst 0, 1, 0, 0), (87, .iload_n 1, 1, 0, 0), (88, .invokevirtual 241, 3, 171, 2), 
  (91, .ireturn, 1, 0, 0), (92, .bipush (-3), 2, 0, 0), (94, .ireturn, 1, 0, 0)]
abbrev hX9_bird : xHd := (yX9_bird, cX9_bird, 3, some .int)
theorem kX9_bird : xck hX9_bird rX9_bird = true := by decide +kernel
def rX9_man : List xRow := [(0, .aload_n 0, 1, 0, 0), (1, .iload_n 1, 1, 0, 0), (2, .invokevirtual 244, 3, 166, 1), (5, .ifCond .ne 6, 3, 11, 0), (8, .bipush (-2), 2, 0, 0), (10, .ireturn, 1, 0, 0), (11, .iload_n 2, 1, 0, 0), (12, .ifCond .ne 15, 3, 27, 0), 
  (15, .aload_n 0, 1, 0, 0), (16, .getfield 7, 3, 9, 0), (19, .bipush 100, 2, 0, 0), (21, .iload_n 1, 1, 0, 0), (22, .iadd, 1, 0, 0), (23, .iaload, 1, 0, 0), (24, .goto 22, 3, 46, 0), (27, .iload_n 2, 1, 0, 0), 
  (28, .iconst 1, 1, 0, 0), (29, .if_icmp .ne 15, 3, 44, 0), (32, .aload_n 0, 1, 0, 0), (33, .getfield 7, 3, 9, 0), (36, .bipush 104, 2, 0, 0), (38, .iload_n 1, 1, 0, 0), (39, .iadd, 1, 0, 0), (40, .iaload, 1, 0, 0), 
  (41, .goto 5, 3, 46, 0), (44, .bipush (-3), 2, 0, 0), (46, .ireturn, 1, 0, 0)]
abbrev hX9_man : xHd := (yX9_man, cX9_man, 3, some .int)
theorem kX9_man : xck hX9_man rX9_man = true := by decide +kernel
def rX9_as : List xRow := [(0, .aload_n 0, 1, 0, 0), (1, .iload_n 1, 1, 0, 0), (2, .invokevirtual 234, 3, 165, 1), (5, .ifCond .ne 6, 3, 11, 0), (8, .bipush (-2), 2, 0, 0), (10, .ireturn, 1, 0, 0), (11, .iload_n 2, 1, 0, 0), (12, .i2l, 1, 0, 0), 
  (13, .lconst 0, 1, 0, 0), (14, .ldc2_w 247, 3, 5, 0), (17, .invokestatic 109, 3, 130, 3), (20, .ifCond .ne 6, 3, 26, 0), (23, .bipush (-3), 2, 0, 0), (25, .ireturn, 1, 0, 0), (26, .aload_n 0, 1, 0, 0), (27, .getfield 7, 3, 9, 0), 
  (30, .iconst 4, 1, 0, 0), (31, .iload_n 1, 1, 0, 0), (32, .iadd, 1, 0, 0), (33, .iaload, 1, 0, 0), (34, .istore_n 3, 1, 0, 0), (35, .iload_n 2, 1, 0, 0), (36, .ifCond .eq 30, 3, 66, 0), (39, .iload_n 2, 1, 0, 0), 
  (40, .iload_n 3, 1, 0, 0), (41, .iconst 1, 1, 0, 0), (42, .iadd, 1, 0, 0), (43, .if_icmp .eq 23, 3, 66, 0), (46, .iload_n 2, 1, 0, 0), (47, .iconst 1, 1, 0, 0), (48, .if_icmp .ne 8, 3, 56, 0), (51, .iload_n 3, 1, 0, 0), 
  (52, .iconst 3, 1, 0, 0), (53, .if_icmp .lt 13, 3, 66, 0), (56, .iload_n 2, 1, 0, 0), (57, .iconst 4, 1, 0, 0), (58, .if_icmp .ne 12, 3, 70, 0), (61, .iload_n 3, 1, 0, 0), (62, .iconst 4, 1, 0, 0), (63, .if_icmp .ne 7, 3, 70, 0), 
  (66, .iconst 1, 1, 0, 0), (67, .goto 4, 3, 71, 0), (70, .iconst 0, 1, 0, 0), (71, .istore 4, 2, 0, 0), (73, .iload 4, 2, 0, 0), (75, .ifCond .eq 10, 3, 85, 0), (78, .iload_n 3, 1, 0, 0), (79, .invokestatic 249, 3, 162, 1), 
  (82, .goto 5, 3, 87, 0), (85, .bipush (-4), 2, 0, 0), (87, .ireturn, 1, 0, 0)]
abbrev hX9_as : xHd := (yX9_as, cX9_as, 5, some .int)
theorem kX9_as : xck hX9_as rX9_as = true := by decide +kernel
def rX9_handOver : List xRow := [(0, .iconst 0, 1, 0, 0), (1, .istore_n 2, 1, 0, 0), (2, .iload_n 2, 1, 0, 0), (3, .aload_n 0, 1, 0, 0), (4, .getfield 7, 3, 9, 0), (7, .iload_n 1, 1, 0, 0), (8, .iconst 1, 1, 0, 0), (9, .iadd, 1, 0, 0), 
  (10, .iaload, 1, 0, 0), (11, .if_icmp .ge 131, 3, 142, 0), (14, .aload_n 0, 1, 0, 0), (15, .getfield 7, 3, 9, 0), (18, .iload_n 1, 1, 0, 0), (19, .bipush 104, 2, 0, 0), (21, .iadd, 1, 0, 0), (22, .iload_n 2, 1, 0, 0), 
  (23, .iadd, 1, 0, 0), (24, .iaload, 1, 0, 0), (25, .istore_n 3, 1, 0, 0), (26, .iload_n 3, 1, 0, 0), (27, .iconst (-1), 1, 0, 0), (28, .if_icmp .eq 12, 3, 40, 0), (31, .aload_n 0, 1, 0, 0), (32, .iload_n 1, 1, 0, 0), 
  (33, .iload_n 3, 1, 0, 0), (34, .invokevirtual 252, 3, 168, 2), (37, .ifCond .ne 7, 3, 44, 0), (40, .iconst 0, 1, 0, 0), (41, .goto 16, 3, 57, 0), (44, .aload_n 0, 1, 0, 0), (45, .getfield 7, 3, 9, 0), (48, .iload_n 1, 1, 0, 0), 
  (49, .iconst 4, 1, 0, 0), (50, .iadd, 1, 0, 0), (51, .iload_n 3, 1, 0, 0), (52, .iadd, 1, 0, 0), (53, .iaload, 1, 0, 0), (54, .invokestatic 249, 3, 162, 1), (57, .istore 4, 2, 0, 0), (59, .iload 4, 2, 0, 0), 
  (61, .ifCond .le 75, 3, 136, 0), (64, .aload_n 0, 1, 0, 0), (65, .getfield 7, 3, 9, 0), (68, .iload_n 1, 1, 0, 0), (69, .bipush 100, 2, 0, 0), (71, .iadd, 1, 0, 0), (72, .iload_n 2, 1, 0, 0), (73, .iadd, 1, 0, 0), 
  (74, .iaload, 1, 0, 0), (75, .ifCond .eq 61, 3, 136, 0), (78, .iconst 0, 1, 0, 0), (79, .istore 5, 2, 0, 0), (81, .aload_n 0, 1, 0, 0), (82, .getfield 7, 3, 9, 0), (85, .iload_n 1, 1, 0, 0), (86, .bipush 100, 2, 0, 0), 
  (88, .iadd, 1, 0, 0), (89, .iload_n 2, 1, 0, 0), (90, .iadd, 1, 0, 0), (91, .iaload, 1, 0, 0), (92, .iload 5, 2, 0, 0), (94, .invokestatic 165, 3, 131, 2), (97, .ifCond .ne 9, 3, 106, 0), (100, .iinc 5 1, 3, 0, 0), 
  (103, .goto (-22), 3, 81, 0), (106, .aload_n 0, 1, 0, 0), (107, .getfield 7, 3, 9, 0), (110, .iload_n 1, 1, 0, 0), (111, .bipush 100, 2, 0, 0), (113, .iadd, 1, 0, 0), (114, .iload_n 2, 1, 0, 0), (115, .iadd, 1, 0, 0), 
  (116, .dup2, 1, 0, 0), (117, .iaload, 1, 0, 0), (118, .iconst 1, 1, 0, 0), (119, .iload 5, 2, 0, 0), (121, .ishl, 1, 0, 0), (122, .iconst (-1), 1, 0, 0), (123, .ixor, 1, 0, 0), (124, .iand, 1, 0, 0), 
  (125, .iastore, 1, 0, 0), (126, .aload_n 0, 1, 0, 0), (127, .iload_n 1, 1, 0, 0), (128, .iload_n 3, 1, 0, 0), (129, .iload 5, 2, 0, 0), (131, .iload 4, 2, 0, 0), (133, .invokevirtual 255, 3, 169, 4), (136, .iinc 2 1, 3, 0, 0), 
  (139, .goto (-137), 3, 2, 0), (142, .return_, 1, 0, 0)]
abbrev hX9_handOver : xHd := (yX9_handOver, cX9_handOver, 6, none)
theorem kX9_handOver : xck hX9_handOver rX9_handOver = true := by decide +kernel
def rX9_isSilent : List xRow := [(0, .iconst 0, 1, 0, 0), (1, .istore_n 3, 1, 0, 0), (2, .iconst 0, 1, 0, 0), (3, .istore 4, 2, 0, 0), (5, .iload 4, 2, 0, 0), (7, .aload_n 0, 1, 0, 0), (8, .getfield 7, 3, 9, 0), (11, .iload_n 1, 1, 0, 0), 
  (12, .iconst 0, 1, 0, 0), (13, .iadd, 1, 0, 0), (14, .iaload, 1, 0, 0), (15, .if_icmp .ge 60, 3, 75, 0), (18, .iload_n 3, 1, 0, 0), (19, .ifCond .ne 44, 3, 63, 0), (22, .aload_n 0, 1, 0, 0), (23, .getfield 7, 3, 9, 0), 
  (26, .iload_n 1, 1, 0, 0), (27, .bipush 12, 2, 0, 0), (29, .iadd, 1, 0, 0), (30, .iload 4, 2, 0, 0), (32, .iadd, 1, 0, 0), (33, .iaload, 1, 0, 0), (34, .iload_n 2, 1, 0, 0), (35, .if_icmp .ne 32, 3, 67, 0), 
  (38, .aload_n 0, 1, 0, 0), (39, .getfield 7, 3, 9, 0), (42, .iload_n 1, 1, 0, 0), (43, .iconst 4, 1, 0, 0), (44, .iadd, 1, 0, 0), (45, .iload 4, 2, 0, 0), (47, .iadd, 1, 0, 0), (48, .iaload, 1, 0, 0), 
  (49, .iconst 3, 1, 0, 0), (50, .if_icmp .ne 17, 3, 67, 0), (53, .aload_n 0, 1, 0, 0), (54, .iload_n 1, 1, 0, 0), (55, .iload 4, 2, 0, 0), (57, .invokevirtual 252, 3, 168, 2), (60, .ifCond .eq 7, 3, 67, 0), (63, .iconst 1, 1, 0, 0), 
  (64, .goto 4, 3, 68, 0), (67, .iconst 0, 1, 0, 0), (68, .istore_n 3, 1, 0, 0), (69, .iinc 4 1, 3, 0, 0), (72, .goto (-67), 3, 5, 0), (75, .iload_n 3, 1, 0, 0), (76, .ireturn, 1, 0, 0)]
abbrev hX9_isSilent : xHd := (yX9_isSilent, cX9_isSilent, 5, some .boolean)
theorem kX9_isSilent : xck hX9_isSilent rX9_isSilent = true := by decide +kernel
def rX9_bestWord : List xRow := [(0, .iconst (-1), 1, 0, 0), (1, .istore 4, 2, 0, 0), (3, .iconst 0, 1, 0, 0), (4, .istore 5, 2, 0, 0), (6, .iconst 0, 1, 0, 0), (7, .istore 6, 2, 0, 0), (9, .iload 6, 2, 0, 0), (11, .bipush 10, 2, 0, 0), 
  (13, .if_icmp .ge 73, 3, 86, 0), (16, .iload_n 3, 1, 0, 0), (17, .iload 6, 2, 0, 0), (19, .invokestatic 165, 3, 131, 2), (22, .ifCond .eq 7, 3, 29, 0), (25, .iconst 0, 1, 0, 0), (26, .goto 20, 3, 46, 0), (29, .aload_n 0, 1, 0, 0), 
  (30, .getfield 7, 3, 9, 0), (33, .iload_n 1, 1, 0, 0), (34, .bipush 20, 2, 0, 0), (36, .iadd, 1, 0, 0), (37, .bipush 10, 2, 0, 0), (39, .iload_n 2, 1, 0, 0), (40, .imul, 1, 0, 0), (41, .iadd, 1, 0, 0), 
  (42, .iload 6, 2, 0, 0), (44, .iadd, 1, 0, 0), (45, .iaload, 1, 0, 0), (46, .istore 7, 2, 0, 0), (48, .iload 7, 2, 0, 0), (50, .iload 5, 2, 0, 0), (52, .if_icmp .le 8, 3, 60, 0), (55, .iload 6, 2, 0, 0), 
  (57, .goto 5, 3, 62, 0), (60, .iload 4, 2, 0, 0), (62, .istore 4, 2, 0, 0), (64, .iload 7, 2, 0, 0), (66, .iload 5, 2, 0, 0), (68, .if_icmp .le 8, 3, 76, 0), (71, .iload 7, 2, 0, 0), (73, .goto 5, 3, 78, 0), 
  (76, .iload 5, 2, 0, 0), (78, .istore 5, 2, 0, 0), (80, .iinc 6 1, 3, 0, 0), (83, .goto (-74), 3, 9, 0), (86, .iload 4, 2, 0, 0), (88, .ireturn, 1, 0, 0)]
abbrev hX9_bestWord : xHd := (yX9_bestWord, cX9_bestWord, 8, some .int)
theorem kX9_bestWord : xck hX9_bestWord rX9_bestWord = true := by decide +kernel
def rX9_say : List xRow := [(0, .aload_n 0, 1, 0, 0), (1, .getfield 89, 3, 9, 36), (4, .bipush 16, 2, 0, 0), (6, .iload_n 2, 1, 0, 0), (7, .imul, 1, 0, 0), (8, .aload_n 0, 1, 0, 0), (9, .getfield 92, 3, 9, 37), (12, .iload_n 2, 1, 0, 0), 
  (13, .iaload, 1, 0, 0), (14, .iadd, 1, 0, 0), (15, .iload 4, 2, 0, 0), (17, .iastore, 1, 0, 0), (18, .aload_n 0, 1, 0, 0), (19, .getfield 92, 3, 9, 37), (22, .iload_n 2, 1, 0, 0), (23, .dup2, 1, 0, 0), 
  (24, .iaload, 1, 0, 0), (25, .iconst 1, 1, 0, 0), (26, .iadd, 1, 0, 0), (27, .iastore, 1, 0, 0), (28, .iconst 0, 1, 0, 0), (29, .istore 5, 2, 0, 0), (31, .iload 5, 2, 0, 0), (33, .aload_n 0, 1, 0, 0), 
  (34, .getfield 7, 3, 9, 0), (37, .iload_n 1, 1, 0, 0), (38, .iconst 0, 1, 0, 0), (39, .iadd, 1, 0, 0), (40, .iaload, 1, 0, 0), (41, .if_icmp .ge 64, 3, 105, 0), (44, .iload 5, 2, 0, 0), (46, .iload_n 3, 1, 0, 0), 
  (47, .if_icmp .eq 52, 3, 99, 0), (50, .aload_n 0, 1, 0, 0), (51, .getfield 7, 3, 9, 0), (54, .iload_n 1, 1, 0, 0), (55, .bipush 12, 2, 0, 0), (57, .iadd, 1, 0, 0), (58, .iload 5, 2, 0, 0), (60, .iadd, 1, 0, 0), 
  (61, .iaload, 1, 0, 0), (62, .iload_n 2, 1, 0, 0), (63, .if_icmp .ne 36, 3, 99, 0), (66, .aload_n 0, 1, 0, 0), (67, .iload_n 1, 1, 0, 0), (68, .iload 5, 2, 0, 0), (70, .invokevirtual 252, 3, 168, 2), (73, .ifCond .eq 26, 3, 99, 0), 
  (76, .aload_n 0, 1, 0, 0), (77, .iload_n 1, 1, 0, 0), (78, .iload 5, 2, 0, 0), (80, .iload 4, 2, 0, 0), (82, .aload_n 0, 1, 0, 0), (83, .getfield 7, 3, 9, 0), (86, .iload_n 1, 1, 0, 0), (87, .iconst 4, 1, 0, 0), 
  (88, .iadd, 1, 0, 0), (89, .iload 5, 2, 0, 0), (91, .iadd, 1, 0, 0), (92, .iaload, 1, 0, 0), (93, .invokestatic 259, 3, 161, 1), (96, .invokevirtual 255, 3, 169, 4), (99, .iinc 5 1, 3, 0, 0), (102, .goto (-71), 3, 31, 0), 
  (105, .return_, 1, 0, 0)]
abbrev hX9_say : xHd := (yX9_say, cX9_say, 6, none)
theorem kX9_say : xck hX9_say rX9_say = true := by decide +kernel
def rX9_speak : List xRow := [(0, .iconst 0, 1, 0, 0), (1, .istore_n 3, 1, 0, 0), (2, .iload_n 3, 1, 0, 0), (3, .aload_n 0, 1, 0, 0), (4, .getfield 7, 3, 9, 0), (7, .iload_n 1, 1, 0, 0), (8, .iconst 0, 1, 0, 0), (9, .iadd, 1, 0, 0), 
  (10, .iaload, 1, 0, 0), (11, .if_icmp .ge 106, 3, 117, 0), (14, .aload_n 0, 1, 0, 0), (15, .getfield 7, 3, 9, 0), (18, .iload_n 1, 1, 0, 0), (19, .bipush 12, 2, 0, 0), (21, .iadd, 1, 0, 0), (22, .iload_n 3, 1, 0, 0), 
  (23, .iadd, 1, 0, 0), (24, .iaload, 1, 0, 0), (25, .iload_n 2, 1, 0, 0), (26, .if_icmp .ne 85, 3, 111, 0), (29, .aload_n 0, 1, 0, 0), (30, .iload_n 1, 1, 0, 0), (31, .iload_n 3, 1, 0, 0), (32, .invokevirtual 252, 3, 168, 2), 
  (35, .ifCond .eq 76, 3, 111, 0), (38, .iconst 0, 1, 0, 0), (39, .istore 4, 2, 0, 0), (41, .aload_n 0, 1, 0, 0), (42, .iload_n 1, 1, 0, 0), (43, .iload_n 3, 1, 0, 0), (44, .iconst 0, 1, 0, 0), (45, .invokevirtual 262, 3, 177, 3), 
  (48, .istore 5, 2, 0, 0), (50, .iconst 0, 1, 0, 0), (51, .istore 6, 2, 0, 0), (53, .iload 6, 2, 0, 0), (55, .aload_n 0, 1, 0, 0), (56, .getfield 7, 3, 9, 0), (59, .iload_n 1, 1, 0, 0), (60, .iconst 4, 1, 0, 0), 
  (61, .iadd, 1, 0, 0), (62, .iload_n 3, 1, 0, 0), (63, .iadd, 1, 0, 0), (64, .iaload, 1, 0, 0), (65, .invokestatic 266, 3, 163, 1), (68, .if_icmp .ge 43, 3, 111, 0), (71, .iload 5, 2, 0, 0), (73, .iconst (-1), 1, 0, 0), 
  (74, .if_icmp .eq 37, 3, 111, 0), (77, .aload_n 0, 1, 0, 0), (78, .iload_n 1, 1, 0, 0), (79, .iload_n 2, 1, 0, 0), (80, .iload_n 3, 1, 0, 0), (81, .iload 5, 2, 0, 0), (83, .invokevirtual 269, 3, 178, 4), (86, .iload 4, 2, 0, 0), 
  (88, .iconst 1, 1, 0, 0), (89, .iload 5, 2, 0, 0), (91, .ishl, 1, 0, 0), (92, .ior, 1, 0, 0), (93, .istore 4, 2, 0, 0), (95, .aload_n 0, 1, 0, 0), (96, .iload_n 1, 1, 0, 0), (97, .iload_n 3, 1, 0, 0), 
  (98, .iload 4, 2, 0, 0), (100, .invokevirtual 262, 3, 177, 3), (103, .istore 5, 2, 0, 0), (105, .iinc 6 1, 3, 0, 0), (108, .goto (-55), 3, 53, 0), (111, .iinc 3 1, 3, 0, 0), (114, .goto (-112), 3, 2, 0), (117, .return_, 1, 0, 0)]
abbrev hX9_speak : xHd := (yX9_speak, cX9_speak, 7, none)
theorem kX9_speak : xck hX9_speak rX9_speak = true := by decide +kernel
def rX9_lose : List xRow := [(0, .iconst 0, 1, 0, 0), (1, .istore_n 2, 1, 0, 0), (2, .iload_n 2, 1, 0, 0), (3, .bipush 10, 2, 0, 0), (5, .aload_n 0, 1, 0, 0), (6, .getfield 7, 3, 9, 0), (9, .iload_n 1, 1, 0, 0), (10, .iconst 0, 1, 0, 0), 
  (11, .iadd, 1, 0, 0), (12, .iaload, 1, 0, 0), (13, .imul, 1, 0, 0), (14, .if_icmp .ge 72, 3, 86, 0), (17, .iload_n 2, 1, 0, 0), (18, .bipush 10, 2, 0, 0), (20, .idiv, 1, 0, 0), (21, .istore_n 3, 1, 0, 0), 
  (22, .iload_n 1, 1, 0, 0), (23, .bipush 20, 2, 0, 0), (25, .iadd, 1, 0, 0), (26, .iload_n 2, 1, 0, 0), (27, .iadd, 1, 0, 0), (28, .istore 4, 2, 0, 0), (30, .aload_n 0, 1, 0, 0), (31, .iload_n 1, 1, 0, 0), 
  (32, .iload_n 3, 1, 0, 0), (33, .invokevirtual 252, 3, 168, 2), (36, .ifCond .eq 44, 3, 80, 0), (39, .aload_n 0, 1, 0, 0), (40, .getfield 7, 3, 9, 0), (43, .iload 4, 2, 0, 0), (45, .iaload, 1, 0, 0), (46, .i2l, 1, 0, 0), 
  (47, .lconst 1, 1, 0, 0), (48, .ldc2_w 272, 3, 4, 0), (51, .invokestatic 109, 3, 130, 3), (54, .ifCond .eq 26, 3, 80, 0), (57, .aload_n 0, 1, 0, 0), (58, .getfield 7, 3, 9, 0), (61, .iload 4, 2, 0, 0), (63, .dup2, 1, 0, 0), 
  (64, .iaload, 1, 0, 0), (65, .aload_n 0, 1, 0, 0), (66, .getfield 7, 3, 9, 0), (69, .iload_n 1, 1, 0, 0), (70, .iconst 4, 1, 0, 0), (71, .iadd, 1, 0, 0), (72, .iload_n 3, 1, 0, 0), (73, .iadd, 1, 0, 0), 
  (74, .iaload, 1, 0, 0), (75, .invokestatic 274, 3, 164, 1), (78, .isub, 1, 0, 0), (79, .iastore, 1, 0, 0), (80, .iinc 2 1, 3, 0, 0), (83, .goto (-81), 3, 2, 0), (86, .return_, 1, 0, 0)]
abbrev hX9_lose : xHd := (yX9_lose, cX9_lose, 5, none)
theorem kX9_lose : xck hX9_lose rX9_lose = true := by decide +kernel
def rX9_passes : List xRow := [(0, .aload_n 0, 1, 0, 0), (1, .iload_n 1, 1, 0, 0), (2, .invokevirtual 277, 3, 175, 1), (5, .iconst 0, 1, 0, 0), (6, .istore_n 2, 1, 0, 0), (7, .iload_n 2, 1, 0, 0), (8, .iconst 4, 1, 0, 0), (9, .if_icmp .ge 31, 3, 40, 0), 
  (12, .aload_n 0, 1, 0, 0), (13, .getfield 92, 3, 9, 37), (16, .iload_n 2, 1, 0, 0), (17, .iconst 0, 1, 0, 0), (18, .iastore, 1, 0, 0), (19, .aload_n 0, 1, 0, 0), (20, .iload_n 1, 1, 0, 0), (21, .iload_n 2, 1, 0, 0), 
  (22, .invokevirtual 281, 3, 176, 2), (25, .ifCond .ne 9, 3, 34, 0), (28, .aload_n 0, 1, 0, 0), (29, .iload_n 1, 1, 0, 0), (30, .iload_n 2, 1, 0, 0), (31, .invokevirtual 284, 3, 179, 2), (34, .iinc 2 1, 3, 0, 0), (37, .goto (-30), 3, 7, 0), 
  (40, .aload_n 0, 1, 0, 0), (41, .getfield 7, 3, 9, 0), (44, .iload_n 1, 1, 0, 0), (45, .iconst 2, 1, 0, 0), (46, .iadd, 1, 0, 0), (47, .iaload, 1, 0, 0), (48, .iconst 3, 1, 0, 0), (49, .irem, 1, 0, 0), 
  (50, .iconst 2, 1, 0, 0), (51, .if_icmp .ne 8, 3, 59, 0), (54, .aload_n 0, 1, 0, 0), (55, .iload_n 1, 1, 0, 0), (56, .invokevirtual 287, 3, 180, 1), (59, .aload_n 0, 1, 0, 0), (60, .getfield 7, 3, 9, 0), (63, .iload_n 1, 1, 0, 0), 
  (64, .iconst 2, 1, 0, 0), (65, .iadd, 1, 0, 0), (66, .dup2, 1, 0, 0), (67, .iaload, 1, 0, 0), (68, .iconst 1, 1, 0, 0), (69, .iadd, 1, 0, 0), (70, .iastore, 1, 0, 0), (71, .return_, 1, 0, 0)]
abbrev hX9_passes : xHd := (yX9_passes, cX9_passes, 3, none)
theorem kX9_passes : xck hX9_passes rX9_passes = true := by decide +kernel
def rX9_layTried : List xRow := [(0, .aload_n 0, 1, 0, 0), (1, .iconst 0, 1, 0, 0), (2, .sipush 1296, 3, 0, 0), (5, .invokevirtual 202, 3, 151, 2), (8, .return_, 1, 0, 0)]
abbrev hX9_layTried : xHd := (yX9_layTried, cX9_layTried, 1, none)
theorem kX9_layTried : xck hX9_layTried rX9_layTried = true := by decide +kernel
def rX9_passTried : List xRow := [(0, .iconst 0, 1, 0, 0), (1, .istore_n 2, 1, 0, 0), (2, .iload_n 2, 1, 0, 0), (3, .iload_n 1, 1, 0, 0), (4, .if_icmp .ge 16, 3, 20, 0), (7, .aload_n 0, 1, 0, 0), (8, .sipush 1296, 3, 0, 0), (11, .invokevirtual 290, 3, 181, 1), 
  (14, .iinc 2 1, 3, 0, 0), (17, .goto (-15), 3, 2, 0), (20, .return_, 1, 0, 0)]
abbrev hX9_passTried : xHd := (yX9_passTried, cX9_passTried, 3, none)
theorem kX9_passTried : xck hX9_passTried rX9_passTried = true := by decide +kernel
def rX9_known : List xRow := [(0, .aload_n 0, 1, 0, 0), (1, .iload_n 1, 1, 0, 0), (2, .invokevirtual 234, 3, 165, 1), (5, .ifCond .eq 10, 3, 15, 0), (8, .iload_n 2, 1, 0, 0), (9, .invokestatic 293, 3, 167, 1), (12, .ifCond .ne 6, 3, 18, 0), (15, .bipush (-2), 2, 0, 0), 
  (17, .ireturn, 1, 0, 0), (18, .iload_n 3, 1, 0, 0), (19, .i2l, 1, 0, 0), (20, .lconst 0, 1, 0, 0), (21, .ldc2_w 296, 3, 60, 0), (24, .invokestatic 109, 3, 130, 3), (27, .ifCond .ne 6, 3, 33, 0), (30, .bipush (-3), 2, 0, 0), 
  (32, .ireturn, 1, 0, 0), (33, .aload_n 0, 1, 0, 0), (34, .invokevirtual 298, 3, 182, 0), (37, .aload_n 0, 1, 0, 0), (38, .iload_n 3, 1, 0, 0), (39, .invokevirtual 301, 3, 183, 1), (42, .aload_n 0, 1, 0, 0), (43, .getfield 7, 3, 9, 0), 
  (46, .sipush 1316, 3, 0, 0), (49, .bipush 10, 2, 0, 0), (51, .iload_n 1, 1, 0, 0), (52, .imul, 1, 0, 0), (53, .iadd, 1, 0, 0), (54, .iload_n 2, 1, 0, 0), (55, .iadd, 1, 0, 0), (56, .iaload, 1, 0, 0), 
  (57, .ireturn, 1, 0, 0)]
abbrev hX9_known : xHd := (yX9_known, cX9_known, 4, some .int)
theorem kX9_known : xck hX9_known rX9_known = true := by decide +kernel
def rX9_keepPast : List xRow := [(0, .aload_n 0, 1, 0, 0), (1, .getfield 206, 3, 9, 1), (4, .bipush 8, 2, 0, 0), (6, .if_icmp .ne 48, 3, 54, 0), (9, .iconst 0, 1, 0, 0), (10, .istore_n 1, 1, 0, 0), (11, .iload_n 1, 1, 0, 0), (12, .sipush 756, 3, 0, 0), 
  (15, .if_icmp .ge 29, 3, 44, 0), (18, .aload_n 0, 1, 0, 0), (19, .getfield 7, 3, 9, 0), (22, .sipush 216, 3, 0, 0), (25, .iload_n 1, 1, 0, 0), (26, .iadd, 1, 0, 0), (27, .aload_n 0, 1, 0, 0), (28, .getfield 7, 3, 9, 0), 
  (31, .sipush 324, 3, 0, 0), (34, .iload_n 1, 1, 0, 0), (35, .iadd, 1, 0, 0), (36, .iaload, 1, 0, 0), (37, .iastore, 1, 0, 0), (38, .iinc 1 1, 3, 0, 0), (41, .goto (-30), 3, 11, 0), (44, .aload_n 0, 1, 0, 0), 
  (45, .dup, 1, 0, 0), (46, .getfield 206, 3, 9, 1), (49, .iconst 1, 1, 0, 0), (50, .isub, 1, 0, 0), (51, .putfield 206, 3, 9, 1), (54, .aload_n 0, 1, 0, 0), (55, .iconst 0, 1, 0, 0), (56, .sipush 216, 3, 0, 0), 
  (59, .bipush 108, 2, 0, 0), (61, .aload_n 0, 1, 0, 0), (62, .getfield 206, 3, 9, 1), (65, .imul, 1, 0, 0), (66, .iadd, 1, 0, 0), (67, .invokevirtual 202, 3, 151, 2), (70, .aload_n 0, 1, 0, 0), (71, .dup, 1, 0, 0), 
  (72, .getfield 206, 3, 9, 1), (75, .iconst 1, 1, 0, 0), (76, .iadd, 1, 0, 0), (77, .putfield 206, 3, 9, 1), (80, .return_, 1, 0, 0)]
abbrev hX9_keepPast : xHd := (yX9_keepPast, cX9_keepPast, 2, none)
theorem kX9_keepPast : xck hX9_keepPast rX9_keepPast = true := by decide +kernel
def rX9_evening : List xRow := [(0, .iload_n 1, 1, 0, 0), (1, .i2l, 1, 0, 0), (2, .lconst 1, 1, 0, 0), (3, .ldc2_w 304, 3, 12, 0), (6, .invokestatic 109, 3, 130, 3), (9, .ifCond .ne 6, 3, 15, 0), (12, .bipush (-3), 2, 0, 0), (14, .ireturn, 1, 0, 0), 
  (15, .aload_n 0, 1, 0, 0), (16, .getfield 7, 3, 9, 0), (19, .iconst 2, 1, 0, 0), (20, .iaload, 1, 0, 0), (21, .iload_n 1, 1, 0, 0), (22, .iadd, 1, 0, 0), (23, .sipush 999, 3, 0, 0), (26, .if_icmp .le 6, 3, 32, 0), 
  (29, .bipush (-5), 2, 0, 0), (31, .ireturn, 1, 0, 0), (32, .aload_n 0, 1, 0, 0), (33, .invokevirtual 306, 3, 185, 0), (36, .iconst 0, 1, 0, 0), (37, .istore_n 2, 1, 0, 0), (38, .iload_n 2, 1, 0, 0), (39, .iload_n 1, 1, 0, 0), 
  (40, .if_icmp .ge 14, 3, 54, 0), (43, .aload_n 0, 1, 0, 0), (44, .iconst 0, 1, 0, 0), (45, .invokevirtual 290, 3, 181, 1), (48, .iinc 2 1, 3, 0, 0), (51, .goto (-13), 3, 38, 0), (54, .aload_n 0, 1, 0, 0), (55, .getfield 7, 3, 9, 0), 
  (58, .iconst 2, 1, 0, 0), (59, .iaload, 1, 0, 0), (60, .ireturn, 1, 0, 0)]
abbrev hX9_evening : xHd := (yX9_evening, cX9_evening, 3, some .int)
theorem kX9_evening : xck hX9_evening rX9_evening = true := by decide +kernel
def rX9_teach : List xRow := [(0, .aload_n 0, 1, 0, 0), (1, .iload_n 1, 1, 0, 0), (2, .invokevirtual 234, 3, 165, 1), (5, .ifCond .eq 10, 3, 15, 0), (8, .iload_n 2, 1, 0, 0), (9, .invokestatic 293, 3, 167, 1), (12, .ifCond .ne 6, 3, 18, 0), (15, .bipush (-2), 2, 0, 0), 
  (17, .ireturn, 1, 0, 0), (18, .aload_n 0, 1, 0, 0), (19, .invokevirtual 306, 3, 185, 0), (22, .aload_n 0, 1, 0, 0), (23, .iconst 0, 1, 0, 0), (24, .iload_n 1, 1, 0, 0), (25, .iload_n 2, 1, 0, 0), (26, .iconst 3, 1, 0, 0), 
  (27, .invokevirtual 255, 3, 169, 4), (30, .aload_n 0, 1, 0, 0), (31, .getfield 7, 3, 9, 0), (34, .bipush 20, 2, 0, 0), (36, .bipush 10, 2, 0, 0), (38, .iload_n 1, 1, 0, 0), (39, .imul, 1, 0, 0), (40, .iadd, 1, 0, 0), 
  (41, .iload_n 2, 1, 0, 0), (42, .iadd, 1, 0, 0), (43, .iaload, 1, 0, 0), (44, .ireturn, 1, 0, 0)]
abbrev hX9_teach : xHd := (yX9_teach, cX9_teach, 3, some .int)
theorem kX9_teach : xck hX9_teach rX9_teach = true := by decide +kernel
def rX9_moult : List xRow := [(0, .aload_n 0, 1, 0, 0), (1, .iload_n 1, 1, 0, 0), (2, .invokevirtual 234, 3, 165, 1), (5, .ifCond .ne 6, 3, 11, 0), (8, .bipush (-2), 2, 0, 0), (10, .ireturn, 1, 0, 0), (11, .aload_n 0, 1, 0, 0), (12, .invokevirtual 306, 3, 185, 0), 
  (15, .iconst 0, 1, 0, 0), (16, .istore_n 2, 1, 0, 0), (17, .iconst 0, 1, 0, 0), (18, .istore_n 3, 1, 0, 0), (19, .iload_n 3, 1, 0, 0), (20, .bipush 10, 2, 0, 0), (22, .if_icmp .ge 44, 3, 66, 0), (25, .aload_n 0, 1, 0, 0), 
  (26, .getfield 7, 3, 9, 0), (29, .bipush 20, 2, 0, 0), (31, .bipush 10, 2, 0, 0), (33, .iload_n 1, 1, 0, 0), (34, .imul, 1, 0, 0), (35, .iadd, 1, 0, 0), (36, .iload_n 3, 1, 0, 0), (37, .iadd, 1, 0, 0), 
  (38, .dup2, 1, 0, 0), (39, .iaload, 1, 0, 0), (40, .iconst 2, 1, 0, 0), (41, .idiv, 1, 0, 0), (42, .iastore, 1, 0, 0), (43, .iload_n 2, 1, 0, 0), (44, .aload_n 0, 1, 0, 0), (45, .getfield 7, 3, 9, 0), 
  (48, .bipush 20, 2, 0, 0), (50, .bipush 10, 2, 0, 0), (52, .iload_n 1, 1, 0, 0), (53, .imul, 1, 0, 0), (54, .iadd, 1, 0, 0), (55, .iload_n 3, 1, 0, 0), (56, .iadd, 1, 0, 0), (57, .iaload, 1, 0, 0), 
  (58, .iadd, 1, 0, 0), (59, .istore_n 2, 1, 0, 0), (60, .iinc 3 1, 3, 0, 0), (63, .goto (-44), 3, 19, 0), (66, .iload_n 2, 1, 0, 0), (67, .ireturn, 1, 0, 0)]
abbrev hX9_moult : xHd := (yX9_moult, cX9_moult, 4, some .int)
theorem kX9_moult : xck hX9_moult rX9_moult = true := by decide +kernel
def rX9_perch : List xRow := [(0, .aload_n 0, 1, 0, 0), (1, .iload_n 1, 1, 0, 0), (2, .invokevirtual 234, 3, 165, 1), (5, .ifCond .eq 15, 3, 20, 0), (8, .iload_n 2, 1, 0, 0), (9, .i2l, 1, 0, 0), (10, .lconst 0, 1, 0, 0), (11, .ldc2_w 309, 3, 3, 0), 
  (14, .invokestatic 109, 3, 130, 3), (17, .ifCond .ne 6, 3, 23, 0), (20, .bipush (-2), 2, 0, 0), (22, .ireturn, 1, 0, 0), (23, .aload_n 0, 1, 0, 0), (24, .getfield 7, 3, 9, 0), (27, .bipush 12, 2, 0, 0), (29, .iload_n 1, 1, 0, 0), 
  (30, .iadd, 1, 0, 0), (31, .iaload, 1, 0, 0), (32, .istore_n 3, 1, 0, 0), (33, .iload_n 3, 1, 0, 0), (34, .iload_n 2, 1, 0, 0), (35, .if_icmp .ne 6, 3, 41, 0), (38, .bipush (-4), 2, 0, 0), (40, .ireturn, 1, 0, 0), 
  (41, .aload_n 0, 1, 0, 0), (42, .invokevirtual 306, 3, 185, 0), (45, .aload_n 0, 1, 0, 0), (46, .getfield 7, 3, 9, 0), (49, .bipush 12, 2, 0, 0), (51, .iload_n 1, 1, 0, 0), (52, .iadd, 1, 0, 0), (53, .iload_n 2, 1, 0, 0), 
  (54, .iastore, 1, 0, 0), (55, .iload_n 3, 1, 0, 0), (56, .ireturn, 1, 0, 0)]
abbrev hX9_perch : xHd := (yX9_perch, cX9_perch, 4, some .int)
theorem kX9_perch : xck hX9_perch rX9_perch = true := by decide +kernel
def rX9_cover : List xRow := [(0, .aload_n 0, 1, 0, 0), (1, .iload_n 1, 1, 0, 0), (2, .invokevirtual 234, 3, 165, 1), (5, .ifCond .ne 6, 3, 11, 0), (8, .bipush (-2), 2, 0, 0), (10, .ireturn, 1, 0, 0), (11, .aload_n 0, 1, 0, 0), (12, .invokevirtual 306, 3, 185, 0), 
  (15, .aload_n 0, 1, 0, 0), (16, .getfield 7, 3, 9, 0), (19, .iconst 3, 1, 0, 0), (20, .dup2, 1, 0, 0), (21, .iaload, 1, 0, 0), (22, .iconst 1, 1, 0, 0), (23, .iload_n 1, 1, 0, 0), (24, .ishl, 1, 0, 0), 
  (25, .ixor, 1, 0, 0), (26, .iastore, 1, 0, 0), (27, .aload_n 0, 1, 0, 0), (28, .getfield 7, 3, 9, 0), (31, .iconst 3, 1, 0, 0), (32, .iaload, 1, 0, 0), (33, .iload_n 1, 1, 0, 0), (34, .ishr, 1, 0, 0), 
  (35, .iconst 1, 1, 0, 0), (36, .iand, 1, 0, 0), (37, .ireturn, 1, 0, 0)]
abbrev hX9_cover : xHd := (yX9_cover, cX9_cover, 2, some .int)
theorem kX9_cover : xck hX9_cover rX9_cover = true := by decide +kernel
def rX9_sets : List xRow := [(0, .iconst 0, 1, 0, 0), (1, .istore 4, 2, 0, 0), (3, .iload 4, 2, 0, 0), (5, .aload_n 0, 1, 0, 0), (6, .getfield 7, 3, 9, 0), (9, .iload_n 1, 1, 0, 0), (10, .iconst 1, 1, 0, 0), (11, .iadd, 1, 0, 0), 
  (12, .iaload, 1, 0, 0), (13, .if_icmp .ge 58, 3, 71, 0), (16, .aload_n 0, 1, 0, 0), (17, .getfield 7, 3, 9, 0), (20, .iload_n 1, 1, 0, 0), (21, .bipush 104, 2, 0, 0), (23, .iadd, 1, 0, 0), (24, .iload 4, 2, 0, 0), 
  (26, .iadd, 1, 0, 0), (27, .iload_n 3, 1, 0, 0), (28, .iconst (-1), 1, 0, 0), (29, .if_icmp .eq 23, 3, 52, 0), (32, .aload_n 0, 1, 0, 0), (33, .getfield 7, 3, 9, 0), (36, .iload_n 1, 1, 0, 0), (37, .bipush 104, 2, 0, 0), 
  (39, .iadd, 1, 0, 0), (40, .iload 4, 2, 0, 0), (42, .iadd, 1, 0, 0), (43, .iaload, 1, 0, 0), (44, .iload_n 3, 1, 0, 0), (45, .if_icmp .ne 7, 3, 52, 0), (48, .iconst (-1), 1, 0, 0), (49, .goto 15, 3, 64, 0), 
  (52, .aload_n 0, 1, 0, 0), (53, .getfield 7, 3, 9, 0), (56, .iload_n 1, 1, 0, 0), (57, .bipush 104, 2, 0, 0), (59, .iadd, 1, 0, 0), (60, .iload 4, 2, 0, 0), (62, .iadd, 1, 0, 0), (63, .iaload, 1, 0, 0), 
  (64, .iastore, 1, 0, 0), (65, .iinc 4 1, 3, 0, 0), (68, .goto (-65), 3, 3, 0), (71, .aload_n 0, 1, 0, 0), (72, .getfield 7, 3, 9, 0), (75, .iload_n 1, 1, 0, 0), (76, .bipush 104, 2, 0, 0), (78, .iadd, 1, 0, 0), 
  (79, .iload_n 2, 1, 0, 0), (80, .iadd, 1, 0, 0), (81, .iload_n 3, 1, 0, 0), (82, .iastore, 1, 0, 0), (83, .return_, 1, 0, 0)]
abbrev hX9_sets : xHd := (yX9_sets, cX9_sets, 5, none)
theorem kX9_sets : xck hX9_sets rX9_sets = true := by decide +kernel
def rX9_sit : List xRow := [(0, .aload_n 0, 1, 0, 0), (1, .iload_n 1, 1, 0, 0), (2, .invokevirtual 244, 3, 166, 1), (5, .ifCond .eq 16, 3, 21, 0), (8, .iload_n 2, 1, 0, 0), (9, .iconst (-1), 1, 0, 0), (10, .if_icmp .eq 14, 3, 24, 0), (13, .aload_n 0, 1, 0, 0), 
  (14, .iload_n 2, 1, 0, 0), (15, .invokevirtual 234, 3, 165, 1), (18, .ifCond .ne 6, 3, 24, 0), (21, .bipush (-2), 2, 0, 0), (23, .ireturn, 1, 0, 0), (24, .aload_n 0, 1, 0, 0), (25, .getfield 7, 3, 9, 0), (28, .bipush 104, 2, 0, 0), 
  (30, .iload_n 1, 1, 0, 0), (31, .iadd, 1, 0, 0), (32, .iaload, 1, 0, 0), (33, .istore_n 3, 1, 0, 0), (34, .iload_n 3, 1, 0, 0), (35, .iload_n 2, 1, 0, 0), (36, .if_icmp .ne 6, 3, 42, 0), (39, .bipush (-4), 2, 0, 0), 
  (41, .ireturn, 1, 0, 0), (42, .aload_n 0, 1, 0, 0), (43, .invokevirtual 306, 3, 185, 0), (46, .aload_n 0, 1, 0, 0), (47, .iconst 0, 1, 0, 0), (48, .iload_n 1, 1, 0, 0), (49, .iload_n 2, 1, 0, 0), (50, .invokevirtual 311, 3, 191, 3), 
  (53, .iload_n 3, 1, 0, 0), (54, .ireturn, 1, 0, 0)]
abbrev hX9_sit : xHd := (yX9_sit, cX9_sit, 4, some .int)
theorem kX9_sit : xck hX9_sit rX9_sit = true := by decide +kernel
def rX9_undo : List xRow := [(0, .aload_n 0, 1, 0, 0), (1, .getfield 206, 3, 9, 1), (4, .ifCond .ne 6, 3, 10, 0), (7, .bipush (-4), 2, 0, 0), (9, .ireturn, 1, 0, 0), (10, .aload_n 0, 1, 0, 0), (11, .dup, 1, 0, 0), (12, .getfield 206, 3, 9, 1), 
  (15, .iconst 1, 1, 0, 0), (16, .isub, 1, 0, 0), (17, .putfield 206, 3, 9, 1), (20, .aload_n 0, 1, 0, 0), (21, .sipush 216, 3, 0, 0), (24, .bipush 108, 2, 0, 0), (26, .aload_n 0, 1, 0, 0), (27, .getfield 206, 3, 9, 1), 
  (30, .imul, 1, 0, 0), (31, .iadd, 1, 0, 0), (32, .iconst 0, 1, 0, 0), (33, .invokevirtual 202, 3, 151, 2), (36, .aload_n 0, 1, 0, 0), (37, .getfield 206, 3, 9, 1), (40, .ireturn, 1, 0, 0)]
abbrev hX9_undo : xHd := (yX9_undo, cX9_undo, 1, some .int)
theorem kX9_undo : xck hX9_undo rX9_undo = true := by decide +kernel
def rX9_keep : List xRow := [(0, .iload_n 1, 1, 0, 0), (1, .i2l, 1, 0, 0), (2, .lconst 0, 1, 0, 0), (3, .lconst 1, 1, 0, 0), (4, .invokestatic 109, 3, 130, 3), (7, .ifCond .ne 6, 3, 13, 0), (10, .bipush (-2), 2, 0, 0), (12, .ireturn, 1, 0, 0), 
  (13, .aload_n 0, 1, 0, 0), (14, .iconst 0, 1, 0, 0), (15, .sipush 1080, 3, 0, 0), (18, .bipush 108, 2, 0, 0), (20, .iload_n 1, 1, 0, 0), (21, .imul, 1, 0, 0), (22, .iadd, 1, 0, 0), (23, .invokevirtual 202, 3, 151, 2), 
  (26, .aload_n 0, 1, 0, 0), (27, .getfield 13, 3, 9, 2), (30, .iload_n 1, 1, 0, 0), (31, .iconst 1, 1, 0, 0), (32, .bastore, 1, 0, 0), (33, .aload_n 0, 1, 0, 0), (34, .getfield 7, 3, 9, 0), (37, .iconst 2, 1, 0, 0), 
  (38, .iaload, 1, 0, 0), (39, .ireturn, 1, 0, 0)]
abbrev hX9_keep : xHd := (yX9_keep, cX9_keep, 2, some .int)
theorem kX9_keep : xck hX9_keep rX9_keep = true := by decide +kernel
def rX9_back : List xRow := [(0, .iload_n 1, 1, 0, 0), (1, .i2l, 1, 0, 0), (2, .lconst 0, 1, 0, 0), (3, .lconst 1, 1, 0, 0), (4, .invokestatic 109, 3, 130, 3), (7, .ifCond .ne 6, 3, 13, 0), (10, .bipush (-2), 2, 0, 0), (12, .ireturn, 1, 0, 0), 
  (13, .aload_n 0, 1, 0, 0), (14, .getfield 13, 3, 9, 2), (17, .iload_n 1, 1, 0, 0), (18, .baload, 1, 0, 0), (19, .ifCond .ne 6, 3, 25, 0), (22, .bipush (-4), 2, 0, 0), (24, .ireturn, 1, 0, 0), (25, .aload_n 0, 1, 0, 0), 
  (26, .sipush 1080, 3, 0, 0), (29, .bipush 108, 2, 0, 0), (31, .iload_n 1, 1, 0, 0), (32, .imul, 1, 0, 0), (33, .iadd, 1, 0, 0), (34, .iconst 0, 1, 0, 0), (35, .invokevirtual 202, 3, 151, 2), (38, .aload_n 0, 1, 0, 0), 
  (39, .iconst 0, 1, 0, 0), (40, .putfield 206, 3, 9, 1), (43, .aload_n 0, 1, 0, 0), (44, .getfield 7, 3, 9, 0), (47, .iconst 2, 1, 0, 0), (48, .iaload, 1, 0, 0), (49, .ireturn, 1, 0, 0)]
abbrev hX9_back : xHd := (yX9_back, cX9_back, 2, some .int)
theorem kX9_back : xck hX9_back rX9_back = true := by decide +kernel
def rX9_saidAt : List xRow := [(0, .iload_n 2, 1, 0, 0), (1, .aload_n 0, 1, 0, 0), (2, .getfield 92, 3, 9, 37), (5, .iload_n 1, 1, 0, 0), (6, .iaload, 1, 0, 0), (7, .if_icmp .ge 17, 3, 24, 0), (10, .aload_n 0, 1, 0, 0), (11, .getfield 89, 3, 9, 36), 
  (14, .bipush 16, 2, 0, 0), (16, .iload_n 1, 1, 0, 0), (17, .imul, 1, 0, 0), (18, .iload_n 2, 1, 0, 0), (19, .iadd, 1, 0, 0), (20, .iaload, 1, 0, 0), (21, .goto 4, 3, 25, 0), (24, .iconst (-1), 1, 0, 0), 
  (25, .ireturn, 1, 0, 0)]
abbrev hX9_saidAt : xHd := (yX9_saidAt, cX9_saidAt, 3, some .int)
theorem kX9_saidAt : xck hX9_saidAt rX9_saidAt = true := by decide +kernel
def rX9_said : List xRow := [(0, .iload_n 1, 1, 0, 0), (1, .i2l, 1, 0, 0), (2, .lconst 0, 1, 0, 0), (3, .ldc2_w 309, 3, 3, 0), (6, .invokestatic 109, 3, 130, 3), (9, .ifCond .ne 6, 3, 15, 0), (12, .bipush (-2), 2, 0, 0), (14, .ireturn, 1, 0, 0), 
  (15, .iload_n 2, 1, 0, 0), (16, .i2l, 1, 0, 0), (17, .lconst 0, 1, 0, 0), (18, .ldc2_w 315, 3, 15, 0), (21, .invokestatic 109, 3, 130, 3), (24, .ifCond .ne 6, 3, 30, 0), (27, .bipush (-3), 2, 0, 0), (29, .ireturn, 1, 0, 0), 
  (30, .aload_n 0, 1, 0, 0), (31, .invokevirtual 298, 3, 182, 0), (34, .aload_n 0, 1, 0, 0), (35, .iconst 1, 1, 0, 0), (36, .invokevirtual 301, 3, 183, 1), (39, .aload_n 0, 1, 0, 0), (40, .iload_n 1, 1, 0, 0), (41, .iload_n 2, 1, 0, 0), 
  (42, .invokevirtual 317, 3, 196, 2), (45, .ireturn, 1, 0, 0)]
abbrev hX9_said : xHd := (yX9_said, cX9_said, 3, some .int)
theorem kX9_said : xck hX9_said rX9_said = true := by decide +kernel
def rX9_when : List xRow := [(0, .aload_n 0, 1, 0, 0), (1, .iload_n 1, 1, 0, 0), (2, .invokevirtual 234, 3, 165, 1), (5, .ifCond .eq 10, 3, 15, 0), (8, .iload_n 2, 1, 0, 0), (9, .invokestatic 293, 3, 167, 1), (12, .ifCond .ne 6, 3, 18, 0), (15, .bipush (-2), 2, 0, 0), 
  (17, .ireturn, 1, 0, 0), (18, .iload_n 3, 1, 0, 0), (19, .i2l, 1, 0, 0), (20, .lconst 1, 1, 0, 0), (21, .ldc2_w 232, 3, 9, 0), (24, .invokestatic 109, 3, 130, 3), (27, .ifCond .ne 6, 3, 33, 0), (30, .bipush (-3), 2, 0, 0), 
  (32, .ireturn, 1, 0, 0), (33, .aload_n 0, 1, 0, 0), (34, .invokevirtual 298, 3, 182, 0), (37, .iconst 0, 1, 0, 0), (38, .istore 4, 2, 0, 0), (40, .iload 4, 2, 0, 0), (42, .bipush 61, 2, 0, 0), (44, .if_icmp .ge 36, 3, 80, 0), 
  (47, .aload_n 0, 1, 0, 0), (48, .getfield 7, 3, 9, 0), (51, .sipush 1316, 3, 0, 0), (54, .bipush 10, 2, 0, 0), (56, .iload_n 1, 1, 0, 0), (57, .imul, 1, 0, 0), (58, .iadd, 1, 0, 0), (59, .iload_n 2, 1, 0, 0), 
  (60, .iadd, 1, 0, 0), (61, .iaload, 1, 0, 0), (62, .iload_n 3, 1, 0, 0), (63, .if_icmp .lt 6, 3, 69, 0), (66, .iload 4, 2, 0, 0), (68, .ireturn, 1, 0, 0), (69, .aload_n 0, 1, 0, 0), (70, .iconst 1, 1, 0, 0), 
  (71, .invokevirtual 301, 3, 183, 1), (74, .iinc 4 1, 3, 0, 0), (77, .goto (-37), 3, 40, 0), (80, .iconst (-1), 1, 0, 0), (81, .ireturn, 1, 0, 0)]
abbrev hX9_when : xHd := (yX9_when, cX9_when, 5, some .int)
theorem kX9_when : xck hX9_when rX9_when = true := by decide +kernel
def rX9_keptBy : List xRow := [(0, .aload_n 0, 1, 0, 0), (1, .invokevirtual 298, 3, 182, 0), (4, .aload_n 0, 1, 0, 0), (5, .sipush 1296, 3, 0, 0), (8, .iload_n 1, 1, 0, 0), (9, .iload_n 2, 1, 0, 0), (10, .invokevirtual 311, 3, 191, 3), (13, .aload_n 0, 1, 0, 0), 
  (14, .iload_n 3, 1, 0, 0), (15, .invokevirtual 301, 3, 183, 1), (18, .aload_n 0, 1, 0, 0), (19, .sipush 1296, 3, 0, 0), (22, .iload_n 2, 1, 0, 0), (23, .invokevirtual 241, 3, 171, 2), (26, .aload_n 0, 1, 0, 0), (27, .getfield 7, 3, 9, 0), 
  (30, .bipush 100, 2, 0, 0), (32, .iload_n 1, 1, 0, 0), (33, .iadd, 1, 0, 0), (34, .iaload, 1, 0, 0), (35, .iand, 1, 0, 0), (36, .invokestatic 320, 3, 132, 1), (39, .ireturn, 1, 0, 0)]
abbrev hX9_keptBy : xHd := (yX9_keptBy, cX9_keptBy, 4, some .int)
theorem kX9_keptBy : xck hX9_keptBy rX9_keptBy = true := by decide +kernel
def rX9_keeps : List xRow := [(0, .aload_n 0, 1, 0, 0), (1, .iload_n 1, 1, 0, 0), (2, .invokevirtual 244, 3, 166, 1), (5, .ifCond .eq 11, 3, 16, 0), (8, .aload_n 0, 1, 0, 0), (9, .iload_n 2, 1, 0, 0), (10, .invokevirtual 234, 3, 165, 1), (13, .ifCond .ne 6, 3, 19, 0), 
  (16, .bipush (-2), 2, 0, 0), (18, .ireturn, 1, 0, 0), (19, .iload_n 3, 1, 0, 0), (20, .i2l, 1, 0, 0), (21, .lconst 1, 1, 0, 0), (22, .ldc2_w 323, 3, 20, 0), (25, .invokestatic 109, 3, 130, 3), (28, .ifCond .eq 13, 3, 41, 0), 
  (31, .aload_n 0, 1, 0, 0), (32, .iload_n 1, 1, 0, 0), (33, .iload_n 2, 1, 0, 0), (34, .iload_n 3, 1, 0, 0), (35, .invokevirtual 325, 3, 199, 3), (38, .goto 5, 3, 43, 0), (41, .bipush (-3), 2, 0, 0), (43, .ireturn, 1, 0, 0)]
abbrev hX9_keeps : xHd := (yX9_keeps, cX9_keeps, 4, some .int)
theorem kX9_keeps : xck hX9_keeps rX9_keeps = true := by decide +kernel
def rX9_keptByLine : List xRow := [(0, .iconst 0, 1, 0, 0), (1, .istore_n 1, 1, 0, 0), (2, .iconst 0, 1, 0, 0), (3, .istore_n 2, 1, 0, 0), (4, .iconst 1, 1, 0, 0), (5, .istore_n 3, 1, 0, 0), (6, .iconst 0, 1, 0, 0), (7, .istore 4, 2, 0, 0), 
  (9, .iload 4, 2, 0, 0), (11, .aload_n 0, 1, 0, 0), (12, .getfield 7, 3, 9, 0), (15, .iconst 1, 1, 0, 0), (16, .iaload, 1, 0, 0), (17, .if_icmp .ge 112, 3, 129, 0), (20, .aload_n 0, 1, 0, 0), (21, .getfield 98, 3, 9, 39), 
  (24, .iload 4, 2, 0, 0), (26, .iaload, 1, 0, 0), (27, .aload_n 0, 1, 0, 0), (28, .getfield 7, 3, 9, 0), (31, .iconst 0, 1, 0, 0), (32, .iaload, 1, 0, 0), (33, .if_icmp .ge 7, 3, 40, 0), (36, .iconst 1, 1, 0, 0), 
  (37, .goto 4, 3, 41, 0), (40, .iconst 0, 1, 0, 0), (41, .istore 5, 2, 0, 0), (43, .iload_n 3, 1, 0, 0), (44, .ifCond .eq 26, 3, 70, 0), (47, .iload 5, 2, 0, 0), (49, .ifCond .eq 17, 3, 66, 0), (52, .iload_n 2, 1, 0, 0), 
  (53, .aload_n 0, 1, 0, 0), (54, .getfield 98, 3, 9, 39), (57, .iload 4, 2, 0, 0), (59, .iaload, 1, 0, 0), (60, .invokestatic 165, 3, 131, 2), (63, .ifCond .ne 7, 3, 70, 0), (66, .iconst 1, 1, 0, 0), (67, .goto 4, 3, 71, 0), 
  (70, .iconst 0, 1, 0, 0), (71, .istore_n 3, 1, 0, 0), (72, .iload_n 2, 1, 0, 0), (73, .iload 5, 2, 0, 0), (75, .ifCond .eq 15, 3, 90, 0), (78, .iconst 1, 1, 0, 0), (79, .aload_n 0, 1, 0, 0), (80, .getfield 98, 3, 9, 39), 
  (83, .iload 4, 2, 0, 0), (85, .iaload, 1, 0, 0), (86, .ishl, 1, 0, 0), (87, .goto 4, 3, 91, 0), (90, .iconst 0, 1, 0, 0), (91, .ior, 1, 0, 0), (92, .istore_n 2, 1, 0, 0), (93, .iload_n 1, 1, 0, 0), 
  (94, .iload 5, 2, 0, 0), (96, .ifCond .eq 24, 3, 120, 0), (99, .aload_n 0, 1, 0, 0), (100, .getfield 95, 3, 9, 38), (103, .bipush 8, 2, 0, 0), (105, .iload 4, 2, 0, 0), (107, .imul, 1, 0, 0), (108, .aload_n 0, 1, 0, 0), 
  (109, .getfield 98, 3, 9, 39), (112, .iload 4, 2, 0, 0), (114, .iaload, 1, 0, 0), (115, .iadd, 1, 0, 0), (116, .iaload, 1, 0, 0), (117, .goto 4, 3, 121, 0), (120, .iconst 0, 1, 0, 0), (121, .iadd, 1, 0, 0), 
  (122, .istore_n 1, 1, 0, 0), (123, .iinc 4 1, 3, 0, 0), (126, .goto (-117), 3, 9, 0), (129, .iload_n 3, 1, 0, 0), (130, .ifCond .eq 7, 3, 137, 0), (133, .iload_n 1, 1, 0, 0), (134, .goto 4, 3, 138, 0), (137, .iconst (-1), 1, 0, 0), 
  (138, .ireturn, 1, 0, 0)]
abbrev hX9_keptByLine : xHd := (yX9_keptByLine, cX9_keptByLine, 6, some .int)
theorem kX9_keptByLine : xck hX9_keptByLine rX9_keptByLine = true := by decide +kernel
def rX9_nextLine : List xRow := [(0, .aload_n 0, 1, 0, 0), (1, .getfield 7, 3, 9, 0), (4, .iconst 1, 1, 0, 0), (5, .iaload, 1, 0, 0), (6, .iconst 1, 1, 0, 0), (7, .isub, 1, 0, 0), (8, .istore_n 1, 1, 0, 0), (9, .iload_n 1, 1, 0, 0), 
  (10, .ifCond .lt 31, 3, 41, 0), (13, .aload_n 0, 1, 0, 0), (14, .getfield 98, 3, 9, 39), (17, .iload_n 1, 1, 0, 0), (18, .iaload, 1, 0, 0), (19, .aload_n 0, 1, 0, 0), (20, .getfield 7, 3, 9, 0), (23, .iconst 0, 1, 0, 0), 
  (24, .iaload, 1, 0, 0), (25, .if_icmp .ne 16, 3, 41, 0), (28, .aload_n 0, 1, 0, 0), (29, .getfield 98, 3, 9, 39), (32, .iload_n 1, 1, 0, 0), (33, .iconst 0, 1, 0, 0), (34, .iastore, 1, 0, 0), (35, .iinc 1 (-1), 3, 0, 0), 
  (38, .goto (-29), 3, 9, 0), (41, .iload_n 1, 1, 0, 0), (42, .ifCond .lt 13, 3, 55, 0), (45, .aload_n 0, 1, 0, 0), (46, .getfield 98, 3, 9, 39), (49, .iload_n 1, 1, 0, 0), (50, .dup2, 1, 0, 0), (51, .iaload, 1, 0, 0), 
  (52, .iconst 1, 1, 0, 0), (53, .iadd, 1, 0, 0), (54, .iastore, 1, 0, 0), (55, .iload_n 1, 1, 0, 0), (56, .ifCond .lt 7, 3, 63, 0), (59, .iconst 1, 1, 0, 0), (60, .goto 4, 3, 64, 0), (63, .iconst 0, 1, 0, 0), 
  (64, .ireturn, 1, 0, 0)]
abbrev hX9_nextLine : xHd := (yX9_nextLine, cX9_nextLine, 2, some .boolean)
theorem kX9_nextLine : xck hX9_nextLine rX9_nextLine = true := by decide +kernel
def rX9_match : List xRow := [(0, .iload_n 2, 1, 0, 0), (1, .iconst (-1), 1, 0, 0), (2, .if_icmp .eq 14, 3, 16, 0), (5, .aload_n 0, 1, 0, 0), (6, .iload_n 2, 1, 0, 0), (7, .invokevirtual 244, 3, 166, 1), (10, .ifCond .ne 6, 3, 16, 0), (13, .bipush (-2), 2, 0, 0), 
  (15, .ireturn, 1, 0, 0), (16, .iload_n 1, 1, 0, 0), (17, .i2l, 1, 0, 0), (18, .lconst 1, 1, 0, 0), (19, .ldc2_w 323, 3, 20, 0), (22, .invokestatic 109, 3, 130, 3), (25, .ifCond .ne 6, 3, 31, 0), (28, .bipush (-3), 2, 0, 0), 
  (30, .ireturn, 1, 0, 0), (31, .iconst 0, 1, 0, 0), (32, .istore_n 3, 1, 0, 0), (33, .iload_n 3, 1, 0, 0), (34, .bipush 8, 2, 0, 0), (36, .aload_n 0, 1, 0, 0), (37, .getfield 7, 3, 9, 0), (40, .iconst 1, 1, 0, 0), 
  (41, .iaload, 1, 0, 0), (42, .imul, 1, 0, 0), (43, .if_icmp .ge 45, 3, 88, 0), (46, .aload_n 0, 1, 0, 0), (47, .getfield 95, 3, 9, 38), (50, .iload_n 3, 1, 0, 0), (51, .iload_n 3, 1, 0, 0), (52, .bipush 8, 2, 0, 0), 
  (54, .irem, 1, 0, 0), (55, .aload_n 0, 1, 0, 0), (56, .getfield 7, 3, 9, 0), (59, .iconst 0, 1, 0, 0), (60, .iaload, 1, 0, 0), (61, .if_icmp .ge 19, 3, 80, 0), (64, .aload_n 0, 1, 0, 0), (65, .iload_n 3, 1, 0, 0), 
  (66, .bipush 8, 2, 0, 0), (68, .idiv, 1, 0, 0), (69, .iload_n 3, 1, 0, 0), (70, .bipush 8, 2, 0, 0), (72, .irem, 1, 0, 0), (73, .iload_n 1, 1, 0, 0), (74, .invokevirtual 325, 3, 199, 3), (77, .goto 4, 3, 81, 0), 
  (80, .iconst 0, 1, 0, 0), (81, .iastore, 1, 0, 0), (82, .iinc 3 1, 3, 0, 0), (85, .goto (-52), 3, 33, 0), (88, .iconst 0, 1, 0, 0), (89, .istore_n 3, 1, 0, 0), (90, .iload_n 3, 1, 0, 0), (91, .iconst 4, 1, 0, 0), 
  (92, .if_icmp .ge 16, 3, 108, 0), (95, .aload_n 0, 1, 0, 0), (96, .getfield 98, 3, 9, 39), (99, .iload_n 3, 1, 0, 0), (100, .iconst 0, 1, 0, 0), (101, .iastore, 1, 0, 0), (102, .iinc 3 1, 3, 0, 0), (105, .goto (-15), 3, 90, 0), 
  (108, .iconst (-1), 1, 0, 0), (109, .istore_n 3, 1, 0, 0), (110, .iconst 1, 1, 0, 0), (111, .istore 4, 2, 0, 0), (113, .iload 4, 2, 0, 0), (115, .ifCond .eq 56, 3, 171, 0), (118, .aload_n 0, 1, 0, 0), (119, .invokevirtual 328, 3, 201, 0), 
  (122, .istore 5, 2, 0, 0), (124, .iload 5, 2, 0, 0), (126, .iload_n 3, 1, 0, 0), (127, .if_icmp .le 35, 3, 162, 0), (130, .iload 5, 2, 0, 0), (132, .istore_n 3, 1, 0, 0), (133, .iconst 0, 1, 0, 0), (134, .istore 6, 2, 0, 0), 
  (136, .iload 6, 2, 0, 0), (138, .iconst 4, 1, 0, 0), (139, .if_icmp .ge 23, 3, 162, 0), (142, .aload_n 0, 1, 0, 0), (143, .getfield 101, 3, 9, 40), (146, .iload 6, 2, 0, 0), (148, .aload_n 0, 1, 0, 0), (149, .getfield 98, 3, 9, 39), 
  (152, .iload 6, 2, 0, 0), (154, .iaload, 1, 0, 0), (155, .iastore, 1, 0, 0), (156, .iinc 6 1, 3, 0, 0), (159, .goto (-23), 3, 136, 0), (162, .aload_n 0, 1, 0, 0), (163, .invokevirtual 331, 3, 202, 0), (166, .istore 4, 2, 0, 0), 
  (168, .goto (-55), 3, 113, 0), (171, .iload_n 2, 1, 0, 0), (172, .iconst (-1), 1, 0, 0), (173, .if_icmp .ne 7, 3, 180, 0), (176, .iload_n 3, 1, 0, 0), (177, .goto 28, 3, 205, 0), (180, .aload_n 0, 1, 0, 0), (181, .getfield 101, 3, 9, 40), 
  (184, .iload_n 2, 1, 0, 0), (185, .iaload, 1, 0, 0), (186, .aload_n 0, 1, 0, 0), (187, .getfield 7, 3, 9, 0), (190, .iconst 0, 1, 0, 0), (191, .iaload, 1, 0, 0), (192, .if_icmp .ne 7, 3, 199, 0), (195, .iconst (-1), 1, 0, 0), 
  (196, .goto 9, 3, 205, 0), (199, .aload_n 0, 1, 0, 0), (200, .getfield 101, 3, 9, 40), (203, .iload_n 2, 1, 0, 0), (204, .iaload, 1, 0, 0), (205, .ireturn, 1, 0, 0)]
abbrev hX9_match : xHd := (yX9_match, cX9_match, 7, some .int)
theorem kX9_match : xck hX9_match rX9_match = true := by decide +kernel
def rX9_clean : List xRow := [(0, .aload_n 0, 1, 0, 0), (1, .iload_n 1, 1, 0, 0), (2, .invokevirtual 234, 3, 165, 1), (5, .ifCond .eq 10, 3, 15, 0), (8, .iload_n 2, 1, 0, 0), (9, .invokestatic 293, 3, 167, 1), (12, .ifCond .ne 6, 3, 18, 0), (15, .bipush (-2), 2, 0, 0), 
  (17, .ireturn, 1, 0, 0), (18, .iload_n 3, 1, 0, 0), (19, .i2l, 1, 0, 0), (20, .lconst 1, 1, 0, 0), (21, .ldc2_w 323, 3, 20, 0), (24, .invokestatic 109, 3, 130, 3), (27, .ifCond .ne 6, 3, 33, 0), (30, .bipush (-3), 2, 0, 0), 
  (32, .ireturn, 1, 0, 0), (33, .iconst (-1), 1, 0, 0), (34, .istore 4, 2, 0, 0), (36, .aload_n 0, 1, 0, 0), (37, .getfield 7, 3, 9, 0), (40, .iconst 3, 1, 0, 0), (41, .iaload, 1, 0, 0), (42, .iconst 1, 1, 0, 0), 
  (43, .iload_n 1, 1, 0, 0), (44, .ishl, 1, 0, 0), (45, .ior, 1, 0, 0), (46, .istore 5, 2, 0, 0), (48, .iconst 0, 1, 0, 0), (49, .istore 6, 2, 0, 0), (51, .iload 6, 2, 0, 0), (53, .iconst 1, 1, 0, 0), 
  (54, .aload_n 0, 1, 0, 0), (55, .getfield 7, 3, 9, 0), (58, .iconst 0, 1, 0, 0), (59, .iaload, 1, 0, 0), (60, .ishl, 1, 0, 0), (61, .if_icmp .ge 86, 3, 147, 0), (64, .iload 6, 2, 0, 0), (66, .iload 5, 2, 0, 0), 
  (68, .iand, 1, 0, 0), (69, .ifCond .ne 72, 3, 141, 0), (72, .iload 4, 2, 0, 0), (74, .iconst (-1), 1, 0, 0), (75, .if_icmp .eq 16, 3, 91, 0), (78, .iload 6, 2, 0, 0), (80, .invokestatic 320, 3, 132, 1), (83, .iload 4, 2, 0, 0), 
  (85, .invokestatic 320, 3, 132, 1), (88, .if_icmp .ge 53, 3, 141, 0), (91, .aload_n 0, 1, 0, 0), (92, .invokevirtual 298, 3, 182, 0), (95, .aload_n 0, 1, 0, 0), (96, .getfield 7, 3, 9, 0), (99, .sipush 1299, 3, 0, 0), (102, .dup2, 1, 0, 0), 
  (103, .iaload, 1, 0, 0), (104, .iload 6, 2, 0, 0), (106, .ior, 1, 0, 0), (107, .iastore, 1, 0, 0), (108, .aload_n 0, 1, 0, 0), (109, .iload_n 3, 1, 0, 0), (110, .invokevirtual 301, 3, 183, 1), (113, .aload_n 0, 1, 0, 0), 
  (114, .getfield 7, 3, 9, 0), (117, .sipush 1316, 3, 0, 0), (120, .bipush 10, 2, 0, 0), (122, .iload_n 1, 1, 0, 0), (123, .imul, 1, 0, 0), (124, .iadd, 1, 0, 0), (125, .iload_n 2, 1, 0, 0), (126, .iadd, 1, 0, 0), 
  (127, .iaload, 1, 0, 0), (128, .iconst 5, 1, 0, 0), (129, .if_icmp .ge 8, 3, 137, 0), (132, .iload 6, 2, 0, 0), (134, .goto 5, 3, 139, 0), (137, .iload 4, 2, 0, 0), (139, .istore 4, 2, 0, 0), (141, .iinc 6 1, 3, 0, 0), 
  (144, .goto (-93), 3, 51, 0), (147, .iload 4, 2, 0, 0), (149, .ireturn, 1, 0, 0)]
abbrev hX9_clean : xHd := (yX9_clean, cX9_clean, 7, some .int)
theorem kX9_clean : xck hX9_clean rX9_clean = true := by decide +kernel
def rX9_of : List xRow := [(0, .iload_n 1, 1, 0, 0), (1, .i2l, 1, 0, 0), (2, .lconst 0, 1, 0, 0), (3, .ldc2_w 309, 3, 3, 0), (6, .invokestatic 109, 3, 130, 3), (9, .ifCond .ne 6, 3, 15, 0), (12, .bipush (-2), 2, 0, 0), (14, .ireturn, 1, 0, 0), 
  (15, .iload_n 2, 1, 0, 0), (16, .i2l, 1, 0, 0), (17, .lconst 0, 1, 0, 0), (18, .lconst 1, 1, 0, 0), (19, .invokestatic 109, 3, 130, 3), (22, .ifCond .ne 6, 3, 28, 0), (25, .bipush (-3), 2, 0, 0), (27, .ireturn, 1, 0, 0), 
  (28, .aload_n 0, 1, 0, 0), (29, .getfield 217, 3, 9, 9), (32, .ifCond .ne 6, 3, 38, 0), (35, .bipush (-4), 2, 0, 0), (37, .ireturn, 1, 0, 0), (38, .aload_n 0, 1, 0, 0), (39, .invokevirtual 298, 3, 182, 0), (42, .aload_n 0, 1, 0, 0), 
  (43, .iconst 1, 1, 0, 0), (44, .invokevirtual 301, 3, 183, 1), (47, .iconst 0, 1, 0, 0), (48, .istore_n 3, 1, 0, 0), (49, .iload_n 3, 1, 0, 0), (50, .sipush 203, 3, 0, 0), (53, .if_icmp .ge 24, 3, 77, 0), (56, .aload_n 0, 1, 0, 0), 
  (57, .getfield 83, 3, 9, 34), (60, .iload_n 3, 1, 0, 0), (61, .iload_n 3, 1, 0, 0), (62, .ifCond .ne 7, 3, 69, 0), (65, .iconst 1, 1, 0, 0), (66, .goto 4, 3, 70, 0), (69, .iconst 0, 1, 0, 0), (70, .bastore, 1, 0, 0), 
  (71, .iinc 3 1, 3, 0, 0), (74, .goto (-25), 3, 49, 0), (77, .aload_n 0, 1, 0, 0), (78, .invokevirtual 229, 3, 159, 0), (81, .aload_n 0, 1, 0, 0), (82, .getfield 83, 3, 9, 34), (85, .aload_n 0, 1, 0, 0), (86, .getfield 217, 3, 9, 9), 
  (89, .baload, 1, 0, 0), (90, .ifCond .eq 7, 3, 97, 0), (93, .iconst 0, 1, 0, 0), (94, .goto 4, 3, 98, 0), (97, .iconst (-1), 1, 0, 0), (98, .istore_n 3, 1, 0, 0), (99, .iconst 0, 1, 0, 0), (100, .istore 4, 2, 0, 0), 
  (102, .iload 4, 2, 0, 0), (104, .aload_n 0, 1, 0, 0), (105, .getfield 92, 3, 9, 37), (108, .iload_n 1, 1, 0, 0), (109, .iaload, 1, 0, 0), (110, .if_icmp .ge 46, 3, 156, 0), (113, .aload_n 0, 1, 0, 0), (114, .aload_n 0, 1, 0, 0), 
  (115, .getfield 89, 3, 9, 36), (118, .bipush 16, 2, 0, 0), (120, .iload_n 1, 1, 0, 0), (121, .imul, 1, 0, 0), (122, .iload 4, 2, 0, 0), (124, .iadd, 1, 0, 0), (125, .iaload, 1, 0, 0), (126, .invokevirtual 334, 3, 160, 1), 
  (129, .aload_n 0, 1, 0, 0), (130, .getfield 83, 3, 9, 34), (133, .aload_n 0, 1, 0, 0), (134, .getfield 217, 3, 9, 9), (137, .baload, 1, 0, 0), (138, .ifCond .eq 10, 3, 148, 0), (141, .iload 4, 2, 0, 0), (143, .iconst 1, 1, 0, 0), 
  (144, .iadd, 1, 0, 0), (145, .goto 4, 3, 149, 0), (148, .iload_n 3, 1, 0, 0), (149, .istore_n 3, 1, 0, 0), (150, .iinc 4 1, 3, 0, 0), (153, .goto (-51), 3, 102, 0), (156, .iload_n 2, 1, 0, 0), (157, .iconst 1, 1, 0, 0), 
  (158, .if_icmp .ne 7, 3, 165, 0), (161, .iload_n 3, 1, 0, 0), (162, .goto 18, 3, 180, 0), (165, .iload_n 3, 1, 0, 0), (166, .aload_n 0, 1, 0, 0), (167, .getfield 92, 3, 9, 37), (170, .iload_n 1, 1, 0, 0), (171, .iaload, 1, 0, 0), 
  (172, .if_icmp .ne 7, 3, 179, 0), (175, .iconst 1, 1, 0, 0), (176, .goto 4, 3, 180, 0), (179, .iconst 0, 1, 0, 0), (180, .ireturn, 1, 0, 0)]
abbrev hX9_of : xHd := (yX9_of, cX9_of, 5, some .int)
theorem kX9_of : xck hX9_of rX9_of = true := by decide +kernel
def rX9_left : List xRow := [(0, .iload_n 1, 1, 0, 0), (1, .invokestatic 293, 3, 167, 1), (4, .ifCond .ne 6, 3, 10, 0), (7, .bipush (-2), 2, 0, 0), (9, .ireturn, 1, 0, 0), (10, .iload_n 2, 1, 0, 0), (11, .i2l, 1, 0, 0), (12, .lconst 0, 1, 0, 0), 
  (13, .ldc2_w 337, 3, 10, 0), (16, .invokestatic 109, 3, 130, 3), (19, .ifCond .eq 13, 3, 32, 0), (22, .iload_n 3, 1, 0, 0), (23, .i2l, 1, 0, 0), (24, .lconst 0, 1, 0, 0), (25, .lconst 1, 1, 0, 0), (26, .invokestatic 109, 3, 130, 3), 
  (29, .ifCond .ne 6, 3, 35, 0), (32, .bipush (-3), 2, 0, 0), (34, .ireturn, 1, 0, 0), (35, .iconst 1, 1, 0, 0), (36, .istore 4, 2, 0, 0), (38, .iconst 1, 1, 0, 0), (39, .istore 5, 2, 0, 0), (41, .iconst 0, 1, 0, 0), 
  (42, .istore 6, 2, 0, 0), (44, .iload 6, 2, 0, 0), (46, .aload_n 0, 1, 0, 0), (47, .getfield 7, 3, 9, 0), (50, .iconst 0, 1, 0, 0), (51, .iaload, 1, 0, 0), (52, .if_icmp .ge 53, 3, 105, 0), (55, .aload_n 0, 1, 0, 0), 
  (56, .iconst 0, 1, 0, 0), (57, .iload 6, 2, 0, 0), (59, .invokevirtual 241, 3, 171, 2), (62, .iload_n 1, 1, 0, 0), (63, .invokestatic 165, 3, 131, 2), (66, .istore 7, 2, 0, 0), (68, .iload 4, 2, 0, 0), (70, .iload 7, 2, 0, 0), 
  (72, .ifCond .eq 7, 3, 79, 0), (75, .iload_n 2, 1, 0, 0), (76, .goto 4, 3, 80, 0), (79, .iconst 1, 1, 0, 0), (80, .imul, 1, 0, 0), (81, .istore 4, 2, 0, 0), (83, .iload 5, 2, 0, 0), (85, .iload 7, 2, 0, 0), 
  (87, .ifCond .eq 8, 3, 95, 0), (90, .bipush 10, 2, 0, 0), (92, .goto 4, 3, 96, 0), (95, .iconst 1, 1, 0, 0), (96, .imul, 1, 0, 0), (97, .istore 5, 2, 0, 0), (99, .iinc 6 1, 3, 0, 0), (102, .goto (-58), 3, 44, 0), 
  (105, .iload 5, 2, 0, 0), (107, .iload 4, 2, 0, 0), (109, .isub, 1, 0, 0), (110, .istore 6, 2, 0, 0), (112, .iload 5, 2, 0, 0), (114, .istore 7, 2, 0, 0), (116, .iload 7, 2, 0, 0), (118, .ifCond .eq 21, 3, 139, 0), 
  (121, .iload 6, 2, 0, 0), (123, .iload 7, 2, 0, 0), (125, .irem, 1, 0, 0), (126, .istore 8, 2, 0, 0), (128, .iload 7, 2, 0, 0), (130, .istore 6, 2, 0, 0), (132, .iload 8, 2, 0, 0), (134, .istore 7, 2, 0, 0), 
  (136, .goto (-20), 3, 116, 0), (139, .iload_n 3, 1, 0, 0), (140, .ifCond .ne 14, 3, 154, 0), (143, .iload 5, 2, 0, 0), (145, .iload 4, 2, 0, 0), (147, .isub, 1, 0, 0), (148, .iload 6, 2, 0, 0), (150, .idiv, 1, 0, 0), 
  (151, .goto 8, 3, 159, 0), (154, .iload 5, 2, 0, 0), (156, .iload 6, 2, 0, 0), (158, .idiv, 1, 0, 0), (159, .ireturn, 1, 0, 0)]
abbrev hX9_left : xHd := (yX9_left, cX9_left, 9, some .int)
theorem kX9_left : xck hX9_left rX9_left = true := by decide +kernel
def rX9_seen : List xRow := [(0, .iload_n 1, 1, 0, 0), (1, .i2l, 1, 0, 0), (2, .lconst 0, 1, 0, 0), (3, .ldc2_w 309, 3, 3, 0), (6, .invokestatic 109, 3, 130, 3), (9, .ifCond .eq 15, 3, 24, 0), (12, .iload_n 3, 1, 0, 0), (13, .iconst (-1), 1, 0, 0), 
  (14, .if_icmp .eq 13, 3, 27, 0), (17, .iload_n 3, 1, 0, 0), (18, .invokestatic 293, 3, 167, 1), (21, .ifCond .ne 6, 3, 27, 0), (24, .bipush (-2), 2, 0, 0), (26, .ireturn, 1, 0, 0), (27, .iload_n 2, 1, 0, 0), (28, .i2l, 1, 0, 0), 
  (29, .lconst 0, 1, 0, 0), (30, .ldc2_w 232, 3, 9, 0), (33, .invokestatic 109, 3, 130, 3), (36, .ifCond .ne 6, 3, 42, 0), (39, .bipush (-3), 2, 0, 0), (41, .ireturn, 1, 0, 0), (42, .aload_n 0, 1, 0, 0), (43, .getfield 209, 3, 9, 5), 
  (46, .bipush 6, 2, 0, 0), (48, .if_icmp .ne 6, 3, 54, 0), (51, .bipush (-5), 2, 0, 0), (53, .ireturn, 1, 0, 0), (54, .aload_n 0, 1, 0, 0), (55, .getfield 20, 3, 9, 6), (58, .aload_n 0, 1, 0, 0), (59, .getfield 209, 3, 9, 5), 
  (62, .iload_n 1, 1, 0, 0), (63, .iastore, 1, 0, 0), (64, .aload_n 0, 1, 0, 0), (65, .getfield 23, 3, 9, 7), (68, .aload_n 0, 1, 0, 0), (69, .getfield 209, 3, 9, 5), (72, .iload_n 2, 1, 0, 0), (73, .iastore, 1, 0, 0), 
  (74, .aload_n 0, 1, 0, 0), (75, .getfield 26, 3, 9, 8), (78, .aload_n 0, 1, 0, 0), (79, .getfield 209, 3, 9, 5), (82, .iload_n 3, 1, 0, 0), (83, .iastore, 1, 0, 0), (84, .aload_n 0, 1, 0, 0), (85, .dup, 1, 0, 0), 
  (86, .getfield 209, 3, 9, 5), (89, .iconst 1, 1, 0, 0), (90, .iadd, 1, 0, 0), (91, .putfield 209, 3, 9, 5), (94, .aload_n 0, 1, 0, 0), (95, .getfield 209, 3, 9, 5), (98, .ireturn, 1, 0, 0)]
abbrev hX9_seen : xHd := (yX9_seen, cX9_seen, 4, some .int)
theorem kX9_seen : xck hX9_seen rX9_seen = true := by decide +kernel
def rX9_forget : List xRow := [(0, .aload_n 0, 1, 0, 0), (1, .getfield 209, 3, 9, 5), (4, .istore_n 1, 1, 0, 0), (5, .aload_n 0, 1, 0, 0), (6, .iconst 0, 1, 0, 0), (7, .putfield 209, 3, 9, 5), (10, .iload_n 1, 1, 0, 0), (11, .ireturn, 1, 0, 0)]
abbrev hX9_forget : xHd := (yX9_forget, cX9_forget, 2, some .int)
theorem kX9_forget : xck hX9_forget rX9_forget = true := by decide +kernel
def rX9_kinds : List xRow := [(0, .aload_n 0, 1, 0, 0), (1, .iload_n 1, 1, 0, 0), (2, .invokevirtual 234, 3, 165, 1), (5, .ifCond .ne 6, 3, 11, 0), (8, .bipush (-2), 2, 0, 0), (10, .ireturn, 1, 0, 0), (11, .iconst 0, 1, 0, 0), (12, .istore_n 2, 1, 0, 0), 
  (13, .iconst 0, 1, 0, 0), (14, .istore_n 3, 1, 0, 0), (15, .iload_n 3, 1, 0, 0), (16, .iconst 5, 1, 0, 0), (17, .if_icmp .ge 105, 3, 122, 0), (20, .aload_n 0, 1, 0, 0), (21, .invokevirtual 298, 3, 182, 0), (24, .aload_n 0, 1, 0, 0), 
  (25, .getfield 7, 3, 9, 0), (28, .sipush 1300, 3, 0, 0), (31, .iload_n 1, 1, 0, 0), (32, .iadd, 1, 0, 0), (33, .iload_n 3, 1, 0, 0), (34, .iastore, 1, 0, 0), (35, .aload_n 0, 1, 0, 0), (36, .iconst 1, 1, 0, 0), 
  (37, .invokevirtual 301, 3, 183, 1), (40, .iconst 1, 1, 0, 0), (41, .istore 4, 2, 0, 0), (43, .iconst 0, 1, 0, 0), (44, .istore 5, 2, 0, 0), (46, .iload 5, 2, 0, 0), (48, .aload_n 0, 1, 0, 0), (49, .getfield 209, 3, 9, 5), 
  (52, .if_icmp .ge 49, 3, 101, 0), (55, .iload 4, 2, 0, 0), (57, .ifCond .eq 35, 3, 92, 0), (60, .aload_n 0, 1, 0, 0), (61, .aload_n 0, 1, 0, 0), (62, .getfield 20, 3, 9, 6), (65, .iload 5, 2, 0, 0), (67, .iaload, 1, 0, 0), 
  (68, .aload_n 0, 1, 0, 0), (69, .getfield 23, 3, 9, 7), (72, .iload 5, 2, 0, 0), (74, .iaload, 1, 0, 0), (75, .invokevirtual 317, 3, 196, 2), (78, .aload_n 0, 1, 0, 0), (79, .getfield 26, 3, 9, 8), (82, .iload 5, 2, 0, 0), 
  (84, .iaload, 1, 0, 0), (85, .if_icmp .ne 7, 3, 92, 0), (88, .iconst 1, 1, 0, 0), (89, .goto 4, 3, 93, 0), (92, .iconst 0, 1, 0, 0), (93, .istore 4, 2, 0, 0), (95, .iinc 5 1, 3, 0, 0), (98, .goto (-52), 3, 46, 0), 
  (101, .iload_n 2, 1, 0, 0), (102, .iload 4, 2, 0, 0), (104, .ifCond .eq 9, 3, 113, 0), (107, .iconst 1, 1, 0, 0), (108, .iload_n 3, 1, 0, 0), (109, .ishl, 1, 0, 0), (110, .goto 4, 3, 114, 0), (113, .iconst 0, 1, 0, 0), 
  (114, .ior, 1, 0, 0), (115, .istore_n 2, 1, 0, 0), (116, .iinc 3 1, 3, 0, 0), (119, .goto (-104), 3, 15, 0), (122, .iload_n 2, 1, 0, 0), (123, .ireturn, 1, 0, 0)]
abbrev hX9_kinds : xHd := (yX9_kinds, cX9_kinds, 6, some .int)
theorem kX9_kinds : xck hX9_kinds rX9_kinds = true := by decide +kernel
def rX9_isReel : List xRow := [(0, .iload_n 0, 1, 0, 0), (1, .i2l, 1, 0, 0), (2, .lconst 0, 1, 0, 0), (3, .ldc2_w 339, 3, 2, 0), (6, .invokestatic 109, 3, 130, 3), (9, .ireturn, 1, 0, 0)]
abbrev hX9_isReel : xHd := (yX9_isReel, cX9_isReel, 1, some .boolean)
theorem kX9_isReel : xck hX9_isReel rX9_isReel = true := by decide +kernel
def rX9_reel : List xRow := [(0, .iload_n 1, 1, 0, 0), (1, .invokestatic 341, 3, 210, 1), (4, .ifCond .ne 6, 3, 10, 0), (7, .bipush (-2), 2, 0, 0), (9, .ireturn, 1, 0, 0), (10, .iload_n 2, 1, 0, 0), (11, .i2l, 1, 0, 0), (12, .lconst 0, 1, 0, 0), 
  (13, .ldc2_w 309, 3, 3, 0), (16, .invokestatic 109, 3, 130, 3), (19, .ifCond .eq 9, 3, 28, 0), (22, .iload_n 3, 1, 0, 0), (23, .bipush 12, 2, 0, 0), (25, .if_icmp .le 6, 3, 31, 0), (28, .bipush (-3), 2, 0, 0), (30, .ireturn, 1, 0, 0), 
  (31, .iload_n 3, 1, 0, 0), (32, .ifCond .ge 6, 3, 38, 0), (35, .bipush (-16), 2, 0, 0), (37, .ireturn, 1, 0, 0), (38, .aload_n 0, 1, 0, 0), (39, .getfield 38, 3, 9, 13), (42, .iload_n 1, 1, 0, 0), (43, .iload_n 3, 1, 0, 0), 
  (44, .iastore, 1, 0, 0), (45, .aload_n 0, 1, 0, 0), (46, .getfield 41, 3, 9, 14), (49, .iload_n 1, 1, 0, 0), (50, .iload_n 2, 1, 0, 0), (51, .iastore, 1, 0, 0), (52, .iconst 0, 1, 0, 0), (53, .istore 4, 2, 0, 0), 
  (55, .iload 4, 2, 0, 0), (57, .bipush 12, 2, 0, 0), (59, .if_icmp .ge 31, 3, 90, 0), (62, .aload_n 0, 1, 0, 0), (63, .getfield 44, 3, 9, 15), (66, .bipush 12, 2, 0, 0), (68, .iload_n 1, 1, 0, 0), (69, .imul, 1, 0, 0), 
  (70, .iload 4, 2, 0, 0), (72, .iadd, 1, 0, 0), (73, .iload_n 2, 1, 0, 0), (74, .iconst 3, 1, 0, 0), (75, .if_icmp .ne 7, 3, 82, 0), (78, .iconst (-1), 1, 0, 0), (79, .goto 4, 3, 83, 0), (82, .iconst 0, 1, 0, 0), 
  (83, .iastore, 1, 0, 0), (84, .iinc 4 1, 3, 0, 0), (87, .goto (-32), 3, 55, 0), (90, .iload_n 3, 1, 0, 0), (91, .ireturn, 1, 0, 0)]
abbrev hX9_reel : xHd := (yX9_reel, cX9_reel, 5, some .int)
theorem kX9_reel : xck hX9_reel rX9_reel = true := by decide +kernel
def rX9_noPlace : List xRow := [(0, .aload_n 0, 1, 0, 0), (1, .getfield 38, 3, 9, 13), (4, .iload_n 1, 1, 0, 0), (5, .iaload, 1, 0, 0), (6, .ifCond .ge 6, 3, 12, 0), (9, .bipush (-11), 2, 0, 0), (11, .ireturn, 1, 0, 0), (12, .aload_n 0, 1, 0, 0), 
  (13, .getfield 41, 3, 9, 14), (16, .iload_n 1, 1, 0, 0), (17, .iaload, 1, 0, 0), (18, .iload_n 2, 1, 0, 0), (19, .if_icmp .eq 6, 3, 25, 0), (22, .bipush (-12), 2, 0, 0), (24, .ireturn, 1, 0, 0), (25, .iload_n 3, 1, 0, 0), 
  (26, .i2l, 1, 0, 0), (27, .lconst 0, 1, 0, 0), (28, .aload_n 0, 1, 0, 0), (29, .getfield 38, 3, 9, 13), (32, .iload_n 1, 1, 0, 0), (33, .iaload, 1, 0, 0), (34, .iconst 1, 1, 0, 0), (35, .isub, 1, 0, 0), 
  (36, .i2l, 1, 0, 0), (37, .invokestatic 109, 3, 130, 3), (40, .ifCond .eq 7, 3, 47, 0), (43, .iconst 0, 1, 0, 0), (44, .goto 5, 3, 49, 0), (47, .bipush (-14), 2, 0, 0), (49, .ireturn, 1, 0, 0)]
abbrev hX9_noPlace : xHd := (yX9_noPlace, cX9_noPlace, 4, some .int)
theorem kX9_noPlace : xck hX9_noPlace rX9_noPlace = true := by decide +kernel
def rX9_record : List xRow := [(0, .iload_n 1, 1, 0, 0), (1, .invokestatic 341, 3, 210, 1), (4, .ifCond .eq 23, 3, 27, 0), (7, .iload_n 2, 1, 0, 0), (8, .iconst 3, 1, 0, 0), (9, .if_icmp .ne 21, 3, 30, 0), (12, .iload 4, 2, 0, 0), (14, .iconst (-1), 1, 0, 0), 
  (15, .if_icmp .eq 15, 3, 30, 0), (18, .aload_n 0, 1, 0, 0), (19, .iload 4, 2, 0, 0), (21, .invokevirtual 234, 3, 165, 1), (24, .ifCond .ne 6, 3, 30, 0), (27, .bipush (-2), 2, 0, 0), (29, .ireturn, 1, 0, 0), (30, .iload_n 2, 1, 0, 0), 
  (31, .i2l, 1, 0, 0), (32, .lconst 0, 1, 0, 0), (33, .ldc2_w 309, 3, 3, 0), (36, .invokestatic 109, 3, 130, 3), (39, .ifCond .ne 6, 3, 45, 0), (42, .bipush (-3), 2, 0, 0), (44, .ireturn, 1, 0, 0), (45, .aload_n 0, 1, 0, 0), 
  (46, .iload_n 1, 1, 0, 0), (47, .iload_n 2, 1, 0, 0), (48, .iload_n 3, 1, 0, 0), (49, .invokevirtual 344, 3, 212, 3), (52, .istore 5, 2, 0, 0), (54, .iload 5, 2, 0, 0), (56, .ifCond .eq 6, 3, 62, 0), (59, .iload 5, 2, 0, 0), 
  (61, .ireturn, 1, 0, 0), (62, .iload_n 2, 1, 0, 0), (63, .ifCond .ne 9, 3, 72, 0), (66, .iload 4, 2, 0, 0), (68, .i2b, 1, 0, 0), (69, .goto 16, 3, 85, 0), (72, .iload_n 2, 1, 0, 0), (73, .iconst 1, 1, 0, 0), 
  (74, .if_icmp .ne 9, 3, 83, 0), (77, .iload 4, 2, 0, 0), (79, .i2s, 1, 0, 0), (80, .goto 5, 3, 85, 0), (83, .iload 4, 2, 0, 0), (85, .istore 6, 2, 0, 0), (87, .aload_n 0, 1, 0, 0), (88, .getfield 44, 3, 9, 15), 
  (91, .bipush 12, 2, 0, 0), (93, .iload_n 1, 1, 0, 0), (94, .imul, 1, 0, 0), (95, .iload_n 3, 1, 0, 0), (96, .iadd, 1, 0, 0), (97, .iload 6, 2, 0, 0), (99, .iastore, 1, 0, 0), (100, .iload_n 2, 1, 0, 0), 
  (101, .iconst 2, 1, 0, 0), (102, .if_icmp .ge 12, 3, 114, 0), (105, .iload 6, 2, 0, 0), (107, .ldc_w 347, 3, 100000, 0), (110, .iadd, 1, 0, 0), (111, .goto 14, 3, 125, 0), (114, .iload_n 2, 1, 0, 0), (115, .iconst 2, 1, 0, 0), 
  (116, .if_icmp .ne 7, 3, 123, 0), (119, .iconst 1, 1, 0, 0), (120, .goto 5, 3, 125, 0), (123, .iload 4, 2, 0, 0), (125, .ireturn, 1, 0, 0)]
abbrev hX9_record : xHd := (yX9_record, cX9_record, 7, some .int)
theorem kX9_record : xck hX9_record rX9_record = true := by decide +kernel
def rX9_play : List xRow := [(0, .iload_n 1, 1, 0, 0), (1, .invokestatic 341, 3, 210, 1), (4, .ifCond .ne 6, 3, 10, 0), (7, .bipush (-2), 2, 0, 0), (9, .ireturn, 1, 0, 0), (10, .iload_n 2, 1, 0, 0), (11, .i2l, 1, 0, 0), (12, .lconst 0, 1, 0, 0), 
  (13, .ldc2_w 309, 3, 3, 0), (16, .invokestatic 109, 3, 130, 3), (19, .ifCond .ne 6, 3, 25, 0), (22, .bipush (-3), 2, 0, 0), (24, .ireturn, 1, 0, 0), (25, .aload_n 0, 1, 0, 0), (26, .iload_n 1, 1, 0, 0), (27, .iload_n 2, 1, 0, 0), 
  (28, .iload_n 3, 1, 0, 0), (29, .invokevirtual 344, 3, 212, 3), (32, .istore 4, 2, 0, 0), (34, .iload 4, 2, 0, 0), (36, .ifCond .eq 6, 3, 42, 0), (39, .iload 4, 2, 0, 0), (41, .ireturn, 1, 0, 0), (42, .aload_n 0, 1, 0, 0), 
  (43, .getfield 44, 3, 9, 15), (46, .bipush 12, 2, 0, 0), (48, .iload_n 1, 1, 0, 0), (49, .imul, 1, 0, 0), (50, .iload_n 3, 1, 0, 0), (51, .iadd, 1, 0, 0), (52, .iaload, 1, 0, 0), (53, .istore 5, 2, 0, 0), 
  (55, .iload_n 2, 1, 0, 0), (56, .iconst 3, 1, 0, 0), (57, .if_icmp .ne 17, 3, 74, 0), (60, .iload 5, 2, 0, 0), (62, .iconst (-1), 1, 0, 0), (63, .if_icmp .ne 8, 3, 71, 0), (66, .bipush (-15), 2, 0, 0), (68, .goto 5, 3, 73, 0), 
  (71, .iload 5, 2, 0, 0), (73, .ireturn, 1, 0, 0), (74, .iload_n 2, 1, 0, 0), (75, .iconst 2, 1, 0, 0), (76, .if_icmp .ge 12, 3, 88, 0), (79, .iload 5, 2, 0, 0), (81, .ldc_w 347, 3, 100000, 0), (84, .iadd, 1, 0, 0), 
  (85, .goto 30, 3, 115, 0), (88, .iload 5, 2, 0, 0), (90, .ifCond .ge 19, 3, 109, 0), (93, .iload 5, 2, 0, 0), (95, .iconst 1, 1, 0, 0), (96, .iadd, 1, 0, 0), (97, .ineg, 1, 0, 0), (98, .ldc_w 348, 3, 1000003, 0), 
  (101, .irem, 1, 0, 0), (102, .ldc_w 349, 3, 2000000, 0), (105, .iadd, 1, 0, 0), (106, .goto 9, 3, 115, 0), (109, .iload 5, 2, 0, 0), (111, .ldc_w 348, 3, 1000003, 0), (114, .irem, 1, 0, 0), (115, .ireturn, 1, 0, 0)]
abbrev hX9_play : xHd := (yX9_play, cX9_play, 6, some .int)
theorem kX9_play : xck hX9_play rX9_play = true := by decide +kernel
def rX9_isSpan : List xRow := [(0, .iload_n 2, 1, 0, 0), (1, .ifCond .lt 27, 3, 28, 0), (4, .iload_n 3, 1, 0, 0), (5, .ifCond .lt 23, 3, 28, 0), (8, .iload_n 2, 1, 0, 0), (9, .i2l, 1, 0, 0), (10, .iload_n 3, 1, 0, 0), (11, .i2l, 1, 0, 0), 
  (12, .ladd, 1, 0, 0), (13, .aload_n 0, 1, 0, 0), (14, .getfield 38, 3, 9, 13), (17, .iload_n 1, 1, 0, 0), (18, .iaload, 1, 0, 0), (19, .i2l, 1, 0, 0), (20, .lcmp, 1, 0, 0), (21, .ifCond .gt 7, 3, 28, 0), 
  (24, .iconst 1, 1, 0, 0), (25, .goto 4, 3, 29, 0), (28, .iconst 0, 1, 0, 0), (29, .ireturn, 1, 0, 0)]
abbrev hX9_isSpan : xHd := (yX9_isSpan, cX9_isSpan, 4, some .boolean)
theorem kX9_isSpan : xck hX9_isSpan rX9_isSpan = true := by decide +kernel
def rX9_splice : List xRow := [(0, .iload_n 1, 1, 0, 0), (1, .invokestatic 341, 3, 210, 1), (4, .ifCond .eq 10, 3, 14, 0), (7, .iload_n 3, 1, 0, 0), (8, .invokestatic 341, 3, 210, 1), (11, .ifCond .ne 6, 3, 17, 0), (14, .bipush (-2), 2, 0, 0), (16, .ireturn, 1, 0, 0), 
  (17, .aload_n 0, 1, 0, 0), (18, .getfield 38, 3, 9, 13), (21, .iload_n 1, 1, 0, 0), (22, .iaload, 1, 0, 0), (23, .ifCond .lt 12, 3, 35, 0), (26, .aload_n 0, 1, 0, 0), (27, .getfield 38, 3, 9, 13), (30, .iload_n 3, 1, 0, 0), 
  (31, .iaload, 1, 0, 0), (32, .ifCond .ge 6, 3, 38, 0), (35, .bipush (-11), 2, 0, 0), (37, .ireturn, 1, 0, 0), (38, .aload_n 0, 1, 0, 0), (39, .getfield 41, 3, 9, 14), (42, .iload_n 1, 1, 0, 0), (43, .iaload, 1, 0, 0), 
  (44, .aload_n 0, 1, 0, 0), (45, .getfield 41, 3, 9, 14), (48, .iload_n 3, 1, 0, 0), (49, .iaload, 1, 0, 0), (50, .if_icmp .eq 6, 3, 56, 0), (53, .bipush (-13), 2, 0, 0), (55, .ireturn, 1, 0, 0), (56, .aload_n 0, 1, 0, 0), 
  (57, .iload_n 1, 1, 0, 0), (58, .iload_n 2, 1, 0, 0), (59, .iload 5, 2, 0, 0), (61, .invokevirtual 350, 3, 215, 3), (64, .ifCond .eq 15, 3, 79, 0), (67, .aload_n 0, 1, 0, 0), (68, .iload_n 3, 1, 0, 0), (69, .iload 4, 2, 0, 0), 
  (71, .iload 5, 2, 0, 0), (73, .invokevirtual 350, 3, 215, 3), (76, .ifCond .ne 6, 3, 82, 0), (79, .bipush (-14), 2, 0, 0), (81, .ireturn, 1, 0, 0), (82, .iconst 0, 1, 0, 0), (83, .istore 6, 2, 0, 0), (85, .iload 6, 2, 0, 0), 
  (87, .iload 5, 2, 0, 0), (89, .if_icmp .ge 30, 3, 119, 0), (92, .aload_n 0, 1, 0, 0), (93, .getfield 104, 3, 9, 41), (96, .iload 6, 2, 0, 0), (98, .aload_n 0, 1, 0, 0), (99, .getfield 44, 3, 9, 15), (102, .bipush 12, 2, 0, 0), 
  (104, .iload_n 1, 1, 0, 0), (105, .imul, 1, 0, 0), (106, .iload_n 2, 1, 0, 0), (107, .iadd, 1, 0, 0), (108, .iload 6, 2, 0, 0), (110, .iadd, 1, 0, 0), (111, .iaload, 1, 0, 0), (112, .iastore, 1, 0, 0), 
  (113, .iinc 6 1, 3, 0, 0), (116, .goto (-31), 3, 85, 0), (119, .iconst 0, 1, 0, 0), (120, .istore 6, 2, 0, 0), (122, .iload 6, 2, 0, 0), (124, .iload 5, 2, 0, 0), (126, .if_icmp .ge 31, 3, 157, 0), (129, .aload_n 0, 1, 0, 0), 
  (130, .getfield 44, 3, 9, 15), (133, .bipush 12, 2, 0, 0), (135, .iload_n 3, 1, 0, 0), (136, .imul, 1, 0, 0), (137, .iload 4, 2, 0, 0), (139, .iadd, 1, 0, 0), (140, .iload 6, 2, 0, 0), (142, .iadd, 1, 0, 0), 
  (143, .aload_n 0, 1, 0, 0), (144, .getfield 104, 3, 9, 41), (147, .iload 6, 2, 0, 0), (149, .iaload, 1, 0, 0), (150, .iastore, 1, 0, 0), (151, .iinc 6 1, 3, 0, 0), (154, .goto (-32), 3, 122, 0), (157, .iload 5, 2, 0, 0), 
  (159, .ireturn, 1, 0, 0)]
abbrev hX9_splice : xHd := (yX9_splice, cX9_splice, 7, some .int)
theorem kX9_splice : xck hX9_splice rX9_splice = true := by decide +kernel
def rX9_drop : List xRow := [(0, .iload_n 1, 1, 0, 0), (1, .invokestatic 341, 3, 210, 1), (4, .ifCond .ne 6, 3, 10, 0), (7, .bipush (-2), 2, 0, 0), (9, .ireturn, 1, 0, 0), (10, .aload_n 0, 1, 0, 0), (11, .getfield 38, 3, 9, 13), (14, .iload_n 1, 1, 0, 0), 
  (15, .iaload, 1, 0, 0), (16, .ifCond .ge 6, 3, 22, 0), (19, .bipush (-11), 2, 0, 0), (21, .ireturn, 1, 0, 0), (22, .aload_n 0, 1, 0, 0), (23, .getfield 38, 3, 9, 13), (26, .iload_n 1, 1, 0, 0), (27, .iaload, 1, 0, 0), 
  (28, .istore_n 2, 1, 0, 0), (29, .aload_n 0, 1, 0, 0), (30, .getfield 38, 3, 9, 13), (33, .iload_n 1, 1, 0, 0), (34, .iconst (-1), 1, 0, 0), (35, .iastore, 1, 0, 0), (36, .iload_n 2, 1, 0, 0), (37, .ireturn, 1, 0, 0)]
abbrev hX9_drop : xHd := (yX9_drop, cX9_drop, 3, some .int)
theorem kX9_drop : xck hX9_drop rX9_drop = true := by decide +kernel
def rX9_menWords : List xRow := [(0, .iconst 0, 1, 0, 0), (1, .istore_n 1, 1, 0, 0), (2, .iconst 0, 1, 0, 0), (3, .istore_n 2, 1, 0, 0), (4, .iload_n 2, 1, 0, 0), (5, .aload_n 0, 1, 0, 0), (6, .getfield 7, 3, 9, 0), (9, .iconst 1, 1, 0, 0), 
  (10, .iaload, 1, 0, 0), (11, .if_icmp .ge 24, 3, 35, 0), (14, .iload_n 1, 1, 0, 0), (15, .aload_n 0, 1, 0, 0), (16, .getfield 7, 3, 9, 0), (19, .bipush 100, 2, 0, 0), (21, .iload_n 2, 1, 0, 0), (22, .iadd, 1, 0, 0), 
  (23, .iaload, 1, 0, 0), (24, .invokestatic 320, 3, 132, 1), (27, .iadd, 1, 0, 0), (28, .istore_n 1, 1, 0, 0), (29, .iinc 2 1, 3, 0, 0), (32, .goto (-28), 3, 4, 0), (35, .iload_n 1, 1, 0, 0), (36, .ireturn, 1, 0, 0)]
abbrev hX9_menWords : xHd := (yX9_menWords, cX9_menWords, 3, some .int)
theorem kX9_menWords : xck hX9_menWords rX9_menWords = true := by decide +kernel
def rX9_allWellKnown : List xRow := [(0, .iconst 0, 1, 0, 0), (1, .istore_n 1, 1, 0, 0), (2, .iconst 0, 1, 0, 0), (3, .istore_n 2, 1, 0, 0), (4, .iload_n 2, 1, 0, 0), (5, .aload_n 0, 1, 0, 0), (6, .getfield 7, 3, 9, 0), (9, .iconst 0, 1, 0, 0), 
  (10, .iaload, 1, 0, 0), (11, .if_icmp .ge 18, 3, 29, 0), (14, .iload_n 1, 1, 0, 0), (15, .aload_n 0, 1, 0, 0), (16, .iconst 0, 1, 0, 0), (17, .iload_n 2, 1, 0, 0), (18, .invokevirtual 241, 3, 171, 2), (21, .ior, 1, 0, 0), 
  (22, .istore_n 1, 1, 0, 0), (23, .iinc 2 1, 3, 0, 0), (26, .goto (-22), 3, 4, 0), (29, .iload_n 1, 1, 0, 0), (30, .ireturn, 1, 0, 0)]
abbrev hX9_allWellKnown : xHd := (yX9_allWellKnown, cX9_allWellKnown, 3, some .int)
theorem kX9_allWellKnown : xck hX9_allWellKnown rX9_allWellKnown = true := by decide +kernel
def rX9_reelsThere : List xRow := [(0, .iconst 0, 1, 0, 0), (1, .istore_n 1, 1, 0, 0), (2, .iconst 0, 1, 0, 0), (3, .istore_n 2, 1, 0, 0), (4, .iload_n 2, 1, 0, 0), (5, .iconst 3, 1, 0, 0), (6, .if_icmp .ge 26, 3, 32, 0), (9, .iload_n 1, 1, 0, 0), 
  (10, .aload_n 0, 1, 0, 0), (11, .getfield 38, 3, 9, 13), (14, .iload_n 2, 1, 0, 0), (15, .iaload, 1, 0, 0), (16, .ifCond .ge 7, 3, 23, 0), (19, .iconst 0, 1, 0, 0), (20, .goto 4, 3, 24, 0), (23, .iconst 1, 1, 0, 0), 
  (24, .iadd, 1, 0, 0), (25, .istore_n 1, 1, 0, 0), (26, .iinc 2 1, 3, 0, 0), (29, .goto (-25), 3, 4, 0), (32, .iload_n 1, 1, 0, 0), (33, .ireturn, 1, 0, 0)]
abbrev hX9_reelsThere : xHd := (yX9_reelsThere, cX9_reelsThere, 3, some .int)
theorem kX9_reelsThere : xck hX9_reelsThere rX9_reelsThere = true := by decide +kernel
def rX9_count : List xRow := [(0, .iload_n 1, 1, 0, 0), (1, .tableswitch 113 0 9 #[55, 62, 69, 76, 83, 88, 93, 98, 103, 108], 55, 0, 0), (56, .aload_n 0, 1, 0, 0), (57, .getfield 7, 3, 9, 0), (60, .iconst 0, 1, 0, 0), (61, .iaload, 1, 0, 0), (62, .ireturn, 1, 0, 0), (63, .aload_n 0, 1, 0, 0), 
  (64, .getfield 7, 3, 9, 0), (67, .iconst 1, 1, 0, 0), (68, .iaload, 1, 0, 0), (69, .ireturn, 1, 0, 0), (70, .aload_n 0, 1, 0, 0), (71, .getfield 7, 3, 9, 0), (74, .iconst 2, 1, 0, 0), (75, .iaload, 1, 0, 0), 
  (76, .ireturn, 1, 0, 0), (77, .aload_n 0, 1, 0, 0), (78, .getfield 7, 3, 9, 0), (81, .iconst 3, 1, 0, 0), (82, .iaload, 1, 0, 0), (83, .ireturn, 1, 0, 0), (84, .aload_n 0, 1, 0, 0), (85, .invokevirtual 354, 3, 218, 0), 
  (88, .ireturn, 1, 0, 0), (89, .aload_n 0, 1, 0, 0), (90, .getfield 209, 3, 9, 5), (93, .ireturn, 1, 0, 0), (94, .aload_n 0, 1, 0, 0), (95, .invokevirtual 357, 3, 220, 0), (98, .ireturn, 1, 0, 0), (99, .aload_n 0, 1, 0, 0), 
  (100, .getfield 206, 3, 9, 1), (103, .ireturn, 1, 0, 0), (104, .aload_n 0, 1, 0, 0), (105, .getfield 113, 3, 9, 4), (108, .ireturn, 1, 0, 0), (109, .aload_n 0, 1, 0, 0), (110, .invokevirtual 360, 3, 219, 0), (113, .ireturn, 1, 0, 0), 
  (114, .bipush (-3), 2, 0, 0), (116, .ireturn, 1, 0, 0)]
abbrev hX9_count : xHd := (yX9_count, cX9_count, 2, some .int)
theorem kX9_count : xck hX9_count rX9_count = true := by decide +kernel
end
section
def rJ6_numberOfTrailingZeros_0f7a4 : List xRow := [(0, .iload_n 0, 1, 0, 0), (1, .iconst (-1), 1, 0, 0), (2, .ixor, 1, 0, 0), (3, .iload_n 0, 1, 0, 0), (4, .iconst 1, 1, 0, 0), (5, .isub, 1, 0, 0), (6, .iand, 1, 0, 0), (7, .istore_n 0, 1, 0, 0), 
  (8, .iload_n 0, 1, 0, 0), (9, .ifCond .gt 8, 3, 17, 0), (12, .iload_n 0, 1, 0, 0), (13, .bipush 32, 2, 0, 0), (15, .iand, 1, 0, 0), (16, .ireturn, 1, 0, 0), (17, .iconst 1, 1, 0, 0), (18, .istore_n 1, 1, 0, 0), 
  (19, .iload_n 0, 1, 0, 0), (20, .ldc_w 264, 3, 65536, 0), (23, .if_icmp .le 11, 3, 34, 0), (26, .iinc 1 16, 3, 0, 0), (29, .iload_n 0, 1, 0, 0), (30, .bipush 16, 2, 0, 0), (32, .iushr, 1, 0, 0), (33, .istore_n 0, 1, 0, 0), 
  (34, .iload_n 0, 1, 0, 0), (35, .sipush 256, 3, 0, 0), (38, .if_icmp .le 11, 3, 49, 0), (41, .iinc 1 8, 3, 0, 0), (44, .iload_n 0, 1, 0, 0), (45, .bipush 8, 2, 0, 0), (47, .iushr, 1, 0, 0), (48, .istore_n 0, 1, 0, 0), 
  (49, .iload_n 0, 1, 0, 0), (50, .bipush 16, 2, 0, 0), (52, .if_icmp .le 10, 3, 62, 0), (55, .iinc 1 4, 3, 0, 0), (58, .iload_n 0, 1, 0, 0), (59, .iconst 4, 1, 0, 0), (60, .iushr, 1, 0, 0), (61, .istore_n 0, 1, 0, 0), 
  (62, .iload_n 0, 1, 0, 0), (63, .iconst 4, 1, 0, 0), (64, .if_icmp .le 10, 3, 74, 0), (67, .iinc 1 2, 3, 0, 0), (70, .iload_n 0, 1, 0, 0), (71, .iconst 2, 1, 0, 0), (72, .iushr, 1, 0, 0), (73, .istore_n 0, 1, 0, 0), 
  (74, .iload_n 1, 1, 0, 0), (75, .iload_n 0, 1, 0, 0), (76, .iconst 1, 1, 0, 0), (77, .iushr, 1, 0, 0), (78, .iadd, 1, 0, 0), (79, .ireturn, 1, 0, 0)]
abbrev hJ6_numberOfTrailingZeros_0f7a4 : xHd := (yJ6_numberOfTrailingZeros_0f7a4, cJ6_numberOfTrailingZeros_0f7a4, 2, some .int)
theorem kJ6_numberOfTrailingZeros_0f7a4 : xck hJ6_numberOfTrailingZeros_0f7a4 rJ6_numberOfTrailingZeros_0f7a4 = true := by decide +kernel
def rJ6_bitCount_0f7a4 : List xRow := [(0, .iload_n 0, 1, 0, 0), (1, .iload_n 0, 1, 0, 0), (2, .iconst 1, 1, 0, 0), (3, .iushr, 1, 0, 0), (4, .ldc_w 265, 3, 1431655765, 0), (7, .iand, 1, 0, 0), (8, .isub, 1, 0, 0), (9, .istore_n 0, 1, 0, 0), 
  (10, .iload_n 0, 1, 0, 0), (11, .ldc_w 266, 3, 858993459, 0), (14, .iand, 1, 0, 0), (15, .iload_n 0, 1, 0, 0), (16, .iconst 2, 1, 0, 0), (17, .iushr, 1, 0, 0), (18, .ldc_w 266, 3, 858993459, 0), (21, .iand, 1, 0, 0), 
  (22, .iadd, 1, 0, 0), (23, .istore_n 0, 1, 0, 0), (24, .iload_n 0, 1, 0, 0), (25, .iload_n 0, 1, 0, 0), (26, .iconst 4, 1, 0, 0), (27, .iushr, 1, 0, 0), (28, .iadd, 1, 0, 0), (29, .ldc_w 267, 3, 252645135, 0), 
  (32, .iand, 1, 0, 0), (33, .istore_n 0, 1, 0, 0), (34, .iload_n 0, 1, 0, 0), (35, .iload_n 0, 1, 0, 0), (36, .bipush 8, 2, 0, 0), (38, .iushr, 1, 0, 0), (39, .iadd, 1, 0, 0), (40, .istore_n 0, 1, 0, 0), 
  (41, .iload_n 0, 1, 0, 0), (42, .iload_n 0, 1, 0, 0), (43, .bipush 16, 2, 0, 0), (45, .iushr, 1, 0, 0), (46, .iadd, 1, 0, 0), (47, .istore_n 0, 1, 0, 0), (48, .iload_n 0, 1, 0, 0), (49, .bipush 63, 2, 0, 0), 
  (51, .iand, 1, 0, 0), (52, .ireturn, 1, 0, 0)]
abbrev hJ6_bitCount_0f7a4 : xHd := (yJ6_bitCount_0f7a4, cJ6_bitCount_0f7a4, 1, some .int)
theorem kJ6_bitCount_0f7a4 : xck hJ6_bitCount_0f7a4 rJ6_bitCount_0f7a4 = true := by decide +kernel
def rJ9_max_7cf53 : List xRow := [(0, .iload_n 0, 1, 0, 0), (1, .iload_n 1, 1, 0, 0), (2, .if_icmp .lt 7, 3, 9, 0), (5, .iload_n 0, 1, 0, 0), (6, .goto 4, 3, 10, 0), (9, .iload_n 1, 1, 0, 0), (10, .ireturn, 1, 0, 0)]
abbrev hJ9_max_7cf53 : xHd := (yJ9_max_7cf53, cJ9_max_7cf53, 2, some .int)
theorem kJ9_max_7cf53 : xck hJ9_max_7cf53 rJ9_max_7cf53 = true := by decide +kernel
def rJ9_min_7cf53 : List xRow := [(0, .iload_n 0, 1, 0, 0), (1, .iload_n 1, 1, 0, 0), (2, .if_icmp .gt 7, 3, 9, 0), (5, .iload_n 0, 1, 0, 0), (6, .goto 4, 3, 10, 0), (9, .iload_n 1, 1, 0, 0), (10, .ireturn, 1, 0, 0)]
abbrev hJ9_min_7cf53 : xHd := (yJ9_min_7cf53, cJ9_min_7cf53, 2, some .int)
theorem kJ9_min_7cf53 : xck hJ9_min_7cf53 rJ9_min_7cf53 = true := by decide +kernel
def rJ0_length_8abf5 : List xRow := [(0, .aload_n 0, 1, 0, 0), (1, .getfield 9, 3, 10, 0), (4, .arraylength, 1, 0, 0), (5, .aload_n 0, 1, 0, 0), (6, .invokevirtual 335, 3, 228, 0), (9, .ishr, 1, 0, 0), (10, .ireturn, 1, 0, 0)]
abbrev hJ0_length_8abf5 : xHd := (yJ0_length_8abf5, cJ0_length_8abf5, 1, some .int)
theorem kJ0_length_8abf5 : xck hJ0_length_8abf5 rJ0_length_8abf5 = true := by decide +kernel
def rJ0_charAt_5068e : List xRow := [(0, .aload_n 0, 1, 0, 0), (1, .invokevirtual 492, 3, 229, 0), (4, .ifCond .eq 12, 3, 16, 0), (7, .aload_n 0, 1, 0, 0), (8, .getfield 9, 3, 10, 0), (11, .iload_n 1, 1, 0, 0), (12, .invokestatic 495, 3, 231, 2), (15, .ireturn, 1, 0, 0), 
  (16, .aload_n 0, 1, 0, 0), (17, .getfield 9, 3, 10, 0), (20, .iload_n 1, 1, 0, 0), (21, .invokestatic 498, 3, 234, 2), (24, .ireturn, 1, 0, 0)]
abbrev hJ0_charAt_5068e : xHd := (yJ0_charAt_5068e, cJ0_charAt_5068e, 2, some .char)
theorem kJ0_charAt_5068e : xck hJ0_charAt_5068e rJ0_charAt_5068e = true := by decide +kernel
def rJ0_coder_7d493 : List xRow := [(0, .getstatic 38, 3, 0, 0), (3, .ifCond .eq 10, 3, 13, 0), (6, .aload_n 0, 1, 0, 0), (7, .getfield 15, 3, 10, 1), (10, .goto 4, 3, 14, 0), (13, .iconst 1, 1, 0, 0), (14, .ireturn, 1, 0, 0)]
abbrev hJ0_coder_7d493 : xHd := (yJ0_coder_7d493, cJ0_coder_7d493, 1, some .byte)
theorem kJ0_coder_7d493 : xck hJ0_coder_7d493 rJ0_coder_7d493 = true := by decide +kernel
def rJ0_isLatin1_aae02 : List xRow := [(0, .getstatic 38, 3, 0, 0), (3, .ifCond .eq 14, 3, 17, 0), (6, .aload_n 0, 1, 0, 0), (7, .getfield 15, 3, 10, 1), (10, .ifCond .ne 7, 3, 17, 0), (13, .iconst 1, 1, 0, 0), (14, .goto 4, 3, 18, 0), (17, .iconst 0, 1, 0, 0), 
  (18, .ireturn, 1, 0, 0)]
abbrev hJ0_isLatin1_aae02 : xHd := (yJ0_isLatin1_aae02, cJ0_isLatin1_aae02, 1, some .boolean)
theorem kJ0_isLatin1_aae02 : xck hJ0_isLatin1_aae02 rJ0_isLatin1_aae02 = true := by decide +kernel
def rJ1_charAt_3b067 : List xRow := [(0, .iload_n 1, 1, 0, 0), (1, .aload_n 0, 1, 0, 0), (2, .arraylength, 1, 0, 0), (3, .invokestatic 9, 3, 230, 2), (6, .aload_n 0, 1, 0, 0), (7, .iload_n 1, 1, 0, 0), (8, .baload, 1, 0, 0), (9, .sipush 255, 3, 0, 0), 
  (12, .iand, 1, 0, 0), (13, .i2c, 1, 0, 0), (14, .ireturn, 1, 0, 0)]
abbrev hJ1_charAt_3b067 : xHd := (yJ1_charAt_3b067, cJ1_charAt_3b067, 2, some .char)
theorem kJ1_charAt_3b067 : xck hJ1_charAt_3b067 rJ1_charAt_3b067 = true := by decide +kernel
def rL_law : List xRow := [(0, .new 7, 3, 0, 0), (3, .dup, 1, 0, 0), (4, .invokespecial 9, 3, 79, 0), (7, .astore_n 1, 1, 0, 0), (8, .new 10, 3, 0, 0), (11, .dup, 1, 0, 0), (12, .invokespecial 12, 3, 129, 0), (15, .astore_n 2, 1, 0, 0), 
  (16, .iconst 0, 1, 0, 0), (17, .istore_n 3, 1, 0, 0), (18, .iload_n 3, 1, 0, 0), (19, .aload_n 0, 1, 0, 0), (20, .arraylength, 1, 0, 0), (21, .bipush 6, 2, 0, 0), (23, .isub, 1, 0, 0), (24, .if_icmp .gt 1218, 3, 1242, 0), 
  (27, .aload_n 0, 1, 0, 0), (28, .iload_n 3, 1, 0, 0), (29, .iaload, 1, 0, 0), (30, .bipush 63, 2, 0, 0), (32, .iand, 1, 0, 0), (33, .tableswitch 1203 0 33 #[151, 174, 187, 210, 223, 236, 269, 302, 345, 378, 401, 434, 457, 490, 513, 546, 559, 582, 605, 638, 681, 724, 757, 800, 833, 876, 919, 932, 955, 998, 1051, 1094, 1157, 1180], 151, 0, 0), (184, .aload_n 1, 1, 0, 0), (185, .aload_n 0, 1, 0, 0), 
  (186, .iload_n 3, 1, 0, 0), (187, .iconst 1, 1, 0, 0), (188, .iadd, 1, 0, 0), (189, .iaload, 1, 0, 0), (190, .invokevirtual 13, 3, 80, 1), (193, .aload_n 2, 1, 0, 0), (194, .aload_n 0, 1, 0, 0), (195, .iload_n 3, 1, 0, 0), 
  (196, .iconst 1, 1, 0, 0), (197, .iadd, 1, 0, 0), (198, .iaload, 1, 0, 0), (199, .invokevirtual 17, 3, 133, 1), (202, .if_icmp .eq 1034, 3, 1236, 0), (205, .iconst 0, 1, 0, 0), (206, .ireturn, 1, 0, 0), (207, .aload_n 1, 1, 0, 0), 
  (208, .invokevirtual 18, 3, 81, 0), (211, .aload_n 2, 1, 0, 0), (212, .invokevirtual 22, 3, 134, 0), (215, .if_icmp .eq 1021, 3, 1236, 0), (218, .iconst 0, 1, 0, 0), (219, .ireturn, 1, 0, 0), (220, .aload_n 1, 1, 0, 0), (221, .aload_n 0, 1, 0, 0), 
  (222, .iload_n 3, 1, 0, 0), (223, .iconst 1, 1, 0, 0), (224, .iadd, 1, 0, 0), (225, .iaload, 1, 0, 0), (226, .invokevirtual 23, 3, 82, 1), (229, .aload_n 2, 1, 0, 0), (230, .aload_n 0, 1, 0, 0), (231, .iload_n 3, 1, 0, 0), 
  (232, .iconst 1, 1, 0, 0), (233, .iadd, 1, 0, 0), (234, .iaload, 1, 0, 0), (235, .invokevirtual 26, 3, 154, 1), (238, .if_icmp .eq 998, 3, 1236, 0), (241, .iconst 0, 1, 0, 0), (242, .ireturn, 1, 0, 0), (243, .aload_n 1, 1, 0, 0), 
  (244, .invokevirtual 27, 3, 83, 0), (247, .aload_n 2, 1, 0, 0), (248, .invokevirtual 30, 3, 152, 0), (251, .if_icmp .eq 985, 3, 1236, 0), (254, .iconst 0, 1, 0, 0), (255, .ireturn, 1, 0, 0), (256, .aload_n 1, 1, 0, 0), (257, .invokevirtual 31, 3, 84, 0), 
  (260, .aload_n 2, 1, 0, 0), (261, .invokevirtual 34, 3, 156, 0), (264, .if_icmp .eq 972, 3, 1236, 0), (267, .iconst 0, 1, 0, 0), (268, .ireturn, 1, 0, 0), (269, .aload_n 1, 1, 0, 0), (270, .aload_n 0, 1, 0, 0), (271, .iload_n 3, 1, 0, 0), 
  (272, .iconst 1, 1, 0, 0), (273, .iadd, 1, 0, 0), (274, .iaload, 1, 0, 0), (275, .aload_n 0, 1, 0, 0), (276, .iload_n 3, 1, 0, 0), (277, .iconst 2, 1, 0, 0), (278, .iadd, 1, 0, 0), (279, .iaload, 1, 0, 0), 
  (280, .invokevirtual 35, 3, 85, 2), (283, .aload_n 2, 1, 0, 0), (284, .aload_n 0, 1, 0, 0), (285, .iload_n 3, 1, 0, 0), (286, .iconst 1, 1, 0, 0), (287, .iadd, 1, 0, 0), (288, .iaload, 1, 0, 0), (289, .aload_n 0, 1, 0, 0), 
  (290, .iload_n 3, 1, 0, 0), (291, .iconst 2, 1, 0, 0), (292, .iadd, 1, 0, 0), (293, .iaload, 1, 0, 0), (294, .invokevirtual 39, 3, 172, 2), (297, .if_icmp .eq 939, 3, 1236, 0), (300, .iconst 0, 1, 0, 0), (301, .ireturn, 1, 0, 0), 
  (302, .aload_n 1, 1, 0, 0), (303, .aload_n 0, 1, 0, 0), (304, .iload_n 3, 1, 0, 0), (305, .iconst 1, 1, 0, 0), (306, .iadd, 1, 0, 0), (307, .iaload, 1, 0, 0), (308, .aload_n 0, 1, 0, 0), (309, .iload_n 3, 1, 0, 0), 
  (310, .iconst 2, 1, 0, 0), (311, .iadd, 1, 0, 0), (312, .iaload, 1, 0, 0), (313, .invokevirtual 40, 3, 86, 2), (316, .aload_n 2, 1, 0, 0), (317, .aload_n 0, 1, 0, 0), (318, .iload_n 3, 1, 0, 0), (319, .iconst 1, 1, 0, 0), 
  (320, .iadd, 1, 0, 0), (321, .iaload, 1, 0, 0), (322, .aload_n 0, 1, 0, 0), (323, .iload_n 3, 1, 0, 0), (324, .iconst 2, 1, 0, 0), (325, .iadd, 1, 0, 0), (326, .iaload, 1, 0, 0), (327, .invokevirtual 43, 3, 173, 2), 
  (330, .if_icmp .eq 906, 3, 1236, 0), (333, .iconst 0, 1, 0, 0), (334, .ireturn, 1, 0, 0), (335, .aload_n 1, 1, 0, 0), (336, .aload_n 0, 1, 0, 0), (337, .iload_n 3, 1, 0, 0), (338, .iconst 1, 1, 0, 0), (339, .iadd, 1, 0, 0), 
  (340, .iaload, 1, 0, 0), (341, .aload_n 0, 1, 0, 0), (342, .iload_n 3, 1, 0, 0), (343, .iconst 2, 1, 0, 0), (344, .iadd, 1, 0, 0), (345, .iaload, 1, 0, 0), (346, .aload_n 0, 1, 0, 0), (347, .iload_n 3, 1, 0, 0), 
  (348, .iconst 3, 1, 0, 0), (349, .iadd, 1, 0, 0), (350, .iaload, 1, 0, 0), (351, .invokevirtual 44, 3, 87, 3), (354, .aload_n 2, 1, 0, 0), (355, .aload_n 0, 1, 0, 0), (356, .iload_n 3, 1, 0, 0), (357, .iconst 1, 1, 0, 0), 
  (358, .iadd, 1, 0, 0), (359, .iaload, 1, 0, 0), (360, .aload_n 0, 1, 0, 0), (361, .iload_n 3, 1, 0, 0), (362, .iconst 2, 1, 0, 0), (363, .iadd, 1, 0, 0), (364, .iaload, 1, 0, 0), (365, .aload_n 0, 1, 0, 0), 
  (366, .iload_n 3, 1, 0, 0), (367, .iconst 3, 1, 0, 0), (368, .iadd, 1, 0, 0), (369, .iaload, 1, 0, 0), (370, .invokevirtual 48, 3, 184, 3), (373, .if_icmp .eq 863, 3, 1236, 0), (376, .iconst 0, 1, 0, 0), (377, .ireturn, 1, 0, 0), 
  (378, .aload_n 1, 1, 0, 0), (379, .aload_n 0, 1, 0, 0), (380, .iload_n 3, 1, 0, 0), (381, .iconst 1, 1, 0, 0), (382, .iadd, 1, 0, 0), (383, .iaload, 1, 0, 0), (384, .aload_n 0, 1, 0, 0), (385, .iload_n 3, 1, 0, 0), 
  (386, .iconst 2, 1, 0, 0), (387, .iadd, 1, 0, 0), (388, .iaload, 1, 0, 0), (389, .invokevirtual 49, 3, 88, 2), (392, .aload_n 2, 1, 0, 0), (393, .aload_n 0, 1, 0, 0), (394, .iload_n 3, 1, 0, 0), (395, .iconst 1, 1, 0, 0), 
  (396, .iadd, 1, 0, 0), (397, .iaload, 1, 0, 0), (398, .aload_n 0, 1, 0, 0), (399, .iload_n 3, 1, 0, 0), (400, .iconst 2, 1, 0, 0), (401, .iadd, 1, 0, 0), (402, .iaload, 1, 0, 0), (403, .invokevirtual 52, 3, 174, 2), 
  (406, .if_icmp .eq 830, 3, 1236, 0), (409, .iconst 0, 1, 0, 0), (410, .ireturn, 1, 0, 0), (411, .aload_n 1, 1, 0, 0), (412, .aload_n 0, 1, 0, 0), (413, .iload_n 3, 1, 0, 0), (414, .iconst 1, 1, 0, 0), (415, .iadd, 1, 0, 0), 
  (416, .iaload, 1, 0, 0), (417, .invokevirtual 53, 3, 89, 1), (420, .aload_n 2, 1, 0, 0), (421, .aload_n 0, 1, 0, 0), (422, .iload_n 3, 1, 0, 0), (423, .iconst 1, 1, 0, 0), (424, .iadd, 1, 0, 0), (425, .iaload, 1, 0, 0), 
  (426, .invokevirtual 56, 3, 186, 1), (429, .if_icmp .eq 807, 3, 1236, 0), (432, .iconst 0, 1, 0, 0), (433, .ireturn, 1, 0, 0), (434, .aload_n 1, 1, 0, 0), (435, .aload_n 0, 1, 0, 0), (436, .iload_n 3, 1, 0, 0), (437, .iconst 1, 1, 0, 0), 
  (438, .iadd, 1, 0, 0), (439, .iaload, 1, 0, 0), (440, .aload_n 0, 1, 0, 0), (441, .iload_n 3, 1, 0, 0), (442, .iconst 2, 1, 0, 0), (443, .iadd, 1, 0, 0), (444, .iaload, 1, 0, 0), (445, .invokevirtual 57, 3, 90, 2), 
  (448, .aload_n 2, 1, 0, 0), (449, .aload_n 0, 1, 0, 0), (450, .iload_n 3, 1, 0, 0), (451, .iconst 1, 1, 0, 0), (452, .iadd, 1, 0, 0), (453, .iaload, 1, 0, 0), (454, .aload_n 0, 1, 0, 0), (455, .iload_n 3, 1, 0, 0), 
  (456, .iconst 2, 1, 0, 0), (457, .iadd, 1, 0, 0), (458, .iaload, 1, 0, 0), (459, .invokevirtual 60, 3, 187, 2), (462, .if_icmp .eq 774, 3, 1236, 0), (465, .iconst 0, 1, 0, 0), (466, .ireturn, 1, 0, 0), (467, .aload_n 1, 1, 0, 0), 
  (468, .aload_n 0, 1, 0, 0), (469, .iload_n 3, 1, 0, 0), (470, .iconst 1, 1, 0, 0), (471, .iadd, 1, 0, 0), (472, .iaload, 1, 0, 0), (473, .invokevirtual 61, 3, 91, 1), (476, .aload_n 2, 1, 0, 0), (477, .aload_n 0, 1, 0, 0), 
  (478, .iload_n 3, 1, 0, 0), (479, .iconst 1, 1, 0, 0), (480, .iadd, 1, 0, 0), (481, .iaload, 1, 0, 0), (482, .invokevirtual 64, 3, 188, 1), (485, .if_icmp .eq 751, 3, 1236, 0), (488, .iconst 0, 1, 0, 0), (489, .ireturn, 1, 0, 0), 
  (490, .aload_n 1, 1, 0, 0), (491, .aload_n 0, 1, 0, 0), (492, .iload_n 3, 1, 0, 0), (493, .iconst 1, 1, 0, 0), (494, .iadd, 1, 0, 0), (495, .iaload, 1, 0, 0), (496, .aload_n 0, 1, 0, 0), (497, .iload_n 3, 1, 0, 0), 
  (498, .iconst 2, 1, 0, 0), (499, .iadd, 1, 0, 0), (500, .iaload, 1, 0, 0), (501, .invokevirtual 65, 3, 92, 2), (504, .aload_n 2, 1, 0, 0), (505, .aload_n 0, 1, 0, 0), (506, .iload_n 3, 1, 0, 0), (507, .iconst 1, 1, 0, 0), 
  (508, .iadd, 1, 0, 0), (509, .iaload, 1, 0, 0), (510, .aload_n 0, 1, 0, 0), (511, .iload_n 3, 1, 0, 0), (512, .iconst 2, 1, 0, 0), (513, .iadd, 1, 0, 0), (514, .iaload, 1, 0, 0), (515, .invokevirtual 68, 3, 189, 2), 
  (518, .if_icmp .eq 718, 3, 1236, 0), (521, .iconst 0, 1, 0, 0), (522, .ireturn, 1, 0, 0), (523, .aload_n 1, 1, 0, 0), (524, .aload_n 0, 1, 0, 0), (525, .iload_n 3, 1, 0, 0), (526, .iconst 1, 1, 0, 0), (527, .iadd, 1, 0, 0), 
  (528, .iaload, 1, 0, 0), (529, .invokevirtual 69, 3, 93, 1), (532, .aload_n 2, 1, 0, 0), (533, .aload_n 0, 1, 0, 0), (534, .iload_n 3, 1, 0, 0), (535, .iconst 1, 1, 0, 0), (536, .iadd, 1, 0, 0), (537, .iaload, 1, 0, 0), 
  (538, .invokevirtual 72, 3, 190, 1), (541, .if_icmp .eq 695, 3, 1236, 0), (544, .iconst 0, 1, 0, 0), (545, .ireturn, 1, 0, 0), (546, .aload_n 1, 1, 0, 0), (547, .aload_n 0, 1, 0, 0), (548, .iload_n 3, 1, 0, 0), (549, .iconst 1, 1, 0, 0), 
  (550, .iadd, 1, 0, 0), (551, .iaload, 1, 0, 0), (552, .aload_n 0, 1, 0, 0), (553, .iload_n 3, 1, 0, 0), (554, .iconst 2, 1, 0, 0), (555, .iadd, 1, 0, 0), (556, .iaload, 1, 0, 0), (557, .invokevirtual 73, 3, 94, 2), 
  (560, .aload_n 2, 1, 0, 0), (561, .aload_n 0, 1, 0, 0), (562, .iload_n 3, 1, 0, 0), (563, .iconst 1, 1, 0, 0), (564, .iadd, 1, 0, 0), (565, .iaload, 1, 0, 0), (566, .aload_n 0, 1, 0, 0), (567, .iload_n 3, 1, 0, 0), 
  (568, .iconst 2, 1, 0, 0), (569, .iadd, 1, 0, 0), (570, .iaload, 1, 0, 0), (571, .invokevirtual 76, 3, 192, 2), (574, .if_icmp .eq 662, 3, 1236, 0), (577, .iconst 0, 1, 0, 0), (578, .ireturn, 1, 0, 0), (579, .aload_n 1, 1, 0, 0), 
  (580, .invokevirtual 77, 3, 95, 0), (583, .aload_n 2, 1, 0, 0), (584, .invokevirtual 80, 3, 193, 0), (587, .if_icmp .eq 649, 3, 1236, 0), (590, .iconst 0, 1, 0, 0), (591, .ireturn, 1, 0, 0), (592, .aload_n 1, 1, 0, 0), (593, .aload_n 0, 1, 0, 0), 
  (594, .iload_n 3, 1, 0, 0), (595, .iconst 1, 1, 0, 0), (596, .iadd, 1, 0, 0), (597, .iaload, 1, 0, 0), (598, .invokevirtual 81, 3, 96, 1), (601, .aload_n 2, 1, 0, 0), (602, .aload_n 0, 1, 0, 0), (603, .iload_n 3, 1, 0, 0), 
  (604, .iconst 1, 1, 0, 0), (605, .iadd, 1, 0, 0), (606, .iaload, 1, 0, 0), (607, .invokevirtual 84, 3, 194, 1), (610, .if_icmp .eq 626, 3, 1236, 0), (613, .iconst 0, 1, 0, 0), (614, .ireturn, 1, 0, 0), (615, .aload_n 1, 1, 0, 0), 
  (616, .aload_n 0, 1, 0, 0), (617, .iload_n 3, 1, 0, 0), (618, .iconst 1, 1, 0, 0), (619, .iadd, 1, 0, 0), (620, .iaload, 1, 0, 0), (621, .invokevirtual 85, 3, 97, 1), (624, .aload_n 2, 1, 0, 0), (625, .aload_n 0, 1, 0, 0), 
  (626, .iload_n 3, 1, 0, 0), (627, .iconst 1, 1, 0, 0), (628, .iadd, 1, 0, 0), (629, .iaload, 1, 0, 0), (630, .invokevirtual 88, 3, 195, 1), (633, .if_icmp .eq 603, 3, 1236, 0), (636, .iconst 0, 1, 0, 0), (637, .ireturn, 1, 0, 0), 
  (638, .aload_n 1, 1, 0, 0), (639, .aload_n 0, 1, 0, 0), (640, .iload_n 3, 1, 0, 0), (641, .iconst 1, 1, 0, 0), (642, .iadd, 1, 0, 0), (643, .iaload, 1, 0, 0), (644, .aload_n 0, 1, 0, 0), (645, .iload_n 3, 1, 0, 0), 
  (646, .iconst 2, 1, 0, 0), (647, .iadd, 1, 0, 0), (648, .iaload, 1, 0, 0), (649, .invokevirtual 89, 3, 98, 2), (652, .aload_n 2, 1, 0, 0), (653, .aload_n 0, 1, 0, 0), (654, .iload_n 3, 1, 0, 0), (655, .iconst 1, 1, 0, 0), 
  (656, .iadd, 1, 0, 0), (657, .iaload, 1, 0, 0), (658, .aload_n 0, 1, 0, 0), (659, .iload_n 3, 1, 0, 0), (660, .iconst 2, 1, 0, 0), (661, .iadd, 1, 0, 0), (662, .iaload, 1, 0, 0), (663, .invokevirtual 92, 3, 197, 2), 
  (666, .if_icmp .eq 570, 3, 1236, 0), (669, .iconst 0, 1, 0, 0), (670, .ireturn, 1, 0, 0), (671, .aload_n 1, 1, 0, 0), (672, .aload_n 0, 1, 0, 0), (673, .iload_n 3, 1, 0, 0), (674, .iconst 1, 1, 0, 0), (675, .iadd, 1, 0, 0), 
  (676, .iaload, 1, 0, 0), (677, .aload_n 0, 1, 0, 0), (678, .iload_n 3, 1, 0, 0), (679, .iconst 2, 1, 0, 0), (680, .iadd, 1, 0, 0), (681, .iaload, 1, 0, 0), (682, .aload_n 0, 1, 0, 0), (683, .iload_n 3, 1, 0, 0), 
  (684, .iconst 3, 1, 0, 0), (685, .iadd, 1, 0, 0), (686, .iaload, 1, 0, 0), (687, .invokevirtual 93, 3, 99, 3), (690, .aload_n 2, 1, 0, 0), (691, .aload_n 0, 1, 0, 0), (692, .iload_n 3, 1, 0, 0), (693, .iconst 1, 1, 0, 0), 
  (694, .iadd, 1, 0, 0), (695, .iaload, 1, 0, 0), (696, .aload_n 0, 1, 0, 0), (697, .iload_n 3, 1, 0, 0), (698, .iconst 2, 1, 0, 0), (699, .iadd, 1, 0, 0), (700, .iaload, 1, 0, 0), (701, .aload_n 0, 1, 0, 0), 
  (702, .iload_n 3, 1, 0, 0), (703, .iconst 3, 1, 0, 0), (704, .iadd, 1, 0, 0), (705, .iaload, 1, 0, 0), (706, .invokevirtual 96, 3, 198, 3), (709, .if_icmp .eq 527, 3, 1236, 0), (712, .iconst 0, 1, 0, 0), (713, .ireturn, 1, 0, 0), 
  (714, .aload_n 1, 1, 0, 0), (715, .aload_n 0, 1, 0, 0), (716, .iload_n 3, 1, 0, 0), (717, .iconst 1, 1, 0, 0), (718, .iadd, 1, 0, 0), (719, .iaload, 1, 0, 0), (720, .aload_n 0, 1, 0, 0), (721, .iload_n 3, 1, 0, 0), 
  (722, .iconst 2, 1, 0, 0), (723, .iadd, 1, 0, 0), (724, .iaload, 1, 0, 0), (725, .aload_n 0, 1, 0, 0), (726, .iload_n 3, 1, 0, 0), (727, .iconst 3, 1, 0, 0), (728, .iadd, 1, 0, 0), (729, .iaload, 1, 0, 0), 
  (730, .invokevirtual 97, 3, 100, 3), (733, .aload_n 2, 1, 0, 0), (734, .aload_n 0, 1, 0, 0), (735, .iload_n 3, 1, 0, 0), (736, .iconst 1, 1, 0, 0), (737, .iadd, 1, 0, 0), (738, .iaload, 1, 0, 0), (739, .aload_n 0, 1, 0, 0), 
  (740, .iload_n 3, 1, 0, 0), (741, .iconst 2, 1, 0, 0), (742, .iadd, 1, 0, 0), (743, .iaload, 1, 0, 0), (744, .aload_n 0, 1, 0, 0), (745, .iload_n 3, 1, 0, 0), (746, .iconst 3, 1, 0, 0), (747, .iadd, 1, 0, 0), 
  (748, .iaload, 1, 0, 0), (749, .invokevirtual 100, 3, 200, 3), (752, .if_icmp .eq 484, 3, 1236, 0), (755, .iconst 0, 1, 0, 0), (756, .ireturn, 1, 0, 0), (757, .aload_n 1, 1, 0, 0), (758, .aload_n 0, 1, 0, 0), (759, .iload_n 3, 1, 0, 0), 
  (760, .iconst 1, 1, 0, 0), (761, .iadd, 1, 0, 0), (762, .iaload, 1, 0, 0), (763, .aload_n 0, 1, 0, 0), (764, .iload_n 3, 1, 0, 0), (765, .iconst 2, 1, 0, 0), (766, .iadd, 1, 0, 0), (767, .iaload, 1, 0, 0), 
  (768, .invokevirtual 101, 3, 101, 2), (771, .aload_n 2, 1, 0, 0), (772, .aload_n 0, 1, 0, 0), (773, .iload_n 3, 1, 0, 0), (774, .iconst 1, 1, 0, 0), (775, .iadd, 1, 0, 0), (776, .iaload, 1, 0, 0), (777, .aload_n 0, 1, 0, 0), 
  (778, .iload_n 3, 1, 0, 0), (779, .iconst 2, 1, 0, 0), (780, .iadd, 1, 0, 0), (781, .iaload, 1, 0, 0), (782, .invokevirtual 104, 3, 203, 2), (785, .if_icmp .eq 451, 3, 1236, 0), (788, .iconst 0, 1, 0, 0), (789, .ireturn, 1, 0, 0), 
  (790, .aload_n 1, 1, 0, 0), (791, .aload_n 0, 1, 0, 0), (792, .iload_n 3, 1, 0, 0), (793, .iconst 1, 1, 0, 0), (794, .iadd, 1, 0, 0), (795, .iaload, 1, 0, 0), (796, .aload_n 0, 1, 0, 0), (797, .iload_n 3, 1, 0, 0), 
  (798, .iconst 2, 1, 0, 0), (799, .iadd, 1, 0, 0), (800, .iaload, 1, 0, 0), (801, .aload_n 0, 1, 0, 0), (802, .iload_n 3, 1, 0, 0), (803, .iconst 3, 1, 0, 0), (804, .iadd, 1, 0, 0), (805, .iaload, 1, 0, 0), 
  (806, .invokevirtual 105, 3, 102, 3), (809, .aload_n 2, 1, 0, 0), (810, .aload_n 0, 1, 0, 0), (811, .iload_n 3, 1, 0, 0), (812, .iconst 1, 1, 0, 0), (813, .iadd, 1, 0, 0), (814, .iaload, 1, 0, 0), (815, .aload_n 0, 1, 0, 0), 
  (816, .iload_n 3, 1, 0, 0), (817, .iconst 2, 1, 0, 0), (818, .iadd, 1, 0, 0), (819, .iaload, 1, 0, 0), (820, .aload_n 0, 1, 0, 0), (821, .iload_n 3, 1, 0, 0), (822, .iconst 3, 1, 0, 0), (823, .iadd, 1, 0, 0), 
  (824, .iaload, 1, 0, 0), (825, .invokevirtual 108, 3, 204, 3), (828, .if_icmp .eq 408, 3, 1236, 0), (831, .iconst 0, 1, 0, 0), (832, .ireturn, 1, 0, 0), (833, .aload_n 1, 1, 0, 0), (834, .aload_n 0, 1, 0, 0), (835, .iload_n 3, 1, 0, 0), 
  (836, .iconst 1, 1, 0, 0), (837, .iadd, 1, 0, 0), (838, .iaload, 1, 0, 0), (839, .aload_n 0, 1, 0, 0), (840, .iload_n 3, 1, 0, 0), (841, .iconst 2, 1, 0, 0), (842, .iadd, 1, 0, 0), (843, .iaload, 1, 0, 0), 
  (844, .invokevirtual 109, 3, 103, 2), (847, .aload_n 2, 1, 0, 0), (848, .aload_n 0, 1, 0, 0), (849, .iload_n 3, 1, 0, 0), (850, .iconst 1, 1, 0, 0), (851, .iadd, 1, 0, 0), (852, .iaload, 1, 0, 0), (853, .aload_n 0, 1, 0, 0), 
  (854, .iload_n 3, 1, 0, 0), (855, .iconst 2, 1, 0, 0), (856, .iadd, 1, 0, 0), (857, .iaload, 1, 0, 0), (858, .invokevirtual 112, 3, 205, 2), (861, .if_icmp .eq 375, 3, 1236, 0), (864, .iconst 0, 1, 0, 0), (865, .ireturn, 1, 0, 0), 
  (866, .aload_n 1, 1, 0, 0), (867, .aload_n 0, 1, 0, 0), (868, .iload_n 3, 1, 0, 0), (869, .iconst 1, 1, 0, 0), (870, .iadd, 1, 0, 0), (871, .iaload, 1, 0, 0), (872, .aload_n 0, 1, 0, 0), (873, .iload_n 3, 1, 0, 0), 
  (874, .iconst 2, 1, 0, 0), (875, .iadd, 1, 0, 0), (876, .iaload, 1, 0, 0), (877, .aload_n 0, 1, 0, 0), (878, .iload_n 3, 1, 0, 0), (879, .iconst 3, 1, 0, 0), (880, .iadd, 1, 0, 0), (881, .iaload, 1, 0, 0), 
  (882, .invokevirtual 113, 3, 104, 3), (885, .aload_n 2, 1, 0, 0), (886, .aload_n 0, 1, 0, 0), (887, .iload_n 3, 1, 0, 0), (888, .iconst 1, 1, 0, 0), (889, .iadd, 1, 0, 0), (890, .iaload, 1, 0, 0), (891, .aload_n 0, 1, 0, 0), 
  (892, .iload_n 3, 1, 0, 0), (893, .iconst 2, 1, 0, 0), (894, .iadd, 1, 0, 0), (895, .iaload, 1, 0, 0), (896, .aload_n 0, 1, 0, 0), (897, .iload_n 3, 1, 0, 0), (898, .iconst 3, 1, 0, 0), (899, .iadd, 1, 0, 0), 
  (900, .iaload, 1, 0, 0), (901, .invokevirtual 116, 3, 206, 3), (904, .if_icmp .eq 332, 3, 1236, 0), (907, .iconst 0, 1, 0, 0), (908, .ireturn, 1, 0, 0), (909, .aload_n 1, 1, 0, 0), (910, .aload_n 0, 1, 0, 0), (911, .iload_n 3, 1, 0, 0), 
  (912, .iconst 1, 1, 0, 0), (913, .iadd, 1, 0, 0), (914, .iaload, 1, 0, 0), (915, .aload_n 0, 1, 0, 0), (916, .iload_n 3, 1, 0, 0), (917, .iconst 2, 1, 0, 0), (918, .iadd, 1, 0, 0), (919, .iaload, 1, 0, 0), 
  (920, .aload_n 0, 1, 0, 0), (921, .iload_n 3, 1, 0, 0), (922, .iconst 3, 1, 0, 0), (923, .iadd, 1, 0, 0), (924, .iaload, 1, 0, 0), (925, .invokevirtual 117, 3, 105, 3), (928, .aload_n 2, 1, 0, 0), (929, .aload_n 0, 1, 0, 0), 
  (930, .iload_n 3, 1, 0, 0), (931, .iconst 1, 1, 0, 0), (932, .iadd, 1, 0, 0), (933, .iaload, 1, 0, 0), (934, .aload_n 0, 1, 0, 0), (935, .iload_n 3, 1, 0, 0), (936, .iconst 2, 1, 0, 0), (937, .iadd, 1, 0, 0), 
  (938, .iaload, 1, 0, 0), (939, .aload_n 0, 1, 0, 0), (940, .iload_n 3, 1, 0, 0), (941, .iconst 3, 1, 0, 0), (942, .iadd, 1, 0, 0), (943, .iaload, 1, 0, 0), (944, .invokevirtual 120, 3, 207, 3), (947, .if_icmp .eq 289, 3, 1236, 0), 
  (950, .iconst 0, 1, 0, 0), (951, .ireturn, 1, 0, 0), (952, .aload_n 1, 1, 0, 0), (953, .invokevirtual 121, 3, 106, 0), (956, .aload_n 2, 1, 0, 0), (957, .invokevirtual 124, 3, 208, 0), (960, .if_icmp .eq 276, 3, 1236, 0), (963, .iconst 0, 1, 0, 0), 
  (964, .ireturn, 1, 0, 0), (965, .aload_n 1, 1, 0, 0), (966, .aload_n 0, 1, 0, 0), (967, .iload_n 3, 1, 0, 0), (968, .iconst 1, 1, 0, 0), (969, .iadd, 1, 0, 0), (970, .iaload, 1, 0, 0), (971, .invokevirtual 125, 3, 107, 1), 
  (974, .aload_n 2, 1, 0, 0), (975, .aload_n 0, 1, 0, 0), (976, .iload_n 3, 1, 0, 0), (977, .iconst 1, 1, 0, 0), (978, .iadd, 1, 0, 0), (979, .iaload, 1, 0, 0), (980, .invokevirtual 128, 3, 209, 1), (983, .if_icmp .eq 253, 3, 1236, 0), 
  (986, .iconst 0, 1, 0, 0), (987, .ireturn, 1, 0, 0), (988, .aload_n 1, 1, 0, 0), (989, .aload_n 0, 1, 0, 0), (990, .iload_n 3, 1, 0, 0), (991, .iconst 1, 1, 0, 0), (992, .iadd, 1, 0, 0), (993, .iaload, 1, 0, 0), 
  (994, .aload_n 0, 1, 0, 0), (995, .iload_n 3, 1, 0, 0), (996, .iconst 2, 1, 0, 0), (997, .iadd, 1, 0, 0), (998, .iaload, 1, 0, 0), (999, .aload_n 0, 1, 0, 0), (1000, .iload_n 3, 1, 0, 0), (1001, .iconst 3, 1, 0, 0), 
  (1002, .iadd, 1, 0, 0), (1003, .iaload, 1, 0, 0), (1004, .invokevirtual 129, 3, 108, 3), (1007, .aload_n 2, 1, 0, 0), (1008, .aload_n 0, 1, 0, 0), (1009, .iload_n 3, 1, 0, 0), (1010, .iconst 1, 1, 0, 0), (1011, .iadd, 1, 0, 0), 
  (1012, .iaload, 1, 0, 0), (1013, .aload_n 0, 1, 0, 0), (1014, .iload_n 3, 1, 0, 0), (1015, .iconst 2, 1, 0, 0), (1016, .iadd, 1, 0, 0), (1017, .iaload, 1, 0, 0), (1018, .aload_n 0, 1, 0, 0), (1019, .iload_n 3, 1, 0, 0), 
  (1020, .iconst 3, 1, 0, 0), (1021, .iadd, 1, 0, 0), (1022, .iaload, 1, 0, 0), (1023, .invokevirtual 132, 3, 211, 3), (1026, .if_icmp .eq 210, 3, 1236, 0), (1029, .iconst 0, 1, 0, 0), (1030, .ireturn, 1, 0, 0), (1031, .aload_n 1, 1, 0, 0), 
  (1032, .aload_n 0, 1, 0, 0), (1033, .iload_n 3, 1, 0, 0), (1034, .iconst 1, 1, 0, 0), (1035, .iadd, 1, 0, 0), (1036, .iaload, 1, 0, 0), (1037, .aload_n 0, 1, 0, 0), (1038, .iload_n 3, 1, 0, 0), (1039, .iconst 2, 1, 0, 0), 
  (1040, .iadd, 1, 0, 0), (1041, .iaload, 1, 0, 0), (1042, .aload_n 0, 1, 0, 0), (1043, .iload_n 3, 1, 0, 0), (1044, .iconst 3, 1, 0, 0), (1045, .iadd, 1, 0, 0), (1046, .iaload, 1, 0, 0), (1047, .aload_n 0, 1, 0, 0), 
  (1048, .iload_n 3, 1, 0, 0), (1049, .iconst 4, 1, 0, 0), (1050, .iadd, 1, 0, 0), (1051, .iaload, 1, 0, 0), (1052, .invokevirtual 133, 3, 109, 4), (1055, .aload_n 2, 1, 0, 0), (1056, .aload_n 0, 1, 0, 0), (1057, .iload_n 3, 1, 0, 0), 
  (1058, .iconst 1, 1, 0, 0), (1059, .iadd, 1, 0, 0), (1060, .iaload, 1, 0, 0), (1061, .aload_n 0, 1, 0, 0), (1062, .iload_n 3, 1, 0, 0), (1063, .iconst 2, 1, 0, 0), (1064, .iadd, 1, 0, 0), (1065, .iaload, 1, 0, 0), 
  (1066, .aload_n 0, 1, 0, 0), (1067, .iload_n 3, 1, 0, 0), (1068, .iconst 3, 1, 0, 0), (1069, .iadd, 1, 0, 0), (1070, .iaload, 1, 0, 0), (1071, .aload_n 0, 1, 0, 0), (1072, .iload_n 3, 1, 0, 0), (1073, .iconst 4, 1, 0, 0), 
  (1074, .iadd, 1, 0, 0), (1075, .iaload, 1, 0, 0), (1076, .invokevirtual 137, 3, 213, 4), (1079, .if_icmp .eq 157, 3, 1236, 0), (1082, .iconst 0, 1, 0, 0), (1083, .ireturn, 1, 0, 0), (1084, .aload_n 1, 1, 0, 0), (1085, .aload_n 0, 1, 0, 0), 
  (1086, .iload_n 3, 1, 0, 0), (1087, .iconst 1, 1, 0, 0), (1088, .iadd, 1, 0, 0), (1089, .iaload, 1, 0, 0), (1090, .aload_n 0, 1, 0, 0), (1091, .iload_n 3, 1, 0, 0), (1092, .iconst 2, 1, 0, 0), (1093, .iadd, 1, 0, 0), 
  (1094, .iaload, 1, 0, 0), (1095, .aload_n 0, 1, 0, 0), (1096, .iload_n 3, 1, 0, 0), (1097, .iconst 3, 1, 0, 0), (1098, .iadd, 1, 0, 0), (1099, .iaload, 1, 0, 0), (1100, .invokevirtual 138, 3, 110, 3), (1103, .aload_n 2, 1, 0, 0), 
  (1104, .aload_n 0, 1, 0, 0), (1105, .iload_n 3, 1, 0, 0), (1106, .iconst 1, 1, 0, 0), (1107, .iadd, 1, 0, 0), (1108, .iaload, 1, 0, 0), (1109, .aload_n 0, 1, 0, 0), (1110, .iload_n 3, 1, 0, 0), (1111, .iconst 2, 1, 0, 0), 
  (1112, .iadd, 1, 0, 0), (1113, .iaload, 1, 0, 0), (1114, .aload_n 0, 1, 0, 0), (1115, .iload_n 3, 1, 0, 0), (1116, .iconst 3, 1, 0, 0), (1117, .iadd, 1, 0, 0), (1118, .iaload, 1, 0, 0), (1119, .invokevirtual 141, 3, 214, 3), 
  (1122, .if_icmp .eq 114, 3, 1236, 0), (1125, .iconst 0, 1, 0, 0), (1126, .ireturn, 1, 0, 0), (1127, .aload_n 1, 1, 0, 0), (1128, .aload_n 0, 1, 0, 0), (1129, .iload_n 3, 1, 0, 0), (1130, .iconst 1, 1, 0, 0), (1131, .iadd, 1, 0, 0), 
  (1132, .iaload, 1, 0, 0), (1133, .aload_n 0, 1, 0, 0), (1134, .iload_n 3, 1, 0, 0), (1135, .iconst 2, 1, 0, 0), (1136, .iadd, 1, 0, 0), (1137, .iaload, 1, 0, 0), (1138, .aload_n 0, 1, 0, 0), (1139, .iload_n 3, 1, 0, 0), 
  (1140, .iconst 3, 1, 0, 0), (1141, .iadd, 1, 0, 0), (1142, .iaload, 1, 0, 0), (1143, .aload_n 0, 1, 0, 0), (1144, .iload_n 3, 1, 0, 0), (1145, .iconst 4, 1, 0, 0), (1146, .iadd, 1, 0, 0), (1147, .iaload, 1, 0, 0), 
  (1148, .aload_n 0, 1, 0, 0), (1149, .iload_n 3, 1, 0, 0), (1150, .iconst 5, 1, 0, 0), (1151, .iadd, 1, 0, 0), (1152, .iaload, 1, 0, 0), (1153, .invokevirtual 142, 3, 111, 5), (1156, .aload_n 2, 1, 0, 0), (1157, .aload_n 0, 1, 0, 0), 
  (1158, .iload_n 3, 1, 0, 0), (1159, .iconst 1, 1, 0, 0), (1160, .iadd, 1, 0, 0), (1161, .iaload, 1, 0, 0), (1162, .aload_n 0, 1, 0, 0), (1163, .iload_n 3, 1, 0, 0), (1164, .iconst 2, 1, 0, 0), (1165, .iadd, 1, 0, 0), 
  (1166, .iaload, 1, 0, 0), (1167, .aload_n 0, 1, 0, 0), (1168, .iload_n 3, 1, 0, 0), (1169, .iconst 3, 1, 0, 0), (1170, .iadd, 1, 0, 0), (1171, .iaload, 1, 0, 0), (1172, .aload_n 0, 1, 0, 0), (1173, .iload_n 3, 1, 0, 0), 
  (1174, .iconst 4, 1, 0, 0), (1175, .iadd, 1, 0, 0), (1176, .iaload, 1, 0, 0), (1177, .aload_n 0, 1, 0, 0), (1178, .iload_n 3, 1, 0, 0), (1179, .iconst 5, 1, 0, 0), (1180, .iadd, 1, 0, 0), (1181, .iaload, 1, 0, 0), 
  (1182, .invokevirtual 146, 3, 216, 5), (1185, .if_icmp .eq 51, 3, 1236, 0), (1188, .iconst 0, 1, 0, 0), (1189, .ireturn, 1, 0, 0), (1190, .aload_n 1, 1, 0, 0), (1191, .aload_n 0, 1, 0, 0), (1192, .iload_n 3, 1, 0, 0), (1193, .iconst 1, 1, 0, 0), 
  (1194, .iadd, 1, 0, 0), (1195, .iaload, 1, 0, 0), (1196, .invokevirtual 147, 3, 112, 1), (1199, .aload_n 2, 1, 0, 0), (1200, .aload_n 0, 1, 0, 0), (1201, .iload_n 3, 1, 0, 0), (1202, .iconst 1, 1, 0, 0), (1203, .iadd, 1, 0, 0), 
  (1204, .iaload, 1, 0, 0), (1205, .invokevirtual 150, 3, 217, 1), (1208, .if_icmp .eq 28, 3, 1236, 0), (1211, .iconst 0, 1, 0, 0), (1212, .ireturn, 1, 0, 0), (1213, .aload_n 1, 1, 0, 0), (1214, .aload_n 0, 1, 0, 0), (1215, .iload_n 3, 1, 0, 0), 
  (1216, .iconst 1, 1, 0, 0), (1217, .iadd, 1, 0, 0), (1218, .iaload, 1, 0, 0), (1219, .invokevirtual 151, 3, 113, 1), (1222, .aload_n 2, 1, 0, 0), (1223, .aload_n 0, 1, 0, 0), (1224, .iload_n 3, 1, 0, 0), (1225, .iconst 1, 1, 0, 0), 
  (1226, .iadd, 1, 0, 0), (1227, .iaload, 1, 0, 0), (1228, .invokevirtual 154, 3, 221, 1), (1231, .if_icmp .eq 5, 3, 1236, 0), (1234, .iconst 0, 1, 0, 0), (1235, .ireturn, 1, 0, 0), (1236, .iinc 3 6, 3, 0, 0), (1239, .goto (-1221), 3, 18, 0), 
  (1242, .iconst 1, 1, 0, 0), (1243, .ireturn, 1, 0, 0)]
abbrev hL_law : xHd := (x, code, 4, some .boolean)
end
section
/-! ===== numbers as naturals: the rules by nI ===== -/
theorem xnum_nat (k : Nat) : xnum (Int.ofNat k) = nI k := rfl
theorem xnum_lit (k : Nat) : xnum (OfNat.ofNat k) = nI k := rfl
theorem xnum_m1 : xnum (-1) = -1 := rfl
theorem xofn (k : Nat) : Int32.ofNat k = nI k := rfl
theorem xlit (k : Nat) : (OfNat.ofNat k : Int32) = nI k := rfl
theorem xcl_nI {j : Nat} (h : j < 2 ^ 31) : (nI j).toNatClampNeg = j := nI_clamp h
section XNR
variable {Γ : xG} {n : Nat} {h : xHd} {rows : List xRow} {post : Option Int32 → xM → Prop}
theorem x_aldN {pc pc' a b : Nat} {lv lv' : List (Option xV)} {st st' : List xV} {D D' : xM} {k i : Nat} {z : Int32} (j : Nat) (h1 : xrun rows xN 60 pc lv st D = some (pc', lv', .inl z :: .inr (.inr (1, k, i)) :: st', D')) (hr : xrw rows pc' = some (.iaload, 1, a, b)) (hz : z = nI j) (hj : j < k) (hk : Nat.ble k 2000000 = true) (kk : xW Γ n h rows (pc' + 1) lv' (.inl (D' i j) :: st') D' post) : xW Γ n h rows pc lv st D post := by
  have hk2 := Nat.le_of_ble_eq_true hk
  refine x_ald h1 hr (by rw [hz]; exact vp_in_nI hj (by omega)) ?_
  rw [hz, nI_clamp (by omega)]
  exact kk
theorem x_bldN {pc pc' a b : Nat} {lv lv' : List (Option xV)} {st st' : List xV} {D D' : xM} {k i : Nat} {z : Int32} (j : Nat) (h1 : xrun rows xN 60 pc lv st D = some (pc', lv', .inl z :: .inr (.inr (2, k, i)) :: st', D')) (hr : xrw rows pc' = some (.baload, 1, a, b)) (hz : z = nI j) (hj : j < k) (hk : Nat.ble k 2000000 = true) (kk : xW Γ n h rows (pc' + 1) lv' (.inl (D' i j) :: st') D' post) : xW Γ n h rows pc lv st D post := by
  have hk2 := Nat.le_of_ble_eq_true hk
  refine x_bld h1 hr (by rw [hz]; exact vp_in_nI hj (by omega)) ?_
  rw [hz, nI_clamp (by omega)]
  exact kk
theorem x_wldN {pc pc' a b : Nat} {lv lv' : List (Option xV)} {st st' : List xV} {D D' : xM} {k i : Nat} {z : Int32} (j : Nat) (h1 : xrun rows xN 60 pc lv st D = some (pc', lv', .inl z :: .inr (.inr (3, k, i)) :: st', D')) (hr : xrw rows pc' = some (.aaload, 1, a, b)) (hz : z = nI j) (hj : j < k) (hk : Nat.ble k 2000000 = true) (kk : xW Γ n h rows (pc' + 1) lv' (.inr (.inr (0, 7, xelB k j)) :: st') D' post) : xW Γ n h rows pc lv st D post := by
  have hk2 := Nat.le_of_ble_eq_true hk
  refine x_wld h1 hr (by rw [hz]; exact vp_in_nI hj (by omega)) ?_
  rw [hz, nI_clamp (by omega)]
  exact kk
theorem x_rldN {pc pc' a b : Nat} {lv lv' : List (Option xV)} {st st' : List xV} {D D' : xM} {k i : Nat} {z : Int32} (j : Nat) (h1 : xrun rows xN 60 pc lv st D = some (pc', lv', .inl z :: .inr (.inr (6, k, i)) :: st', D')) (hr : xrw rows pc' = some (.aaload, 1, a, b)) (hz : z = nI j) (hj : j < k) (hk : Nat.ble k 2000000 = true) (kk : xW Γ n h rows (pc' + 1) lv' (.inr (.inr (0, 2, xR0 + 2 * j)) :: st') D' post) : xW Γ n h rows pc lv st D post := by
  have hk2 := Nat.le_of_ble_eq_true hk
  refine x_rld h1 hr (by rw [hz]; exact vp_in_nI hj (by omega)) ?_
  rw [hz, nI_clamp (by omega)]
  exact kk
theorem x_tldN {pc pc' a b : Nat} {lv lv' : List (Option xV)} {st st' : List xV} {D D' : xM} {k i : Nat} {z : Int32} (j : Nat) (h1 : xrun rows xN 60 pc lv st D = some (pc', lv', .inl z :: .inr (.inr (4, k, i)) :: st', D')) (hr : xrw rows pc' = some (.iaload, 1, a, b)) (hz : z = nI j) (hj : j < 5) (kk : xW Γ n h rows (pc' + 1) lv' (.inl (xtv k j) :: st') D' post) : xW Γ n h rows pc lv st D post := by
  refine x_tld h1 hr (by rw [hz]; exact vp_in_nI hj (by omega)) ?_
  rw [hz, nI_clamp (by omega)]
  exact kk
theorem x_astN {pc pc' a b : Nat} {lv lv' : List (Option xV)} {st st' : List xV} {D D' : xM} {k i : Nat} {z x : Int32} (j : Nat) (h1 : xrun rows xN 60 pc lv st D = some (pc', lv', .inl x :: .inl z :: .inr (.inr (1, k, i)) :: st', D')) (hr : xrw rows pc' = some (.iastore, 1, a, b)) (hz : z = nI j) (hj : j < k) (hk : Nat.ble k 2000000 = true) (kk : xW Γ n h rows (pc' + 1) lv' st' (xup D' i j x) post) : xW Γ n h rows pc lv st D post := by
  have hk2 := Nat.le_of_ble_eq_true hk
  refine x_ast h1 hr (by rw [hz]; exact vp_in_nI hj (by omega)) ?_
  rw [hz, nI_clamp (by omega)]
  exact kk
theorem xnz {x : Int32} (hx : x = 0 ∨ x = 1) : vp_nar .boolean x = x := by rcases hx with rfl | rfl <;> rfl
theorem x_bstN {pc pc' a b : Nat} {lv lv' : List (Option xV)} {st st' : List xV} {D D' : xM} {k i : Nat} {z x : Int32} (j : Nat) (h1 : xrun rows xN 60 pc lv st D = some (pc', lv', .inl x :: .inl z :: .inr (.inr (2, k, i)) :: st', D')) (hr : xrw rows pc' = some (.bastore, 1, a, b)) (hz : z = nI j) (hj : j < k) (hk : Nat.ble k 2000000 = true) (hx : x = 0 ∨ x = 1) (kk : xW Γ n h rows (pc' + 1) lv' st' (xup D' i j x) post) : xW Γ n h rows pc lv st D post := by
  have hk2 := Nat.le_of_ble_eq_true hk
  refine x_bst h1 hr (by rw [hz]; exact vp_in_nI hj (by omega)) ?_
  rw [hz, nI_clamp (by omega), xnz hx]
  exact kk
theorem xi_eqN {pc pc' a b : Nat} {lv lv' : List (Option xV)} {st st' : List xV} {D D' : xM} {x y : Int32} {off : Int} (p q : Nat) (h1 : xrun rows xN 60 pc lv st D = some (pc', lv', .inl y :: .inl x :: st', D')) (hr : xrw rows pc' = some (.if_icmp .eq off, 3, a, b)) (hx : x = nI p) (hy : y = nI q) (hp : p < 2 ^ 31) (hq : q < 2 ^ 31) (kt : p = q → xW Γ n h rows a lv' st' D' post) (kf : p ≠ q → xW Γ n h rows (pc' + 3) lv' st' D' post) : xW Γ n h rows pc lv st D post := by
  subst hx; subst hy
  have e1 := @nI_eq p q hp hq
  have e2 := @nI_leI p q hp hq
  have e3 := @nI_leI q p hq hp
  have e4 := @nI_ltI p q hp hq
  have e5 := @nI_ltI q p hq hp
  refine xi_eq h1 hr (fun z => kt ?_) (fun z => kf ?_)
  all_goals (first | exact z | (simp only [e1, e2, e3, e4, e5] at z; omega))
theorem xi_neN {pc pc' a b : Nat} {lv lv' : List (Option xV)} {st st' : List xV} {D D' : xM} {x y : Int32} {off : Int} (p q : Nat) (h1 : xrun rows xN 60 pc lv st D = some (pc', lv', .inl y :: .inl x :: st', D')) (hr : xrw rows pc' = some (.if_icmp .ne off, 3, a, b)) (hx : x = nI p) (hy : y = nI q) (hp : p < 2 ^ 31) (hq : q < 2 ^ 31) (kt : p ≠ q → xW Γ n h rows a lv' st' D' post) (kf : p = q → xW Γ n h rows (pc' + 3) lv' st' D' post) : xW Γ n h rows pc lv st D post := by
  subst hx; subst hy
  have e1 := @nI_eq p q hp hq
  have e2 := @nI_leI p q hp hq
  have e3 := @nI_leI q p hq hp
  have e4 := @nI_ltI p q hp hq
  have e5 := @nI_ltI q p hq hp
  refine xi_ne h1 hr (fun z => kt ?_) (fun z => kf ?_)
  all_goals (first | exact z | (simp only [e1, e2, e3, e4, e5] at z; omega))
theorem xi_ltN {pc pc' a b : Nat} {lv lv' : List (Option xV)} {st st' : List xV} {D D' : xM} {x y : Int32} {off : Int} (p q : Nat) (h1 : xrun rows xN 60 pc lv st D = some (pc', lv', .inl y :: .inl x :: st', D')) (hr : xrw rows pc' = some (.if_icmp .lt off, 3, a, b)) (hx : x = nI p) (hy : y = nI q) (hp : p < 2 ^ 31) (hq : q < 2 ^ 31) (kt : p < q → xW Γ n h rows a lv' st' D' post) (kf : q ≤ p → xW Γ n h rows (pc' + 3) lv' st' D' post) : xW Γ n h rows pc lv st D post := by
  subst hx; subst hy
  have e1 := @nI_eq p q hp hq
  have e2 := @nI_leI p q hp hq
  have e3 := @nI_leI q p hq hp
  have e4 := @nI_ltI p q hp hq
  have e5 := @nI_ltI q p hq hp
  refine xi_lt h1 hr (fun z => kt ?_) (fun z => kf ?_)
  all_goals (first | exact z | (simp only [e1, e2, e3, e4, e5] at z; omega))
theorem xi_geN {pc pc' a b : Nat} {lv lv' : List (Option xV)} {st st' : List xV} {D D' : xM} {x y : Int32} {off : Int} (p q : Nat) (h1 : xrun rows xN 60 pc lv st D = some (pc', lv', .inl y :: .inl x :: st', D')) (hr : xrw rows pc' = some (.if_icmp .ge off, 3, a, b)) (hx : x = nI p) (hy : y = nI q) (hp : p < 2 ^ 31) (hq : q < 2 ^ 31) (kt : q ≤ p → xW Γ n h rows a lv' st' D' post) (kf : p < q → xW Γ n h rows (pc' + 3) lv' st' D' post) : xW Γ n h rows pc lv st D post := by
  subst hx; subst hy
  have e1 := @nI_eq p q hp hq
  have e2 := @nI_leI p q hp hq
  have e3 := @nI_leI q p hq hp
  have e4 := @nI_ltI p q hp hq
  have e5 := @nI_ltI q p hq hp
  refine xi_ge h1 hr (fun z => kt ?_) (fun z => kf ?_)
  all_goals (first | exact z | (simp only [e1, e2, e3, e4, e5] at z; omega))
theorem xi_gtN {pc pc' a b : Nat} {lv lv' : List (Option xV)} {st st' : List xV} {D D' : xM} {x y : Int32} {off : Int} (p q : Nat) (h1 : xrun rows xN 60 pc lv st D = some (pc', lv', .inl y :: .inl x :: st', D')) (hr : xrw rows pc' = some (.if_icmp .gt off, 3, a, b)) (hx : x = nI p) (hy : y = nI q) (hp : p < 2 ^ 31) (hq : q < 2 ^ 31) (kt : q < p → xW Γ n h rows a lv' st' D' post) (kf : p ≤ q → xW Γ n h rows (pc' + 3) lv' st' D' post) : xW Γ n h rows pc lv st D post := by
  subst hx; subst hy
  have e1 := @nI_eq p q hp hq
  have e2 := @nI_leI p q hp hq
  have e3 := @nI_leI q p hq hp
  have e4 := @nI_ltI p q hp hq
  have e5 := @nI_ltI q p hq hp
  refine xi_gt h1 hr (fun z => kt ?_) (fun z => kf ?_)
  all_goals (first | exact z | (simp only [e1, e2, e3, e4, e5] at z; omega))
theorem xi_leN {pc pc' a b : Nat} {lv lv' : List (Option xV)} {st st' : List xV} {D D' : xM} {x y : Int32} {off : Int} (p q : Nat) (h1 : xrun rows xN 60 pc lv st D = some (pc', lv', .inl y :: .inl x :: st', D')) (hr : xrw rows pc' = some (.if_icmp .le off, 3, a, b)) (hx : x = nI p) (hy : y = nI q) (hp : p < 2 ^ 31) (hq : q < 2 ^ 31) (kt : p ≤ q → xW Γ n h rows a lv' st' D' post) (kf : q < p → xW Γ n h rows (pc' + 3) lv' st' D' post) : xW Γ n h rows pc lv st D post := by
  subst hx; subst hy
  have e1 := @nI_eq p q hp hq
  have e2 := @nI_leI p q hp hq
  have e3 := @nI_leI q p hq hp
  have e4 := @nI_ltI p q hp hq
  have e5 := @nI_ltI q p hq hp
  refine xi_le h1 hr (fun z => kt ?_) (fun z => kf ?_)
  all_goals (first | exact z | (simp only [e1, e2, e3, e4, e5] at z; omega))
end XNR
/-! ===== bits ===== -/
theorem xb_and (a b : Nat) : nI a &&& nI b = nI (a &&& b) := by
  apply Int32.toBitVec_inj.1
  show BitVec.ofNat 32 a &&& BitVec.ofNat 32 b = BitVec.ofNat 32 (a &&& b)
  apply BitVec.eq_of_getLsbD_eq
  intro i hi
  simp [hi]
theorem xb_or (a b : Nat) : nI a ||| nI b = nI (a ||| b) := by
  apply Int32.toBitVec_inj.1
  show BitVec.ofNat 32 a ||| BitVec.ofNat 32 b = BitVec.ofNat 32 (a ||| b)
  apply BitVec.eq_of_getLsbD_eq
  intro i hi
  simp [hi]
theorem xb_xor (a b : Nat) : nI a ^^^ nI b = nI (a ^^^ b) := by
  apply Int32.toBitVec_inj.1
  show BitVec.ofNat 32 a ^^^ BitVec.ofNat 32 b = BitVec.ofNat 32 (a ^^^ b)
  apply BitVec.eq_of_getLsbD_eq
  intro i hi
  simp [hi]
theorem xb_s : ∀ k, k < 32 → ((nI k &&& 31).toBitVec.smod 32).toNat = k := by decide +kernel
theorem xb_shl {c i : Nat} (hi : i < 32) (h : c * 2 ^ i < 2 ^ 32) : nI c <<< (nI i &&& 31) = nI (c * 2 ^ i) := pk_shlN _ i (xb_s i hi) h
theorem xb_sh1 {i : Nat} (hi : i < 31) : nI 1 <<< (nI i &&& 31) = nI (2 ^ i) := by
  have h2 : (2 : Nat) ^ i < 2 ^ 31 := Nat.pow_lt_pow_right (by decide) hi
  rw [xb_shl (by omega) (by omega), Nat.one_mul]
theorem xb_shr {c i : Nat} (hc : c < 2 ^ 31) (hi : i < 32) : nI c >>> (nI i &&& 31) = nI (c / 2 ^ i) := pk_shrN hc _ i (xb_s i hi)
theorem xb_bit {c i : Nat} (hc : c < 2 ^ 31) (hi : i < 32) : (nI c >>> (nI i &&& 31)) &&& nI 1 = nI (c / 2 ^ i % 2) := by
  have hd : c / 2 ^ i ≤ c := Nat.div_le_self _ _
  rw [xb_shr hc hi, pk_andN (by omega) (m := nI 1) 1 rfl]
theorem xb_tb (c i : Nat) : c / 2 ^ i % 2 = 1 ↔ c.testBit i = true := by
  rw [Nat.testBit_eq_decide_div_mod_eq, decide_eq_true_eq]
theorem xb_orp {a i : Nat} (h : a < 2 ^ i) : nI a ||| nI (2 ^ i) = nI (a + 2 ^ i) := by
  rw [xb_or, Nat.or_comm, Nat.add_comm]
  have := Nat.two_pow_add_eq_or_of_lt h 1
  rw [Nat.mul_one] at this
  rw [this]
/-- a set of places below n, by bits -/
def wbits (p : Nat → Bool) : Nat → Nat
  | 0 => 0
  | n + 1 => wbits p n + (if p n then 2 ^ n else 0)
theorem wbits_lt (p : Nat → Bool) : ∀ n, wbits p n < 2 ^ n
  | 0 => by simp [wbits]
  | n + 1 => by
    have := wbits_lt p n
    rw [wbits, Nat.pow_succ]
    split <;> omega
theorem wbits_cong {p q : Nat → Bool} : ∀ n, (∀ i, i < n → p i = q i) → wbits p n = wbits q n
  | 0, _ => rfl
  | n + 1, h => by rw [wbits, wbits, wbits_cong n (fun i hi => h i (by omega)), h n (by omega)]
theorem wbits_tb (p : Nat → Bool) : ∀ n i, (wbits p n).testBit i = (decide (i < n) && p i)
  | 0, i => by simp [wbits]
  | n + 1, i => by
    have ih := wbits_tb p n
    have hl := wbits_lt p n
    rw [wbits]
    split
    · rename_i hp
      have e : wbits p n + 2 ^ n = 2 ^ n * 1 ||| wbits p n := by rw [← Nat.two_pow_add_eq_or_of_lt hl 1]; omega
      rw [e, Nat.testBit_or, ih, Nat.mul_one, Nat.testBit_two_pow]
      by_cases h : i = n
      · subst h; simp [hp]
      · by_cases h2 : i < n
        · have : i < n + 1 := by omega
          simp [h2, this, Ne.symm h]
        · have : ¬ i < n + 1 := by omega
          simp [h2, this, Ne.symm h]
    · rename_i hp
      rw [Nat.add_zero, ih]
      by_cases h : i = n
      · subst h; simp [hp]
      · by_cases h2 : i < n
        · have : i < n + 1 := by omega
          simp [h2, this]
        · have : ¬ i < n + 1 := by omega
          simp [h2, this]
end
section
/-! ===== the world, as numbers ===== -/
abbrev wS : Type := (Nat × Nat × Nat × Nat) × (Nat → Nat) × (Nat → Nat) × (Nat → Nat → Nat) × (Nat → Nat) × (Nat → Option Nat)
abbrev wS.B (S : wS) : Nat := S.1.1
abbrev wS.M (S : wS) : Nat := S.1.2.1
abbrev wS.E (S : wS) : Nat := S.1.2.2.1
abbrev wS.C (S : wS) : Nat := S.1.2.2.2
abbrev wS.kd (S : wS) : Nat → Nat := S.2.1
abbrev wS.pe (S : wS) : Nat → Nat := S.2.2.1
abbrev wS.K (S : wS) : Nat → Nat → Nat := S.2.2.2.1
abbrev wS.ha (S : wS) : Nat → Nat := S.2.2.2.2.1
abbrev wS.bi (S : wS) : Nat → Option Nat := S.2.2.2.2.2
abbrev wmk (B M E C : Nat) (kd pe : Nat → Nat) (K : Nat → Nat → Nat) (ha : Nat → Nat) (bi : Nat → Option Nat) : wS := ((B, M, E, C), kd, pe, K, ha, bi)
def xby (o : Option Nat) : Int32 := match o with
  | none => -1
  | some b => nI b
/-- the class's world at the cells w .. w + 5 -/
def rW (D : xM) (w : Nat) (S : wS) : Prop :=
  D w 0 = nI S.B ∧ D w 1 = nI S.M ∧ D w 2 = nI S.E ∧ D w 3 = nI S.C ∧ (∀ b, b < S.B → D (w + 1) b = nI (S.kd b)) ∧ (∀ b, b < S.B → D (w + 2) b = nI (S.pe b)) ∧
  (∀ b k, b < S.B → k < 10 → D (w + 3) (b * 10 + k) = nI (S.K b k)) ∧ (∀ m, m < S.M → D (w + 4) m = nI (S.ha m)) ∧ (∀ m, m < S.M → D (w + 5) m = xby (S.bi m))
/-- the reference's world, from place o of its row on -/
def rM (D : xM) (o : Nat) (S : wS) : Prop :=
  D 112 o = nI S.B ∧ D 112 (o + 1) = nI S.M ∧ D 112 (o + 2) = nI S.E ∧ D 112 (o + 3) = nI S.C ∧ (∀ b, b < S.B → D 112 (o + 4 + b) = nI (S.kd b)) ∧ (∀ b, b < S.B → D 112 (o + 12 + b) = nI (S.pe b)) ∧
  (∀ b k, b < S.B → k < 10 → D 112 (o + 20 + (b * 10 + k)) = nI (S.K b k)) ∧ (∀ m, m < S.M → D 112 (o + 100 + m) = nI (S.ha m)) ∧ (∀ m, m < S.M → D 112 (o + 104 + m) = xby (S.bi m))
/-- a world that can be -/
def wok (S : wS) : Prop := S.B ≤ 8 ∧ S.M ≤ 4 ∧ S.E < 1000000 ∧ S.C < 256 ∧ (∀ b, b < S.B → S.kd b < 5) ∧ (∀ b, b < S.B → S.pe b < 4) ∧ (∀ b k, b < S.B → k < 10 → S.K b k ≤ 9) ∧ (∀ m, m < S.M → S.ha m < 1024) ∧ (∀ m b, m < S.M → S.bi m = some b → b < S.B) ∧ (∀ m m' b, m < S.M → m' < S.M → S.bi m = some b → S.bi m' = some b → m = m')
def wup (K : Nat → Nat → Nat) (b k v : Nat) : Nat → Nat → Nat := fun b' k' => if b' = b ∧ k' = k then v else K b' k'
def wHears (k : Nat) : Nat := [1, 1, 1, 0, 2].getD k 0
def wGets (k : Nat) : Nat := [3, 5, 3, 0, 0].getD k 0
def wSays (k : Nat) : Nat := [1, 1, 2, 0, 0].getD k 0
def wLoses (k : Nat) : Nat := [1, 0, 1, 0, 0].getD k 0
/-- a bird learns -/
def wLearn (S : wS) (b k v : Nat) : wS := wmk S.B S.M S.E S.C S.kd S.pe (wup S.K b k (min 9 (S.K b k + v))) S.ha S.bi
/-- what is outside a world's cells stays -/
def sameW (w : Nat) (D D' : xM) : Prop := ∀ a, (a < w ∨ w + 5 < a) → D' a = D a
def wuf {α : Type} (f : Nat → α) (i : Nat) (v : α) : Nat → α := fun j => if j = i then v else f j
theorem rW_K {D : xM} {w : Nat} {S : wS} {b k v : Nat} (h : rW D w S) (hk : k < 10) : rW (xup D (w + 3) (b * 10 + k) (nI v)) w (wmk S.B S.M S.E S.C S.kd S.pe (wup S.K b k v) S.ha S.bi) := by
  obtain ⟨h1, h2, h3, h4, h5, h6, h7, h8, h9⟩ := h
  refine ⟨by simpa [xup] using h1, by simpa [xup] using h2, by simpa [xup] using h3, by simpa [xup] using h4, fun c hc => by simpa [xup] using h5 c hc, fun c hc => by simpa [xup] using h6 c hc, fun c j hc hj => ?_, fun m hm => by simpa [xup] using h8 m hm, fun m hm => by simpa [xup] using h9 m hm⟩
  show xup D (w + 3) (b * 10 + k) (nI v) (w + 3) (c * 10 + j) = nI (wup S.K b k v c j)
  by_cases e : c = b ∧ j = k
  · simp [xup, wup, e]
  · have e2 : ¬ (c * 10 + j = b * 10 + k) := by omega
    simp only [xup, wup, e, e2, and_false, if_false]
    exact h7 c j hc hj
theorem rW_bi {D : xM} {w : Nat} {S : wS} {i : Nat} {o : Option Nat} (h : rW D w S) : rW (xup D (w + 5) i (xby o)) w (wmk S.B S.M S.E S.C S.kd S.pe S.K S.ha (wuf S.bi i o)) := by
  obtain ⟨h1, h2, h3, h4, h5, h6, h7, h8, h9⟩ := h
  refine ⟨by simpa [xup] using h1, by simpa [xup] using h2, by simpa [xup] using h3, by simpa [xup] using h4, fun c hc => by simpa [xup] using h5 c hc, fun c hc => by simpa [xup] using h6 c hc, fun c j hc hj => by simpa [xup] using h7 c j hc hj, fun m hm => by simpa [xup] using h8 m hm, fun m hm => ?_⟩
  show xup D (w + 5) i (xby o) (w + 5) m = xby (wuf S.bi i o m)
  by_cases e : m = i
  · simp [xup, wuf, e]
  · simp only [xup, wuf, e, and_false, if_false]
    exact h9 m hm
theorem rW_ha {D : xM} {w : Nat} {S : wS} {i v : Nat} (h : rW D w S) : rW (xup D (w + 4) i (nI v)) w (wmk S.B S.M S.E S.C S.kd S.pe S.K (wuf S.ha i v) S.bi) := by
  obtain ⟨h1, h2, h3, h4, h5, h6, h7, h8, h9⟩ := h
  refine ⟨by simpa [xup] using h1, by simpa [xup] using h2, by simpa [xup] using h3, by simpa [xup] using h4, fun c hc => by simpa [xup] using h5 c hc, fun c hc => by simpa [xup] using h6 c hc, fun c j hc hj => by simpa [xup] using h7 c j hc hj, fun m hm => ?_, fun m hm => by simpa [xup] using h9 m hm⟩
  show xup D (w + 4) i (nI v) (w + 4) m = nI (wuf S.ha i v m)
  by_cases e : m = i
  · simp [xup, wuf, e]
  · simp only [xup, wuf, e, and_false, if_false]
    exact h8 m hm
theorem rW_pe {D : xM} {w : Nat} {S : wS} {i v : Nat} (h : rW D w S) : rW (xup D (w + 2) i (nI v)) w (wmk S.B S.M S.E S.C S.kd (wuf S.pe i v) S.K S.ha S.bi) := by
  obtain ⟨h1, h2, h3, h4, h5, h6, h7, h8, h9⟩ := h
  refine ⟨by simpa [xup] using h1, by simpa [xup] using h2, by simpa [xup] using h3, by simpa [xup] using h4, fun c hc => by simpa [xup] using h5 c hc, fun c hc => ?_, fun c j hc hj => by simpa [xup] using h7 c j hc hj, fun m hm => by simpa [xup] using h8 m hm, fun m hm => by simpa [xup] using h9 m hm⟩
  show xup D (w + 2) i (nI v) (w + 2) c = nI (wuf S.pe i v c)
  by_cases e : c = i
  · simp [xup, wuf, e]
  · simp only [xup, wuf, e, and_false, if_false]
    exact h6 c hc
theorem rW_kd {D : xM} {w : Nat} {S : wS} {i v : Nat} (h : rW D w S) : rW (xup D (w + 1) i (nI v)) w (wmk S.B S.M S.E S.C (wuf S.kd i v) S.pe S.K S.ha S.bi) := by
  obtain ⟨h1, h2, h3, h4, h5, h6, h7, h8, h9⟩ := h
  refine ⟨by simpa [xup] using h1, by simpa [xup] using h2, by simpa [xup] using h3, by simpa [xup] using h4, fun c hc => ?_, fun c hc => by simpa [xup] using h6 c hc, fun c j hc hj => by simpa [xup] using h7 c j hc hj, fun m hm => by simpa [xup] using h8 m hm, fun m hm => by simpa [xup] using h9 m hm⟩
  show xup D (w + 1) i (nI v) (w + 1) c = nI (wuf S.kd i v c)
  by_cases e : c = i
  · simp [xup, wuf, e]
  · simp only [xup, wuf, e, and_false, if_false]
    exact h5 c hc
theorem rW_E {D : xM} {w : Nat} {S : wS} {v : Nat} (h : rW D w S) : rW (xup D w 2 (nI v)) w (wmk S.B S.M v S.C S.kd S.pe S.K S.ha S.bi) := by
  obtain ⟨h1, h2, h3, h4, h5, h6, h7, h8, h9⟩ := h
  exact ⟨by simpa [xup] using h1, by simpa [xup] using h2, by simp [xup], by simpa [xup] using h4, fun c hc => by simpa [xup] using h5 c hc, fun c hc => by simpa [xup] using h6 c hc, fun c j hc hj => by simpa [xup] using h7 c j hc hj, fun m hm => by simpa [xup] using h8 m hm, fun m hm => by simpa [xup] using h9 m hm⟩
theorem rW_C {D : xM} {w : Nat} {S : wS} {v : Nat} (h : rW D w S) : rW (xup D w 3 (nI v)) w (wmk S.B S.M S.E v S.kd S.pe S.K S.ha S.bi) := by
  obtain ⟨h1, h2, h3, h4, h5, h6, h7, h8, h9⟩ := h
  exact ⟨by simpa [xup] using h1, by simpa [xup] using h2, by simpa [xup] using h3, by simp [xup], fun c hc => by simpa [xup] using h5 c hc, fun c hc => by simpa [xup] using h6 c hc, fun c j hc hj => by simpa [xup] using h7 c j hc hj, fun m hm => by simpa [xup] using h8 m hm, fun m hm => by simpa [xup] using h9 m hm⟩
theorem sameW.rf {w : Nat} {D : xM} : sameW w D D := fun _ _ => rfl
theorem sameW.tr {w : Nat} {D D1 D2 : xM} (h : sameW w D D1) (h2 : sameW w D1 D2) : sameW w D D2 := fun a ha => (h2 a ha).trans (h a ha)
theorem sameW.up {w i j : Nat} {v : Int32} {D D1 : xM} (h : sameW w D D1) (hi : w ≤ i ∧ i ≤ w + 5) : sameW w D (xup D1 i j v) := fun a ha => (xup_ne a (by omega)).trans (h a ha)
theorem rW_out {D D' : xM} {w : Nat} {S : wS} (h : rW D w S) (hs : ∀ a, w ≤ a → a ≤ w + 5 → D' a = D a) : rW D' w S := by
  have e0 := hs w (by omega) (by omega)
  have e1 := hs (w + 1) (by omega) (by omega)
  have e2 := hs (w + 2) (by omega) (by omega)
  have e3 := hs (w + 3) (by omega) (by omega)
  have e4 := hs (w + 4) (by omega) (by omega)
  have e5 := hs (w + 5) (by omega) (by omega)
  rw [rW, e0, e1, e2, e3, e4, e5]
  exact h
end
section
/-! ===== World, small methods ===== -/
section W1
variable {Γ : xG} {n : Nat} {D : xM} {post : Option Int32 → xM → Prop} {w : Nat} {S : wS}
theorem ix10 {b k : Nat} : nI b * xnum 10 + nI k = nI (b * 10 + k) := by
  show nI b * nI 10 + nI k = _
  rw [pk_mul, nI_add]
theorem c_knowledge {b k : Nat} (hr : rW D w S) (ho : wok S) (hb : b < S.B) (hk : k < 10) (hp : post (some (nI (S.K b k))) D) : xRuns Γ n hX7_knowledge [xR 0 7 w, xI (nI b), xI (nI k)] D post := by
  have h8 := ho.1
  refine x_runs kX7_knowledge (by decide +kernel) rfl ?_
  refine x_aldN (b * 10 + k) rfl rfl ix10 (by omega) rfl ?_
  refine x_ret rfl rfl rfl rfl ?_
  rw [hr.2.2.2.2.2.2.1 b k hb hk]
  exact hp
theorem c_learn {b k v : Nat} (hr : rW D w S) (ho : wok S) (hb : b < S.B) (hk : k < 10) (hv : v ≤ 9) (hp : post none (xup D (w + 3) (b * 10 + k) (nI (min 9 (S.K b k + v))))) : xRuns Γ n hX7_learn [xR 0 7 w, xI (nI b), xI (nI k), xI (nI v)] D post := by
  have h8 := ho.1
  have h9 := ho.2.2.2.2.2.2.1 b k hb hk
  refine x_runs kX7_learn (by decide +kernel) rfl ?_
  refine x_aldN (b * 10 + k) rfl rfl ix10 (by omega) rfl ?_
  rw [hr.2.2.2.2.2.2.1 b k hb hk]
  refine xi_leN (S.K b k + v) 9 rfl rfl (nI_add _ _) rfl (by omega) (by omega) (fun h => ?_) (fun h => ?_)
  · refine x_astN (b * 10 + k) rfl rfl ix10 (by omega) rfl ?_
    refine x_vret rfl rfl rfl ?_
    rw [nI_add]
    rw [Nat.min_eq_right h] at hp
    exact hp
  · refine x_goto rfl rfl ?_
    refine x_astN (b * 10 + k) rfl rfl ix10 (by omega) rfl ?_
    refine x_vret rfl rfl rfl ?_
    rw [Nat.min_eq_left (by omega)] at hp
    exact hp
/-- what a bird's cover is -/
theorem c_isCovered {b : Nat} (hr : rW D w S) (ho : wok S) (hb : b < 32) (hp : post (some (if S.C.testBit b then 1 else 0)) D) : xRuns Γ n hX7_isCovered [xR 0 7 w, xI (nI b)] D post := by
  have hc := ho.2.2.2.1
  refine x_runs kX7_isCovered (by decide +kernel) rfl ?_
  have e : (nI S.C >>> (nI b &&& 31)) &&& xnum 1 = nI (S.C / 2 ^ b % 2) := xb_bit (by omega) hb
  refine xi_neN (S.C / 2 ^ b % 2) 1 rfl rfl (by rw [hr.2.2.2.1]; exact e) rfl (by omega) (by omega) (fun h => ?_) (fun h => ?_)
  · have : S.C.testBit b = false := by
      cases hq : S.C.testBit b with
      | false => rfl
      | true => exact absurd ((xb_tb _ _).mpr hq) h
    rw [this] at hp
    exact x_ret rfl rfl rfl rfl hp
  · rw [(xb_tb _ _).mp h] at hp
    refine x_goto rfl rfl ?_
    exact x_ret rfl rfl rfl rfl hp
def wWell (S : wS) (b : Nat) : Nat := wbits (fun k => decide (5 ≤ S.K b k)) 10
theorem l_wellKnown {b : Nat} (hr : rW D w S) (ho : wok S) (hb : b < S.B) (hp : post (some (nI (wWell S b))) D) : ∀ f i, i + f = 10 → xW Γ (n + 1) hX7_wellKnown rX7_wellKnown 4 [some (xR 0 7 w), some (xI (nI b)), some (xI (nI (wbits (fun k => decide (5 ≤ S.K b k)) i))), some (xI (nI i))] [] D post := by
  intro f
  induction f with
  | zero =>
    intro i hi
    obtain rfl : i = 10 := by omega
    refine xi_geN 10 10 rfl rfl rfl rfl (by omega) (by omega) (fun _ => ?_) (fun h => absurd h (by omega))
    exact x_ret rfl rfl rfl rfl hp
  | succ f ih =>
    intro i hi
    have h9 := ho.2.2.2.2.2.2.1 b i hb (by omega)
    have IH := ih (i + 1) (by omega)
    rw [wbits, ← nI_1] at IH
    refine xi_geN i 10 rfl rfl rfl rfl (by omega) (by omega) (fun h => absurd h (by omega)) (fun h => ?_)
    refine x_call [xI (nI b), xI (nI i)] rfl rfl rfl rfl rfl rfl rfl (c_knowledge hr ho hb (by omega) ?_)
    refine xi_ltN (S.K b i) 5 rfl rfl rfl rfl (by omega) (by omega) (fun h5 => ?_) (fun h5 => ?_)
    · rw [if_neg (by simp; omega), Nat.add_zero] at IH
      exact x_goto rfl rfl IH
    · rw [if_pos (by simp; omega), ← xb_orp (wbits_lt _ _), ← xb_sh1 (by omega)] at IH
      exact x_goto rfl rfl IH
theorem c_wellKnown {b : Nat} (hr : rW D w S) (ho : wok S) (hb : b < S.B) (hp : post (some (nI (wWell S b))) D) : xRuns Γ (n + 1) hX7_wellKnown [xR 0 7 w, xI (nI b)] D post := by
  refine x_runs kX7_wellKnown (by decide +kernel) rfl ?_
  refine x_to 4 rfl ?_
  exact l_wellKnown hr ho hb hp 10 0 rfl
def wSum (f : Nat → Nat) : Nat → Nat
  | 0 => 0
  | k + 1 => wSum f k + f k
theorem l_allKnowledge {b : Nat} (hr : rW D w S) (ho : wok S) (hb : b < S.B) (hp : post (some (nI (wSum (S.K b) 10))) D) : ∀ f i, i + f = 10 → xW Γ (n + 1) hX7_allKnowledge rX7_allKnowledge 4 [some (xR 0 7 w), some (xI (nI b)), some (xI (nI (wSum (S.K b) i))), some (xI (nI i))] [] D post := by
  intro f
  induction f with
  | zero =>
    intro i hi
    obtain rfl : i = 10 := by omega
    refine xi_geN 10 10 rfl rfl rfl rfl (by omega) (by omega) (fun _ => ?_) (fun h => absurd h (by omega))
    exact x_ret rfl rfl rfl rfl hp
  | succ f ih =>
    intro i hi
    have IH := ih (i + 1) (by omega)
    rw [wSum, ← nI_1, ← nI_add] at IH
    refine xi_geN i 10 rfl rfl rfl rfl (by omega) (by omega) (fun h => absurd h (by omega)) (fun h => ?_)
    refine x_call [xI (nI b), xI (nI i)] rfl rfl rfl rfl rfl rfl rfl (c_knowledge hr ho hb (by omega) ?_)
    exact x_goto rfl rfl IH
theorem c_allKnowledge {b : Nat} (hr : rW D w S) (ho : wok S) (hb : b < S.B) (hp : post (some (nI (wSum (S.K b) 10))) D) : xRuns Γ (n + 1) hX7_allKnowledge [xR 0 7 w, xI (nI b)] D post := by
  refine x_runs kX7_allKnowledge (by decide +kernel) rfl ?_
  refine x_to 4 rfl ?_
  exact l_allKnowledge hr ho hb hp 10 0 rfl
end W1
end
section
/-! ===== World: manBeside, seat, halve, awakeOn, isSilenced, bestKnown, hearable ===== -/
theorem xby_eq {o : Option Nat} {b : Nat} (hb : b < 2 ^ 31) (ho : ∀ c, o = some c → c < 2 ^ 31) : xby o = nI b ↔ o = some b := by
  cases o with
  | none =>
    constructor
    · intro h
      have h : (-1 : Int32) = nI b := h
      have h1 := nI_toInt hb
      rw [← h] at h1
      have h2 : (-1 : Int32).toInt = -1 := by decide
      omega
    · intro h; cases h
  | some c =>
    show nI c = nI b ↔ _
    rw [nI_eq (ho c rfl) hb]
    constructor
    · intro h; rw [h]
    · intro h; exact Option.some.inj h
theorem xby_m1 {o : Option Nat} (ho : ∀ c, o = some c → c < 2 ^ 31) : xby o = -1 ↔ o = none := by
  cases o with
  | none => exact ⟨fun _ => rfl, fun _ => rfl⟩
  | some c =>
    constructor
    · intro h
      have h : nI c = (-1 : Int32) := h
      have h1 := nI_toInt (ho c rfl)
      rw [h] at h1
      have h2 : (-1 : Int32).toInt = -1 := by decide
      omega
    · intro h; cases h
def wBy (S : wS) (b : Nat) : Option Nat := (List.range S.M).find? (fun m => decide (S.bi m = some b))
theorem wBy_some {S : wS} {b m : Nat} (h : wBy S b = some m) : m < S.M ∧ S.bi m = some b := by
  have h1 := List.find?_some h
  have h2 := List.mem_of_find?_eq_some h
  exact ⟨List.mem_range.mp h2, by simpa using h1⟩
theorem wBy_none {S : wS} {b : Nat} (h : wBy S b = none) : ∀ m, m < S.M → S.bi m ≠ some b := by
  intro m hm
  have := List.find?_eq_none.mp h m (List.mem_range.mpr hm)
  simpa using this
theorem wBy_is {S : wS} {b m : Nat} (ho : wok S) (hm : m < S.M) (h : S.bi m = some b) : wBy S b = some m := by
  cases hz : wBy S b with
  | none => exact absurd h (wBy_none hz m hm)
  | some m' =>
    obtain ⟨h1, h2⟩ := wBy_some hz
    rw [ho.2.2.2.2.2.2.2.2.2 m' m b h1 hm h2 h]
section W2
variable {Γ : xG} {n : Nat} {D : xM} {post : Option Int32 → xM → Prop} {w : Nat} {S : wS}
theorem wok_bi (ho : wok S) {m : Nat} (hm : m < S.M) : ∀ c, S.bi m = some c → c < 2 ^ 31 := fun c h => by
  have h1 := ho.2.2.2.2.2.2.2.2.1 m c hm h
  have h2 := ho.1
  omega
theorem l_manBeside {b : Nat} (hr : rW D w S) (ho : wok S) (hb : b < 2 ^ 31) (hp : post (some (xby (wBy S b))) D) : ∀ f i, i + f = S.M → (∀ m, m < i → S.bi m ≠ some b) → xW Γ n hX7_manBeside rX7_manBeside 2 [some (xR 0 7 w), some (xI (nI b)), some (xI (nI i))] [] D post := by
  have hM := ho.2.1
  intro f
  induction f with
  | zero =>
    intro i hi hno
    refine xi_geN i S.M rfl rfl rfl hr.2.1 (by omega) (by omega) (fun _ => ?_) (fun h => absurd h (by omega))
    have e : wBy S b = none := by
      cases hz : wBy S b with
      | none => rfl
      | some m => exact absurd (wBy_some hz).2 (hno m (by have := (wBy_some hz).1; omega))
    rw [e] at hp
    exact x_ret rfl rfl rfl rfl hp
  | succ f ih =>
    intro i hi hno
    refine xi_geN i S.M rfl rfl rfl hr.2.1 (by omega) (by omega) (fun h => absurd h (by omega)) (fun h => ?_)
    refine x_aldN i rfl rfl rfl (by omega) rfl ?_
    rw [hr.2.2.2.2.2.2.2.2 i (by omega)]
    refine xi_ne rfl rfl (fun h2 => ?_) (fun h2 => ?_)
    · have IH := ih (i + 1) (by omega) (fun m hm => by
        by_cases e : m = i
        · subst e
          intro h3
          exact h2 ((xby_eq hb (wok_bi ho (by omega))).mpr h3)
        · exact hno m (by omega))
      rw [← nI_1] at IH
      exact x_goto rfl rfl IH
    · have h3 := (xby_eq hb (wok_bi ho (by omega))).mp h2
      have e := wBy_is ho (m := i) (by omega) h3
      rw [e] at hp
      exact x_ret rfl rfl rfl rfl hp
theorem c_manBeside {b : Nat} (hr : rW D w S) (ho : wok S) (hb : b < 2 ^ 31) (hp : post (some (xby (wBy S b))) D) : xRuns Γ n hX7_manBeside [xR 0 7 w, xI (nI b)] D post := by
  refine x_runs kX7_manBeside (by decide +kernel) rfl ?_
  refine x_to 2 rfl ?_
  exact l_manBeside hr ho hb hp S.M 0 (by omega) (fun m hm => absurd hm (by omega))
/-- a man gets a bird, or none -/
def wSeat (S : wS) (m : Nat) (o : Option Nat) : wS := wmk S.B S.M S.E S.C S.kd S.pe S.K S.ha (fun m' => if m' = m then o else if o ≠ none ∧ S.bi m' = o then none else S.bi m')
theorem rW_bic {D : xM} {w : Nat} {S : wS} {bi : Nat → Option Nat} (h : rW D w S) (hb : ∀ m, m < S.M → bi m = S.bi m) : rW D w (wmk S.B S.M S.E S.C S.kd S.pe S.K S.ha bi) := by
  obtain ⟨h1, h2, h3, h4, h5, h6, h7, h8, h9⟩ := h
  exact ⟨h1, h2, h3, h4, h5, h6, h7, h8, fun m hm => by rw [h9 m hm]; exact congrArg xby (hb m hm).symm⟩
theorem c_seat {m : Nat} {o : Option Nat} (hr : rW D w S) (ho : wok S) (hm : m < S.M) (hb : ∀ b, o = some b → b < S.B) (hp : ∀ D', rW D' w (wSeat S m o) → sameW w D D' → post none D') : xRuns Γ (n + 1) hX7_seat [xR 0 7 w, xI (nI m), xI (xby o)] D post := by
  have h4 := ho.2.1
  have h8 := ho.1
  have hlt : ∀ c, o = some c → c < 2 ^ 31 := fun c h => by have := hb c h; omega
  refine x_runs kX7_seat (by decide +kernel) rfl ?_
  have last : ∀ (D1 : xM) (bi1 : Nat → Option Nat), sameW w D D1 → rW D1 w (wmk S.B S.M S.E S.C S.kd S.pe S.K S.ha bi1) → (∀ m', m' < S.M → m' ≠ m → bi1 m' = if o ≠ none ∧ S.bi m' = o then none else S.bi m') → ∀ v, xW Γ (n + 1) hX7_seat rX7_seat 27 [some (xR 0 7 w), some (xI (nI m)), some (xI (xby o)), some (xI v)] [] D1 post := by
    intro D1 bi1 hs1 hr1 hbi v
    refine x_astN m rfl rfl rfl (by omega) rfl ?_
    refine x_vret rfl rfl rfl (hp _ ?_ (hs1.up (by omega)))
    have h1 := rW_bi (i := m) (o := o) hr1
    refine rW_bic (S := wmk S.B S.M S.E S.C S.kd S.pe S.K S.ha (wuf bi1 m o)) h1 (fun m' hm' => ?_)
    show (if m' = m then o else if o ≠ none ∧ S.bi m' = o then none else S.bi m') = wuf bi1 m o m'
    by_cases e : m' = m
    · simp [wuf, e]
    · rw [if_neg e, ← hbi m' hm' e]
      simp [wuf, e]
  cases o with
  | none =>
    refine xi_ne rfl rfl (fun h => absurd rfl h) (fun _ => ?_)
    refine x_goto rfl rfl ?_
    refine xi_eq rfl rfl (fun _ => ?_) (fun h => absurd rfl h)
    exact last D S.bi sameW.rf hr (fun m' _ _ => by simp) _
  | some b =>
    have hbB := hb b rfl
    refine xi_ne rfl rfl (fun _ => ?_) (fun h => absurd ((xby_m1 hlt).mp h) (by simp))
    refine x_call [xI (nI b)] rfl rfl rfl rfl rfl rfl rfl (c_manBeside hr ho (by omega) ?_)
    refine x_to 15 rfl ?_
    cases hz : wBy S b with
    | none =>
      refine xi_eq rfl rfl (fun _ => ?_) (fun h => absurd rfl h)
      refine last D S.bi sameW.rf hr (fun m' hm' _ => ?_) _
      have := wBy_none hz m' hm'
      simp [this]
    | some f =>
      obtain ⟨hf1, hf2⟩ := wBy_some hz
      refine xi_eq rfl rfl (fun h => ?_) (fun _ => ?_)
      · exact absurd ((xby_m1 (o := some f) (fun c hc => by cases hc; omega)).mp h) (by simp)
      · refine x_astN f rfl rfl rfl (by omega) rfl ?_
        refine last _ _ (sameW.rf.up (by omega)) (rW_bi (i := f) (o := none) hr) (fun m' hm' _ => ?_) _
        by_cases e : m' = f
        · simp [wuf, e, hf2]
        · have : S.bi m' ≠ some b := fun z => e (ho.2.2.2.2.2.2.2.2.2 m' f b hm' hf1 z hf2)
          simp [wuf, e, this]
/-- moulting -/
def wHalve (S : wS) (b : Nat) : Nat → wS
  | 0 => S
  | k + 1 => wmk S.B S.M S.E S.C S.kd S.pe (wup (wHalve S b k).K b k (S.K b k / 2)) S.ha S.bi
theorem wHalve_K (S : wS) (b : Nat) : ∀ k j, k ≤ j → (wHalve S b k).K b j = S.K b j
  | 0, _, _ => rfl
  | k + 1, j, h => by
    show wup (wHalve S b k).K b k (S.K b k / 2) b j = _
    have e : ¬ j = k := by omega
    simp only [wup, e, and_false, if_false]
    exact wHalve_K S b k j (by omega)
theorem wHalve_eq (S : wS) (b : Nat) : ∀ k, wHalve S b k = wmk S.B S.M S.E S.C S.kd S.pe (wHalve S b k).K S.ha S.bi
  | 0 => rfl
  | _ + 1 => rfl
theorem l_halve {b : Nat} (ho : wok S) (hb : b < S.B) (hp : ∀ D', rW D' w (wHalve S b 10) → sameW w D D' → post none D') : ∀ f i (D1 : xM), i + f = 10 → rW D1 w (wHalve S b i) → sameW w D D1 → xW Γ n hX7_halve rX7_halve 2 [some (xR 0 7 w), some (xI (nI b)), some (xI (nI i))] [] D1 post := by
  have h8 := ho.1
  intro f
  induction f with
  | zero =>
    intro i D1 hi hr1 hs1
    obtain rfl : i = 10 := by omega
    refine xi_geN 10 10 rfl rfl rfl rfl (by omega) (by omega) (fun _ => ?_) (fun h => absurd h (by omega))
    exact x_vret rfl rfl rfl (hp _ hr1 hs1)
  | succ f ih =>
    intro i D1 hi hr1 hs1
    have h9 := ho.2.2.2.2.2.2.1 b i hb (by omega)
    refine xi_geN i 10 rfl rfl rfl rfl (by omega) (by omega) (fun h => absurd h (by omega)) (fun h => ?_)
    refine x_aldN (b * 10 + i) rfl rfl ix10 (by omega) rfl ?_
    have e1 : D1 (w + 3) (b * 10 + i) = nI (S.K b i) := by
      rw [hr1.2.2.2.2.2.2.1 b i (by rw [wHalve_eq]; exact hb) (by omega), wHalve_K S b i i (Nat.le_refl i)]
    rw [e1]
    refine x_div rfl rfl (by decide) ?_
    refine x_astN (b * 10 + i) rfl rfl ix10 (by omega) rfl ?_
    have e2 : nI (S.K b i) / xnum 2 = nI (S.K b i / 2) := pk_div (d := 2) (by omega) (by decide) (by decide)
    rw [e2]
    have IH := ih (i + 1) (xup D1 (w + 3) (b * 10 + i) (nI (S.K b i / 2))) (by omega) (by
      have := rW_K (b := b) (k := i) (v := S.K b i / 2) hr1 (by omega)
      rw [wHalve_eq] at this
      exact this) (hs1.up (by omega))
    rw [← nI_1] at IH
    exact x_goto rfl rfl IH
theorem c_halve {b : Nat} (hr : rW D w S) (ho : wok S) (hb : b < S.B) (hp : ∀ D', rW D' w (wHalve S b 10) → sameW w D D' → post none D') : xRuns Γ n hX7_halve [xR 0 7 w, xI (nI b)] D post := by
  refine x_runs kX7_halve (by decide +kernel) rfl ?_
  refine x_to 2 rfl ?_
  exact l_halve ho hb hp 10 0 D rfl hr sameW.rf
end W2
end
section
/-! ===== World: awakeOn, isSilenced, bestKnown, hearable ===== -/
/-- a local is forgotten -/
theorem x_drop {Γ : xG} {n : Nat} {h : xHd} {rows : List xRow} {post : Option Int32 → xM → Prop} (i : Nat) {pc : Nat} {lv : List (Option xV)} {st : List xV} {D : xM} (kk : xW Γ n h rows pc (lv.set i none) st D post) : xW Γ n h rows pc lv st D post := by
  intro p e R s m args below meth c H locs cells slots Q ls C hH hS hl hst hret
  refine kk p e R s m args below meth c H locs cells slots Q ls C hH hS ⟨hl.1, hl.2.1, fun j v hj => ?_, by rw [List.length_set]; exact hl.2.2.2⟩ hst hret
  by_cases e1 : j = i
  · subst e1
    by_cases hlt : j < lv.length
    · rw [List.getElem?_set_self hlt] at hj; cases hj
    · rw [List.getElem?_eq_none (by simp; omega)] at hj; cases hj
  · rw [List.getElem?_set_ne (Ne.symm e1)] at hj
    exact hl.2.2.1 j v hj
theorem xb_m1 (i : Nat) : (-1 : Int32).toBitVec.getLsbD i = decide (i < 32) := by
  have e : (-1 : Int32).toBitVec = BitVec.allOnes 32 := by decide
  rw [e, BitVec.getLsbD_allOnes]
theorem xb_andn {a c r : Nat} (ha : a < 2 ^ 31) (h : ∀ i, r.testBit i = (a.testBit i && !c.testBit i)) : nI a &&& (nI c ^^^ -1) = nI r := by
  apply Int32.toBitVec_inj.1
  apply BitVec.eq_of_getLsbD_eq
  intro i hi
  show ((BitVec.ofNat 32 a) &&& ((BitVec.ofNat 32 c) ^^^ (-1 : Int32).toBitVec)).getLsbD i = (BitVec.ofNat 32 r).getLsbD i
  rw [BitVec.getLsbD_and, BitVec.getLsbD_xor, xb_m1, BitVec.getLsbD_ofNat, BitVec.getLsbD_ofNat, BitVec.getLsbD_ofNat, h]
  simp [hi]
/-- who stands there, uncovered, by bits -/
def wAw (S : wS) (p : Nat) : Nat := wbits (fun b => decide (S.pe b = p) && !S.C.testBit b) S.B
theorem wAw_lt {S : wS} (ho : wok S) (p : Nat) : wAw S p < 256 := by
  have h1 := wbits_lt (fun b => decide (S.pe b = p) && !S.C.testBit b) S.B
  have h2 : (2 : Nat) ^ S.B ≤ 2 ^ 8 := Nat.pow_le_pow_right (by decide) ho.1
  show wbits _ _ < _
  omega
theorem p2_lt {i : Nat} (h : i ≤ 8) : (2 : Nat) ^ i ≤ 256 := Nat.pow_le_pow_right (by decide) h
section W3
variable {Γ : xG} {n : Nat} {D : xM} {post : Option Int32 → xM → Prop} {w : Nat} {S : wS}
theorem l_awakeOn {p : Nat} (hr : rW D w S) (ho : wok S) (hp4 : p < 4) (hp : post (some (nI (wAw S p))) D) : ∀ f i, i + f = S.B → xW Γ n hX7_awakeOn rX7_awakeOn 4 [some (xR 0 7 w), some (xI (nI p)), some (xI (nI (wbits (fun b => decide (S.pe b = p)) i))), some (xI (nI i))] [] D post := by
  have h8 := ho.1
  intro f
  induction f with
  | zero =>
    intro i hi
    obtain rfl : i = S.B := by omega
    have hl := wbits_lt (fun b => decide (S.pe b = p)) S.B
    have h2 := p2_lt h8
    refine xi_geN S.B S.B rfl rfl rfl hr.1 (by omega) (by omega) (fun _ => ?_) (fun h => absurd h (by omega))
    have e : nI (wbits (fun b => decide (S.pe b = p)) S.B) &&& (nI S.C ^^^ -1) = nI (wAw S p) := xb_andn (by omega) (fun i => by
      rw [wAw, wbits_tb, wbits_tb, Bool.and_assoc])
    have e2 : nI (wbits (fun b => decide (S.pe b = p)) S.B) &&& (D w 3 ^^^ xnum (-1)) = nI (wAw S p) := by rw [hr.2.2.2.1]; exact e
    refine x_ret rfl rfl rfl rfl ?_
    rw [e2]
    exact hp
  | succ f ih =>
    intro i hi
    have IH := ih (i + 1) (by omega)
    rw [wbits, ← nI_1] at IH
    have h4 := ho.2.2.2.2.2.1 i (by omega)
    refine xi_geN i S.B rfl rfl rfl hr.1 (by omega) (by omega) (fun h => absurd h (by omega)) (fun h => ?_)
    refine x_aldN i rfl rfl rfl (by omega) rfl ?_
    rw [hr.2.2.2.2.2.1 i (by omega)]
    refine xi_neN (S.pe i) p rfl rfl rfl rfl (by omega) (by omega) (fun h2 => ?_) (fun h2 => ?_)
    · rw [if_neg (by simpa using h2), Nat.add_zero] at IH
      exact x_goto rfl rfl IH
    · rw [if_pos (by simpa using h2), ← xb_orp (wbits_lt _ _), ← xb_sh1 (by omega)] at IH
      exact x_goto rfl rfl IH
theorem c_awakeOn {p : Nat} (hr : rW D w S) (ho : wok S) (hp4 : p < 4) (hp : post (some (nI (wAw S p))) D) : xRuns Γ n hX7_awakeOn [xR 0 7 w, xI (nI p)] D post := by
  refine x_runs kX7_awakeOn (by decide +kernel) rfl ?_
  refine x_to 4 rfl ?_
  exact l_awakeOn hr ho hp4 hp S.B 0 (by omega)
/-- a bird there silences -/
def wSil (S : wS) (aw : Nat) : Bool := (List.range S.B).any (fun b => aw.testBit b && decide (S.kd b = 3))
theorem l_isSilenced {aw : Nat} (hr : rW D w S) (ho : wok S) (ha : aw < 256) (hp : post (some (if wSil S aw then 1 else 0)) D) : ∀ f i, i + f = S.B → (∀ b, b < i → (aw.testBit b && decide (S.kd b = 3)) = false) → xW Γ n hX7_isSilenced rX7_isSilenced 2 [some (xR 0 7 w), some (xI (nI aw)), some (xI (nI i))] [] D post := by
  have h8 := ho.1
  intro f
  induction f with
  | zero =>
    intro i hi hno
    obtain rfl : i = S.B := by omega
    refine xi_geN S.B S.B rfl rfl rfl hr.1 (by omega) (by omega) (fun _ => ?_) (fun h => absurd h (by omega))
    have e : wSil S aw = false := by
      rw [wSil, List.any_eq_false]
      intro b hb
      have := hno b (List.mem_range.mp hb)
      simpa using this
    rw [e] at hp
    exact x_ret rfl rfl rfl rfl hp
  | succ f ih =>
    intro i hi hno
    have h5 := ho.2.2.2.2.1 i (by omega)
    have next : (aw.testBit i && decide (S.kd i = 3)) = false → xW Γ n hX7_isSilenced rX7_isSilenced 31 [some (xR 0 7 w), some (xI (nI aw)), some (xI (nI i))] [] D post := by
      intro h
      have IH := ih (i + 1) (by omega) (fun b hb => by
        by_cases e : b = i
        · rw [e]; exact h
        · exact hno b (by omega))
      rw [← nI_1] at IH
      exact x_goto rfl rfl IH
    refine xi_geN i S.B rfl rfl rfl hr.1 (by omega) (by omega) (fun h => absurd h (by omega)) (fun h => ?_)
    refine xi_neN (aw / 2 ^ i % 2) 1 rfl rfl (xb_bit (by omega) (by omega)) rfl (by omega) (by omega) (fun h2 => ?_) (fun h2 => ?_)
    · refine next ?_
      cases hq : aw.testBit i with
      | false => rfl
      | true => exact absurd ((xb_tb _ _).mpr hq) h2
    · refine x_aldN i rfl rfl rfl (by omega) rfl ?_
      rw [hr.2.2.2.2.1 i (by omega)]
      refine xi_neN (S.kd i) 3 rfl rfl rfl rfl (by omega) (by omega) (fun h3 => ?_) (fun h3 => ?_)
      · exact next (by simp [h3])
      · have e : wSil S aw = true := by
          rw [wSil, List.any_eq_true]
          exact ⟨i, List.mem_range.mpr (by omega), by simp [(xb_tb _ _).mp h2, h3]⟩
        rw [e] at hp
        exact x_ret rfl rfl rfl rfl hp
theorem c_isSilenced {aw : Nat} (hr : rW D w S) (ho : wok S) (ha : aw < 256) (hp : post (some (if wSil S aw then 1 else 0)) D) : xRuns Γ n hX7_isSilenced [xR 0 7 w, xI (nI aw)] D post := by
  refine x_runs kX7_isSilenced (by decide +kernel) rfl ?_
  refine x_to 2 rfl ?_
  exact l_isSilenced hr ho ha hp S.B 0 (by omega) (fun b hb => absurd hb (by omega))
/-- the word best known, of as well known ones the least, without some -/
def wBst (f : Nat → Nat) (wo : Nat) : Nat → Option Nat × Nat
  | 0 => (none, 0)
  | k + 1 => if (wBst f wo k).2 < f k ∧ wo.testBit k = false then (some k, f k) else wBst f wo k
theorem wBst_le {f : Nat → Nat} {wo c : Nat} : ∀ k, (∀ j, j < k → f j ≤ c) → (wBst f wo k).2 ≤ c
  | 0, _ => Nat.zero_le _
  | k + 1, h => by
    rw [wBst]
    split
    · exact h k (by omega)
    · exact wBst_le k (fun j hj => h j (by omega))
theorem wBst_lt {f : Nat → Nat} {wo : Nat} : ∀ k b, (wBst f wo k).1 = some b → b < k
  | 0, _, h => by cases h
  | k + 1, b, h => by
    rw [wBst] at h
    split at h
    · cases h; omega
    · have := wBst_lt k b h; omega
theorem l_bestKnown {b wo : Nat} (hr : rW D w S) (ho : wok S) (hb : b < S.B) (hwo : wo < 1024) (hp : post (some (xby (wBst (S.K b) wo 10).1)) D) : ∀ f i, i + f = 10 → xW Γ n hX7_bestKnown rX7_bestKnown 8 [some (xR 0 7 w), some (xI (nI b)), some (xI (nI wo)), some (xI (xby (wBst (S.K b) wo i).1)), some (xI (nI (wBst (S.K b) wo i).2)), some (xI (nI i)), none] [] D post := by
  have h8 := ho.1
  intro f
  induction f with
  | zero =>
    intro i hi
    obtain rfl : i = 10 := by omega
    refine xi_geN 10 10 rfl rfl rfl rfl (by omega) (by omega) (fun _ => ?_) (fun h => absurd h (by omega))
    exact x_ret rfl rfl rfl rfl hp
  | succ f ih =>
    intro i hi
    have h9 := ho.2.2.2.2.2.2.1 b i hb (by omega)
    have hle := wBst_le (f := S.K b) (wo := wo) (c := 9) i (fun j hj => ho.2.2.2.2.2.2.1 b j hb (by omega))
    have IH := ih (i + 1) (by omega)
    rw [wBst, ← nI_1] at IH
    refine xi_geN i 10 rfl rfl rfl rfl (by omega) (by omega) (fun h => absurd h (by omega)) (fun h => ?_)
    refine x_aldN (b * 10 + i) rfl rfl ix10 (by omega) rfl ?_
    rw [hr.2.2.2.2.2.2.1 b i hb (by omega)]
    refine xi_leN (S.K b i) (wBst (S.K b) wo i).2 rfl rfl rfl rfl (by omega) (by omega) (fun h2 => ?_) (fun h2 => ?_)
    · rw [if_neg (by omega)] at IH
      exact x_goto rfl rfl (x_drop 6 IH)
    · have e : (nI wo >>> (nI i &&& 31)) &&& xnum 1 = nI (wo / 2 ^ i % 2) := xb_bit (by omega) (by omega)
      refine x0_ne rfl rfl (fun h3 => ?_) (fun h3 => ?_)
      · rw [e] at h3
        have ht : wo.testBit i = true := by
          cases hq : wo.testBit i with
          | true => rfl
          | false =>
            have : ¬ wo / 2 ^ i % 2 = 1 := fun z => by rw [(xb_tb _ _).mp z] at hq; cases hq
            have : wo / 2 ^ i % 2 = 0 := by omega
            rw [this] at h3
            exact absurd rfl h3
        rw [if_neg (by rw [ht]; simp)] at IH
        exact x_goto rfl rfl (x_drop 6 IH)
      · rw [e] at h3
        have ht : wo.testBit i = false := by
          cases hq : wo.testBit i with
          | false => rfl
          | true =>
            rw [(xb_tb _ _).mpr hq] at h3
            exact absurd h3 (by decide)
        rw [if_pos ⟨h2, ht⟩] at IH
        exact x_goto rfl rfl (x_drop 6 IH)
theorem c_bestKnown {b wo : Nat} (hr : rW D w S) (ho : wok S) (hb : b < S.B) (hwo : wo < 1024) (hp : post (some (xby (wBst (S.K b) wo 10).1)) D) : xRuns Γ n hX7_bestKnown [xR 0 7 w, xI (nI b), xI (nI wo)] D post := by
  refine x_runs kX7_bestKnown (by decide +kernel) rfl ?_
  refine x_to 8 rfl ?_
  exact l_bestKnown hr ho hb hwo hp 10 0 rfl
/-- a set without one -/
def wWo (a b : Nat) : Nat := wbits (fun i => a.testBit i && !decide (i = b)) 8
theorem wWo_lt (a b : Nat) : wWo a b < 256 := wbits_lt _ 8
theorem wWo_tb {a b : Nat} (ha : a < 256) (i : Nat) : (wWo a b).testBit i = (a.testBit i && !decide (i = b)) := by
  rw [wWo, wbits_tb]
  by_cases h : i < 8
  · simp [h]
  · have : a.testBit i = false := Nat.testBit_lt_two_pow (Nat.lt_of_lt_of_le ha (by have : (2:Nat) ^ 8 ≤ 2 ^ i := Nat.pow_le_pow_right (by decide) (by omega); omega))
    simp [h, this]
theorem wWo_I {a b : Nat} (ha : a < 256) (hb : b < 31) : nI a &&& ((nI 1 <<< (nI b &&& 31)) ^^^ -1) = nI (wWo a b) := by
  rw [xb_sh1 hb]
  refine xb_andn (by omega) (fun i => ?_)
  rw [wWo_tb ha, Nat.testBit_two_pow]
  simp [eq_comm]
theorem c_hearable {b : Nat} (hr : rW D w S) (ho : wok S) (hb : b < S.B) (hp : post (some (nI (wWo (wAw S (S.pe b)) b))) D) : xRuns Γ (n + 1) hX7_hearable [xR 0 7 w, xI (nI b)] D post := by
  have h8 := ho.1
  refine x_runs kX7_hearable (by decide +kernel) rfl ?_
  refine x_aldN b rfl rfl rfl (by omega) rfl ?_
  rw [hr.2.2.2.2.2.1 b hb]
  refine x_call [xI (nI (S.pe b))] rfl rfl rfl rfl rfl rfl rfl (c_awakeOn hr ho (ho.2.2.2.2.2.1 b hb) ?_)
  refine x_ret rfl rfl rfl rfl ?_
  have e : nI (wAw S (S.pe b)) &&& ((xnum 1 <<< (nI b &&& 31)) ^^^ xnum (-1)) = nI (wWo (wAw S (S.pe b)) b) := wWo_I (wAw_lt ho _) (by omega)
  rw [e]
  exact hp
end W3
end
section
/-! ===== the JDK's small numbers; Speech ===== -/
section XMM
variable {Γ : xG} {n : Nat} {h : xHd} {rows : List xRow} {post : Option Int32 → xM → Prop}
set_option maxHeartbeats 4000000 in
theorem x_max {pc pc' b : Nat} {lv lv' : List (Option xV)} {st : List xV} {D D' : xM} {idx : Nat} {x y : Int32} {rest : List xV} (h1 : xrun rows xN 60 pc lv st D = some (pc', lv', .inl y :: .inl x :: rest, D')) (hr : xrw rows pc' = some (.invokestatic idx, 3, iJ9_max_7cf53, b)) (hroom : Nat.ble ((rest.map xcat).sum) 8 = true)
    (kk : xW Γ (n + 1) h rows (pc' + 3) lv' (.inl (if x < y then y else x) :: rest) D' post) : xW Γ (n + 1) h rows pc lv st D post := by
  refine x_to xN h1 ?_
  intro p e R s m args below meth c H locs cells slots Q ls C hH hS hl hst hret
  obtain ⟨hx, hb, hml, hrt, hlk, hown, hts, hs, hck, hR⟩ := id C
  have hok := xck_row hck hr
  have hd := xok_dec hok
  have hok2 := (xand hok).2
  have ha2 : ¬ iJ9_max_7cf53 = 1000 := by decide
  have hg : xsg[iJ9_max_7cf53]? = some hJ9_max_7cf53 := rfl
  simp only [if_neg ha2] at hok2
  obtain ⟨p1, hp1⟩ := xzip (p := xmlp) xml_len (of_decide_eq_true (xand hok2).1)
  obtain ⟨p2, hp2⟩ := xzip (p := xmsp) xms_len (of_decide_eq_true (xand hok2).2)
  have c1 := List.all_eq_true.mp xml_ok _ hp1
  have w2 := List.all_eq_true.mp xms_ok _ hp2
  have c3 := xmapz xms_c _ hp2
  simp only [xmlB, xmsB, hg] at c1 w2 c3
  have c3 := xcd_in c3
  obtain ⟨q01, q2⟩ := xand w2
  obtain ⟨q1, c2⟩ := xand q01
  have hcat : ((rest.map (xcv Γ)).map fun v => v.category).sum ≤ 8 := by
    have := Nat.le_of_ble_eq_true hroom
    rw [List.map_map]
    have e2 : (Value.category ∘ xcv Γ) = xcat := funext (xcat_ok Γ)
    show (List.map (Value.category ∘ xcv Γ) rest).sum ≤ 8
    rw [e2]
    exact this
  exact va_mmax hx hb (hml.trans hl.1.symm) hown (hts _ (xat_mem c1)) (hts _ (xat_mem q2)) (hts _ (xat_mem c2)) (hts _ c3) (by have := hR.1; omega) (by have := hR.2.1; omega) hR.2.2.1 hR.2.2.2 hd (kk p e R s m args below meth c H locs cells slots Q ls C hH hS hl (xfc trivial (xft (xft hst))) hret)
set_option maxHeartbeats 4000000 in
theorem x_min {pc pc' b : Nat} {lv lv' : List (Option xV)} {st : List xV} {D D' : xM} {idx : Nat} {x y : Int32} {rest : List xV} (h1 : xrun rows xN 60 pc lv st D = some (pc', lv', .inl y :: .inl x :: rest, D')) (hr : xrw rows pc' = some (.invokestatic idx, 3, iJ9_min_7cf53, b)) (hroom : Nat.ble ((rest.map xcat).sum) 8 = true)
    (kk : xW Γ (n + 1) h rows (pc' + 3) lv' (.inl (if y < x then y else x) :: rest) D' post) : xW Γ (n + 1) h rows pc lv st D post := by
  refine x_to xN h1 ?_
  intro p e R s m args below meth c H locs cells slots Q ls C hH hS hl hst hret
  obtain ⟨hx, hb, hml, hrt, hlk, hown, hts, hs, hck, hR⟩ := id C
  have hok := xck_row hck hr
  have hd := xok_dec hok
  have hok2 := (xand hok).2
  have ha2 : ¬ iJ9_min_7cf53 = 1000 := by decide
  have hg : xsg[iJ9_min_7cf53]? = some hJ9_min_7cf53 := rfl
  simp only [if_neg ha2] at hok2
  obtain ⟨p1, hp1⟩ := xzip (p := xmlp) xml_len (of_decide_eq_true (xand hok2).1)
  obtain ⟨p2, hp2⟩ := xzip (p := xmsp) xms_len (of_decide_eq_true (xand hok2).2)
  have c1 := List.all_eq_true.mp xml_ok _ hp1
  have w2 := List.all_eq_true.mp xms_ok _ hp2
  have c3 := xmapz xms_c _ hp2
  simp only [xmlB, xmsB, hg] at c1 w2 c3
  have c3 := xcd_in c3
  obtain ⟨q01, q2⟩ := xand w2
  obtain ⟨q1, c2⟩ := xand q01
  have hcat : ((rest.map (xcv Γ)).map fun v => v.category).sum ≤ 8 := by
    have := Nat.le_of_ble_eq_true hroom
    rw [List.map_map]
    have e2 : (Value.category ∘ xcv Γ) = xcat := funext (xcat_ok Γ)
    show (List.map (Value.category ∘ xcv Γ) rest).sum ≤ 8
    rw [e2]
    exact this
  exact va_mmin hx hb (hml.trans hl.1.symm) hown (hts _ (xat_mem c1)) (hts _ (xat_mem q2)) (hts _ (xat_mem c2)) (hts _ c3) (by have := hR.1; omega) (by have := hR.2.1; omega) hR.2.2.1 hR.2.2.2 hd (kk p e R s m args below meth c H locs cells slots Q ls C hH hS hl (xfc trivial (xft (xft hst))) hret)
end XMM
section JN
variable {Γ : xG} {n : Nat} {D : xM} {post : Option Int32 → xM → Prop}
def jus (x y : Int32) : Int32 := (x.toUInt32 >>> (y.toUInt32 &&& Int32.toUInt32 31)).toInt32
def jn1 (y z : Int32) : Int32 := z + jus y 1
def jn2 (y z : Int32) : Int32 := if y ≤ 4 then jn1 y z else jn1 (jus y 2) (z + 2)
def jn4 (y z : Int32) : Int32 := if y ≤ 16 then jn2 y z else jn2 (jus y 4) (z + 4)
def jn8 (y z : Int32) : Int32 := if y ≤ 256 then jn4 y z else jn4 (jus y 8) (z + 8)
def jn16 (y z : Int32) : Int32 := if y ≤ 65536 then jn8 y z else jn8 (jus y 16) (z + 16)
def jntz (x : Int32) : Int32 := if 0 < (x ^^^ -1) &&& (x - 1) then jn16 ((x ^^^ -1) &&& (x - 1)) 1 else ((x ^^^ -1) &&& (x - 1)) &&& 32
theorem c_ntz {x : Int32} (hp : post (some (jntz x)) D) : xRuns Γ n hJ6_numberOfTrailingZeros_0f7a4 [xI x] D post := by
  refine x_runs kJ6_numberOfTrailingZeros_0f7a4 (by decide +kernel) rfl ?_
  have s1 : ∀ y z, post (some (jn1 y z)) D → xW Γ n hJ6_numberOfTrailingZeros_0f7a4 rJ6_numberOfTrailingZeros_0f7a4 74 [some (xI y), some (xI z)] [] D post := fun y z h => x_ret rfl rfl rfl rfl h
  have s2 : ∀ y z, post (some (jn2 y z)) D → xW Γ n hJ6_numberOfTrailingZeros_0f7a4 rJ6_numberOfTrailingZeros_0f7a4 62 [some (xI y), some (xI z)] [] D post := by
    intro y z h
    refine xi_le rfl rfl (fun c => ?_) (fun c => ?_)
    · have c : y ≤ 4 := c
      rw [jn2, if_pos c] at h
      exact s1 _ _ h
    · have c : ¬ y ≤ 4 := c
      rw [jn2, if_neg c] at h
      exact x_to 74 rfl (s1 _ _ h)
  have s4 : ∀ y z, post (some (jn4 y z)) D → xW Γ n hJ6_numberOfTrailingZeros_0f7a4 rJ6_numberOfTrailingZeros_0f7a4 49 [some (xI y), some (xI z)] [] D post := by
    intro y z h
    refine xi_le rfl rfl (fun c => ?_) (fun c => ?_)
    · have c : y ≤ 16 := c
      rw [jn4, if_pos c] at h
      exact s2 _ _ h
    · have c : ¬ y ≤ 16 := c
      rw [jn4, if_neg c] at h
      exact x_to 62 rfl (s2 _ _ h)
  have s8 : ∀ y z, post (some (jn8 y z)) D → xW Γ n hJ6_numberOfTrailingZeros_0f7a4 rJ6_numberOfTrailingZeros_0f7a4 34 [some (xI y), some (xI z)] [] D post := by
    intro y z h
    refine xi_le rfl rfl (fun c => ?_) (fun c => ?_)
    · have c : y ≤ 256 := c
      rw [jn8, if_pos c] at h
      exact s4 _ _ h
    · have c : ¬ y ≤ 256 := c
      rw [jn8, if_neg c] at h
      exact x_to 49 rfl (s4 _ _ h)
  have s16 : ∀ y z, post (some (jn16 y z)) D → xW Γ n hJ6_numberOfTrailingZeros_0f7a4 rJ6_numberOfTrailingZeros_0f7a4 19 [some (xI y), some (xI z)] [] D post := by
    intro y z h
    refine xi_le rfl rfl (fun c => ?_) (fun c => ?_)
    · have c : y ≤ 65536 := c
      rw [jn16, if_pos c] at h
      exact s8 _ _ h
    · have c : ¬ y ≤ 65536 := c
      rw [jn16, if_neg c] at h
      exact x_to 34 rfl (s8 _ _ h)
  refine x0_gt rfl rfl (fun c => ?_) (fun c => ?_)
  · have c : 0 < (x ^^^ -1) &&& (x - 1) := c
    rw [jntz, if_pos c] at hp
    exact x_to 19 rfl (s16 _ _ hp)
  · have c : ¬ 0 < (x ^^^ -1) &&& (x - 1) := c
    rw [jntz, if_neg c] at hp
    exact x_ret rfl rfl rfl rfl hp
/-- the least of a set of words -/
def wLow (c : Nat) : Nat := ((List.range 10).find? (fun i => c.testBit i)).getD 0
theorem jntz_low : ∀ c, c < 1024 → 0 < c → jntz (nI c) = nI (wLow c) := by decide +kernel
def jbc (x : Int32) : Int32 :=
  let a := x - (jus x 1 &&& 1431655765)
  let b := (a &&& 858993459) + (jus a 2 &&& 858993459)
  let c := (b + jus b 4) &&& 252645135
  let d := c + jus c 8
  let e := d + jus d 16
  e &&& 63
theorem c_bitCount {x : Int32} (hp : post (some (jbc x)) D) : xRuns Γ n hJ6_bitCount_0f7a4 [xI x] D post := by
  refine x_runs kJ6_bitCount_0f7a4 (by decide +kernel) rfl ?_
  exact x_ret rfl rfl rfl rfl hp
/-- how many are in a set -/
def wCnt (c : Nat) : Nat := wSum (fun i => if c.testBit i then 1 else 0) 10
theorem jbc_cnt : ∀ c, c < 1024 → jbc (nI c) = nI (wCnt c) := by decide +kernel
end JN
/-- what was said, on each perch -/
def rP (D : xM) (a c : Nat) (sp : Nat → List Nat) : Prop := ∀ p, p < 4 → D c p = nI (sp p).length ∧ ∀ j, j < (sp p).length → D a (p * 16 + j) = nI ((sp p).getD j 0)
theorem rP_add {D : xM} {a c p k : Nat} {sp : Nat → List Nat} (h : rP D a c sp) (hac : a ≠ c) (hp : p < 4) (hl : (sp p).length < 16) (hall : ∀ q, q < 4 → (sp q).length ≤ 16) : rP (xup (xup D a (p * 16 + (sp p).length) (nI k)) c p (nI ((sp p).length + 1))) a c (wuf sp p (sp p ++ [k])) := by
  intro q hq
  obtain ⟨h1, h2⟩ := h q hq
  have hlq := hall q hq
  by_cases e : q = p
  · subst e
    refine ⟨by simp [xup, wuf], fun j hj => ?_⟩
    have hj : j < (sp q).length + 1 := by simpa [wuf] using hj
    have e1 : wuf sp q (sp q ++ [k]) q = sp q ++ [k] := by simp [wuf]
    rw [e1]
    by_cases ej : j = (sp q).length
    · subst ej
      simp [xup, hac]
    · have : ¬ (q * 16 + j = q * 16 + (sp q).length) := by omega
      simp only [xup, hac, this, and_false, false_and, if_false]
      rw [h2 j (by omega), List.getD_eq_getElem?_getD, List.getD_eq_getElem?_getD, List.getElem?_append_left (by omega)]
  · have e1 : wuf sp p (sp p ++ [k]) q = sp q := by simp [wuf, e]
    rw [e1]
    refine ⟨by simp [xup, e, Ne.symm hac, h1], fun j hj => ?_⟩
    have : ¬ (q * 16 + j = p * 16 + (sp p).length) := by omega
    simp only [xup, hac, this, and_false, false_and, if_false]
    exact h2 j hj
section SP
variable {Γ : xG} {n : Nat} {D : xM} {post : Option Int32 → xM → Prop} {sp : Nat → List Nat}
theorem ix16 {b k : Nat} : nI b * xnum 16 + nI k = nI (b * 16 + k) := by
  show nI b * nI 16 + nI k = _
  rw [pk_mul, nI_add]
theorem c_spAdd {p k : Nat} (hr : rP D 34 35 sp) (hall : ∀ q, q < 4 → (sp q).length ≤ 16) (hp4 : p < 4) (hl : (sp p).length < 16) (hp : ∀ D', rP D' 34 35 (wuf sp p (sp p ++ [k])) → (∀ a, a ≠ 34 → a ≠ 35 → D' a = D a) → post none D') : xRuns Γ n hX4_add [xR 0 4 33, xI (nI p), xI (nI k)] D post := by
  have h1 := (hr p hp4).1
  refine x_runs kX4_add (by decide +kernel) rfl ?_
  refine x_aldN p rfl rfl rfl (by omega) rfl ?_
  refine xi_geN (sp p).length 16 rfl rfl h1 rfl (by omega) (by omega) (fun h => absurd h (by omega)) (fun h => ?_)
  refine x_aldN p rfl rfl rfl (by omega) rfl ?_
  refine x_astN (p * 16 + (sp p).length) rfl rfl (by rw [h1]; exact ix16) (by omega) rfl ?_
  refine x_aldN p rfl rfl rfl (by omega) rfl ?_
  refine x_astN p rfl rfl rfl (by omega) rfl ?_
  refine x_vret rfl rfl rfl ?_
  have e : xup D 34 (p * 16 + (sp p).length) (nI k) 35 p + xnum 1 = nI ((sp p).length + 1) := by
    have : xup D 34 (p * 16 + (sp p).length) (nI k) 35 p = nI (sp p).length := by simpa [xup] using h1
    rw [this]
    exact nI_1 _
  rw [e]
  exact hp _ (rP_add hr (by decide) hp4 hl hall) (fun a ha hb => by rw [xup_ne a hb, xup_ne a ha])
theorem l_spClear (hp : ∀ D', rP D' 34 35 (fun _ => []) → (∀ a, a ≠ 35 → D' a = D a) → post none D') : ∀ f i (D1 : xM), i + f = 4 → (∀ q, q < i → D1 35 q = nI 0) → (∀ a, a ≠ 35 → D1 a = D a) → xW Γ n hX4_clear rX4_clear 2 [some (xR 0 4 33), some (xI (nI i))] [] D1 post := by
  intro f
  induction f with
  | zero =>
    intro i D1 hi hz hs
    obtain rfl : i = 4 := by omega
    refine xi_geN 4 4 rfl rfl rfl rfl (by omega) (by omega) (fun _ => ?_) (fun h => absurd h (by omega))
    exact x_vret rfl rfl rfl (hp D1 (fun q hq => ⟨hz q hq, fun j hj => absurd hj (by simp)⟩) hs)
  | succ f ih =>
    intro i D1 hi hz hs
    refine xi_geN i 4 rfl rfl rfl rfl (by omega) (by omega) (fun h => absurd h (by omega)) (fun h => ?_)
    refine x_astN i rfl rfl rfl (by omega) rfl ?_
    have IH := ih (i + 1) (xup D1 35 i (nI 0)) (by omega) (fun q hq => by
      by_cases e : q = i
      · simp [xup, e]
      · simp only [xup, e, and_false, if_false]
        exact hz q (by omega)) (fun a ha => by rw [xup_ne a ha]; exact hs a ha)
    rw [← nI_1] at IH
    exact x_goto rfl rfl IH
theorem c_spClear (hp : ∀ D', rP D' 34 35 (fun _ => []) → (∀ a, a ≠ 35 → D' a = D a) → post none D') : xRuns Γ n hX4_clear [xR 0 4 33] D post := by
  refine x_runs kX4_clear (by decide +kernel) rfl ?_
  refine x_to 2 rfl ?_
  exact l_spClear hp 4 0 D rfl (fun q hq => absurd hq (by omega)) (fun _ _ => rfl)
theorem c_wordAt {p i : Nat} (hr : rP D 34 35 sp) (hall : ∀ q, q < 4 → (sp q).length ≤ 16) (hp4 : p < 4) (hi : i < 16) (hp : post (some (xby ((sp p)[i]?))) D) : xRuns Γ n hX4_wordAt [xR 0 4 33, xI (nI p), xI (nI i)] D post := by
  obtain ⟨h1, h2⟩ := hr p hp4
  have hl := hall p hp4
  refine x_runs kX4_wordAt (by decide +kernel) rfl ?_
  refine x_aldN p rfl rfl rfl (by omega) rfl ?_
  refine xi_geN i (sp p).length rfl rfl rfl h1 (by omega) (by omega) (fun h => ?_) (fun h => ?_)
  · rw [List.getElem?_eq_none (by omega)] at hp
    exact x_ret rfl rfl rfl rfl hp
  · refine x_aldN (p * 16 + i) rfl rfl ix16 (by omega) rfl ?_
    refine x_goto rfl rfl ?_
    refine x_ret rfl rfl rfl rfl ?_
    rw [h2 i h]
    have e : (sp p)[i]? = some ((sp p).getD i 0) := by rw [List.getD_eq_getElem?_getD, List.getElem?_eq_getElem h]; rfl
    rw [e] at hp
    exact hp
end SP
end
section
/-! ===== an evening: spread, speak, speakOn, lose, handOver, passEvening ===== -/
abbrev wKf : Type := Nat → Nat → Nat
abbrev wK (S : wS) (K : wKf) : wS := wmk S.B S.M S.E S.C S.kd S.pe K S.ha S.bi
def kok (B : Nat) (K : wKf) : Prop := ∀ b k, b < B → k < 10 → K b k ≤ 9
theorem wok_K {S : wS} {K : wKf} (ho : wok S) (hK : kok S.B K) : wok (wK S K) := by
  obtain ⟨h1, h2, h3, h4, h5, h6, h7, h8⟩ := ho
  exact ⟨h1, h2, h3, h4, h5, h6, hK, h8⟩
theorem wok_kok {S : wS} (ho : wok S) : kok S.B S.K := ho.2.2.2.2.2.2.1
def kLearn (K : wKf) (b k v : Nat) : wKf := wup K b k (min 9 (K b k + v))
theorem kok_learn {B : Nat} {K : wKf} (h : kok B K) (b k v : Nat) : kok B (kLearn K b k v) := by
  intro c j hc hj
  rw [kLearn, wup]
  split
  · exact Nat.min_le_left _ _
  · exact h c j hc hj
def kSpr (kd : Nat → Nat) (K : wKf) (k hs : Nat) : Nat → wKf
  | 0 => K
  | b + 1 => if hs.testBit b then kLearn (kSpr kd K k hs b) b k (wHears (kd b)) else kSpr kd K k hs b
theorem kok_spr {B : Nat} {kd : Nat → Nat} {K : wKf} (h : kok B K) (k hs : Nat) : ∀ b, kok B (kSpr kd K k hs b)
  | 0 => h
  | b + 1 => by
    rw [kSpr]
    split
    · exact kok_learn (kok_spr h k hs b) _ _ _
    · exact kok_spr h k hs b
theorem wHears_le (k : Nat) : wHears k ≤ 2 := by
  match k with
  | 0 => decide
  | 1 => decide
  | 2 => decide
  | 3 => decide
  | 4 => decide
  | k + 5 => simp [wHears]
theorem wtab1 : ∀ k, k < 5 → xtv 1 k = nI (wHears k) := by decide +kernel
theorem wtab2 : ∀ k, k < 5 → xtv 2 k = nI (wGets k) := by decide +kernel
theorem wtab3 : ∀ k, k < 5 → xtv 3 k = nI (wSays k) := by decide +kernel
theorem wtab4 : ∀ k, k < 5 → xtv 4 k = nI (wLoses k) := by decide +kernel
theorem wSays_le : ∀ k, k < 5 → wSays k ≤ 2 := by decide +kernel
theorem wGets_le : ∀ k, k < 5 → wGets k ≤ 5 := by decide +kernel
theorem wLoses_le : ∀ k, k < 5 → wLoses k ≤ 1 := by decide +kernel
section EV
variable {Γ : xG} {n : Nat} {D : xM} {post : Option Int32 → xM → Prop} {w : Nat} {S : wS}
theorem l_spread {k hs : Nat} {K : wKf} (ho : wok S) (hK : kok S.B K) (hk : k < 10) (hh : hs < 256) (hp : ∀ D', rW D' w (wK S (kSpr S.kd K k hs S.B)) → sameW w D D' → post none D') : ∀ f i (D1 : xM), i + f = S.B → rW D1 w (wK S (kSpr S.kd K k hs i)) → sameW w D D1 → xW Γ (n + 1) hX7_spread rX7_spread 2 [some (xR 0 7 w), some (xI (nI k)), some (xI (nI hs)), some (xI (nI i))] [] D1 post := by
  have h8 := ho.1
  intro f
  induction f with
  | zero =>
    intro i D1 hi hr1 hs1
    obtain rfl : i = S.B := by omega
    refine xi_geN S.B S.B rfl rfl rfl hr1.1 (by omega) (by omega) (fun _ => ?_) (fun h => absurd h (by omega))
    exact x_vret rfl rfl rfl (hp D1 hr1 hs1)
  | succ f ih =>
    intro i D1 hi hr1 hs1
    have h5 := ho.2.2.2.2.1 i (by omega)
    refine xi_geN i S.B rfl rfl rfl hr1.1 (by omega) (by omega) (fun h => absurd h (by omega)) (fun h => ?_)
    refine xi_neN (hs / 2 ^ i % 2) 1 rfl rfl (xb_bit (by omega) (by omega)) rfl (by omega) (by omega) (fun h2 => ?_) (fun h2 => ?_)
    · have ht : hs.testBit i = false := by
        cases hq : hs.testBit i with
        | false => rfl
        | true => exact absurd ((xb_tb _ _).mpr hq) h2
      have IH := ih (i + 1) D1 (by omega) (by rw [kSpr, ht]; exact hr1) hs1
      rw [← nI_1] at IH
      exact x_goto rfl rfl IH
    · have ht := (xb_tb _ _).mp h2
      refine x_aldN i rfl rfl rfl (by omega) rfl ?_
      rw [hr1.2.2.2.2.1 i (by show i < S.B; omega)]
      refine x_tldN (S.kd i) rfl rfl rfl h5 ?_
      rw [wtab1 _ h5]
      have hle := wHears_le (S.kd i)
      refine x_call [xI (nI i), xI (nI k), xI (nI (wHears (S.kd i)))] rfl rfl rfl rfl rfl rfl rfl (c_learn hr1 (wok_K ho (kok_spr hK k hs i)) (by show i < S.B; omega) hk (by omega) ?_)
      have IH := ih (i + 1) (xup D1 (w + 3) (i * 10 + k) (nI (min 9 (kSpr S.kd K k hs i i k + wHears (S.kd i))))) (by omega) (by
        rw [kSpr, ht]
        exact rW_K hr1 hk) (hs1.up (by omega))
      rw [← nI_1] at IH
      exact x_goto rfl rfl IH
theorem c_spread {k hs : Nat} (hr : rW D w S) (ho : wok S) (hk : k < 10) (hh : hs < 256) (hp : ∀ D', rW D' w (wK S (kSpr S.kd S.K k hs S.B)) → sameW w D D' → post none D') : xRuns Γ (n + 1) hX7_spread [xR 0 7 w, xI (nI k), xI (nI hs)] D post := by
  refine x_runs kX7_spread (by decide +kernel) rfl ?_
  refine x_to 2 rfl ?_
  exact l_spread (K := S.K) ho (wok_kok ho) hk hh hp S.B 0 D (by omega) hr sameW.rf
end EV
/-- a bird says what it has to -/
def kSpk (kd : Nat → Nat) (b p hs B : Nat) : Nat → Nat → wKf × (Nat → List Nat) → wKf × (Nat → List Nat)
  | 0, _, q => q
  | t + 1, said, q => match (wBst (q.1 b) said 10).1 with
    | none => q
    | some k => kSpk kd b p hs B t (said + (if said.testBit k then 0 else 2 ^ k)) (kSpr kd q.1 k hs B, wuf q.2 p (q.2 p ++ [k]))
theorem sd_lt : ∀ said k : Nat, said < 1024 → k < 10 → said + (if said.testBit k then 0 else 2 ^ k) = said ||| 2 ^ k := by
  have H : ∀ said : Fin 1024, ∀ k : Fin 10, said.val + (if said.val.testBit k.val then 0 else 2 ^ k.val) = said.val ||| 2 ^ k.val := by decide +kernel
  intro said k h1 h2
  exact H ⟨said, h1⟩ ⟨k, h2⟩
theorem or_lt {a k : Nat} (ha : a < 1024) (hk : k < 10) : a ||| 2 ^ k < 1024 := by
  have h2 : (2 : Nat) ^ k < 2 ^ 10 := Nat.pow_lt_pow_right (by decide) hk
  exact Nat.or_lt_two_pow (n := 10) ha h2
/-- outside a world's cells and the speech's -/
def sameP (w : Nat) (D D' : xM) : Prop := ∀ a, (a < w ∨ w + 5 < a) → a ≠ 34 → a ≠ 35 → D' a = D a
theorem sameP.rf {w : Nat} {D : xM} : sameP w D D := fun _ _ _ _ => rfl
theorem sameP.tr {w : Nat} {D D1 D2 : xM} (h : sameP w D D1) (h2 : sameP w D1 D2) : sameP w D D2 := fun a ha hb hc => (h2 a ha hb hc).trans (h a ha hb hc)
theorem sameP.ofW {w : Nat} {D D1 : xM} (h : sameW w D D1) : sameP w D D1 := fun a ha _ _ => h a ha
theorem rP_out {D D' : xM} {a c : Nat} {sp : Nat → List Nat} (h : rP D a c sp) (h1 : D' a = D a) (h2 : D' c = D c) : rP D' a c sp := by
  intro p hp
  rw [h1, h2]
  exact h p hp
section EV2
variable {Γ : xG} {n : Nat} {D : xM} {post : Option Int32 → xM → Prop} {w : Nat} {S : wS}
theorem l_speak {b p hs : Nat} (hw : w + 5 < 34) (ho : wok S) (hb : b < S.B) (hp4 : p < 4) (hh : hs < 256) : ∀ (f i said : Nat) (q : wKf × (Nat → List Nat)) (D1 : xM), i + f = wSays (S.kd b) → kok S.B q.1 → rW D1 w (wK S q.1) → rP D1 34 35 q.2 → (∀ z, z < 4 → (q.2 z).length ≤ 16) → (q.2 p).length + f ≤ 16 → said < 1024 → sameP w D D1 →
    (∀ D', rW D' w (wK S (kSpk S.kd b p hs S.B f said q).1) → rP D' 34 35 (kSpk S.kd b p hs S.B f said q).2 → sameP w D D' → post none D') → xW Γ (n + 2) hX7_speak rX7_speak 6 [some (xR 0 7 w), some (xI (nI b)), some (xI (nI p)), some (xI (nI hs)), some (xR 0 4 33), some (xI (nI said)), some (xI (nI i)), none] [] D1 post := by
  have h8 := ho.1
  have h5 := ho.2.2.2.2.1 b hb
  have hsy := wSays_le _ h5
  intro f
  induction f with
  | zero =>
    intro i said q D1 hi hq hr1 hP1 hlen hl hsd hs1 hp
    refine x_aldN b rfl rfl rfl (by omega) rfl ?_
    rw [hr1.2.2.2.2.1 b hb]
    refine x_tldN (S.kd b) rfl rfl rfl h5 ?_
    rw [wtab3 _ h5]
    refine xi_geN i (wSays (S.kd b)) rfl rfl rfl rfl (by omega) (by omega) (fun _ => ?_) (fun h => absurd h (by omega))
    exact x_vret rfl rfl rfl (hp D1 hr1 hP1 hs1)
  | succ f ih =>
    intro i said q D1 hi hq hr1 hP1 hlen hl hsd hs1 hp
    refine x_aldN b rfl rfl rfl (by omega) rfl ?_
    rw [hr1.2.2.2.2.1 b hb]
    refine x_tldN (S.kd b) rfl rfl rfl h5 ?_
    rw [wtab3 _ h5]
    refine xi_geN i (wSays (S.kd b)) rfl rfl rfl rfl (by omega) (by omega) (fun h => absurd h (by omega)) (fun h => ?_)
    refine x_call [xI (nI b), xI (nI said)] rfl rfl rfl rfl rfl rfl rfl (c_bestKnown hr1 (wok_K ho hq) hb hsd ?_)
    rw [kSpk] at hp
    cases hz : (wBst (q.1 b) said 10).1 with
    | none =>
      rw [hz] at hp
      refine xi_ne rfl rfl (fun h2 => absurd rfl h2) (fun _ => ?_)
      exact x_vret rfl rfl rfl (hp D1 hr1 hP1 hs1)
    | some k =>
      have hk : k < 10 := wBst_lt 10 k hz
      rw [hz] at hp
      dsimp only at hp
      refine xi_ne rfl rfl (fun _ => ?_) (fun h2 => ?_)
      · refine x_call [xI (nI p), xI (nI k)] rfl rfl rfl rfl rfl rfl rfl (c_spAdd hP1 hlen hp4 (by omega) (fun D2 hP2 hs2 => ?_))
        have hr2 : rW D2 w (wK S q.1) := rW_out hr1 (fun a ha hb => hs2 a (by omega) (by omega))
        refine x_call [xI (nI k), xI (nI hs)] rfl rfl rfl rfl rfl rfl rfl (c_spread hr2 (wok_K ho hq) hk hh (fun D3 hr3 hs3 => ?_))
        have e9 := sd_lt said k hsd hk
        rw [e9] at hp
        have IH := ih (i + 1) (said ||| 2 ^ k) (kSpr S.kd q.1 k hs S.B, wuf q.2 p (q.2 p ++ [k])) D3 (by omega) (kok_spr hq k hs S.B) hr3 (rP_out hP2 (hs3 34 (by omega)) (hs3 35 (by omega))) (fun z hz4 => by
            by_cases ez : z = p
            · subst ez; simp [wuf]; omega
            · simp only [wuf, ez, if_false]; exact hlen z hz4) (by simp [wuf]; omega) (or_lt hsd hk) (hs1.tr (fun a h1 h2 h3 => by rw [hs3 a h1, hs2 a h2 h3])) hp
        rw [← nI_1, ← xb_or, ← xb_sh1 (by omega)] at IH
        exact x_goto rfl rfl (x_drop 7 IH)
      · exact absurd ((xby_m1 (o := some k) (fun c hc => by cases hc; omega)).mp h2) (by simp)
theorem c_speak {b p hs : Nat} {sp : Nat → List Nat} (hw : w + 5 < 34) (hr : rW D w S) (hP : rP D 34 35 sp) (ho : wok S) (hb : b < S.B) (hp4 : p < 4) (hh : hs < 256) (hlen : ∀ z, z < 4 → (sp z).length ≤ 16) (hl : (sp p).length + wSays (S.kd b) ≤ 16)
    (hp : ∀ D', rW D' w (wK S (kSpk S.kd b p hs S.B (wSays (S.kd b)) 0 (S.K, sp)).1) → rP D' 34 35 (kSpk S.kd b p hs S.B (wSays (S.kd b)) 0 (S.K, sp)).2 → sameP w D D' → post none D') : xRuns Γ (n + 2) hX7_speak [xR 0 7 w, xI (nI b), xI (nI p), xI (nI hs), xR 0 4 33] D post := by
  refine x_runs kX7_speak (by decide +kernel) rfl ?_
  refine x_to 6 rfl ?_
  exact l_speak hw ho hb hp4 hh (wSays (S.kd b)) 0 0 (S.K, sp) D (by omega) (wok_kok ho) hr hP hlen hl (by omega) sameP.rf hp
end EV2
def kSpo (kd : Nat → Nat) (p aw B : Nat) : Nat → wKf × (Nat → List Nat) → wKf × (Nat → List Nat)
  | 0, q => q
  | b + 1, q => if aw.testBit b then kSpk kd b p (wWo aw b) B (wSays (kd b)) 0 (kSpo kd p aw B b q) else kSpo kd p aw B b q
theorem kok_spk {B : Nat} {kd : Nat → Nat} {b p hs : Nat} : ∀ (t said : Nat) (q : wKf × (Nat → List Nat)), kok B q.1 → kok B (kSpk kd b p hs B t said q).1
  | 0, _, _, h => h
  | t + 1, said, q, h => by
    rw [kSpk]
    split
    · exact h
    · exact kok_spk t _ _ (kok_spr h _ _ _)
theorem len_spk {B : Nat} {kd : Nat → Nat} {b p hs : Nat} : ∀ (t said : Nat) (q : wKf × (Nat → List Nat)) (z : Nat), ((kSpk kd b p hs B t said q).2 z).length ≤ (q.2 z).length + (if z = p then t else 0)
  | 0, _, _, _ => by rw [kSpk]; omega
  | t + 1, said, q, z => by
    rw [kSpk]
    split
    · omega
    · rename_i k _
      have := len_spk (B := B) (kd := kd) (b := b) (p := p) (hs := hs) t (said + (if said.testBit k then 0 else 2 ^ k)) (kSpr kd q.1 k hs B, wuf q.2 p (q.2 p ++ [k])) z
      by_cases e : z = p
      · subst e
        simp only [wuf, if_true, List.length_append, List.length_cons, List.length_nil] at this ⊢
        omega
      · simp only [wuf, e, if_false] at this ⊢
        exact this
theorem kok_spo {B : Nat} {kd : Nat → Nat} {p aw : Nat} : ∀ (b : Nat) (q : wKf × (Nat → List Nat)), kok B q.1 → kok B (kSpo kd p aw B b q).1
  | 0, _, h => h
  | b + 1, q, h => by
    rw [kSpo]
    split
    · exact kok_spk _ _ _ (kok_spo b q h)
    · exact kok_spo b q h
theorem len_spo {B : Nat} {kd : Nat → Nat} {p aw : Nat} : ∀ (b : Nat) (q : wKf × (Nat → List Nat)) (z : Nat), (∀ c, c < b → kd c < 5) → ((kSpo kd p aw B b q).2 z).length ≤ (q.2 z).length + (if z = p then 2 * b else 0)
  | 0, _, _, _ => by rw [kSpo]; omega
  | b + 1, q, z, h => by
    have ih := len_spo (B := B) (kd := kd) (p := p) (aw := aw) b q z (fun c hc => h c (by omega))
    rw [kSpo]
    split
    · have h1 := len_spk (B := B) (kd := kd) (b := b) (p := p) (hs := wWo aw b) (wSays (kd b)) 0 (kSpo kd p aw B b q) z
      have h2 := wSays_le _ (h b (by omega))
      by_cases e : z = p
      · simp only [e, if_true] at h1 ih ⊢
        omega
      · simp only [e, if_false] at h1 ih ⊢
        omega
    · by_cases e : z = p
      · simp only [e, if_true] at ih ⊢
        omega
      · simp only [e, if_false] at ih ⊢
        omega
section EV3
variable {Γ : xG} {n : Nat} {D : xM} {post : Option Int32 → xM → Prop} {w : Nat} {S : wS}
theorem l_speakOn {p aw : Nat} {q : wKf × (Nat → List Nat)} (hw : w + 5 < 34) (ho : wok S) (hp4 : p < 4) (ha : aw < 256) (hq : kok S.B q.1) (hlen : ∀ z, z < 4 → (q.2 z).length ≤ 16) (hl0 : (q.2 p).length = 0) (hp : ∀ D', rW D' w (wK S (kSpo S.kd p aw S.B S.B q).1) → rP D' 34 35 (kSpo S.kd p aw S.B S.B q).2 → sameP w D D' → post none D') : ∀ (f i : Nat) (D1 : xM), i + f = S.B → rW D1 w (wK S (kSpo S.kd p aw S.B i q).1) → rP D1 34 35 (kSpo S.kd p aw S.B i q).2 → sameP w D D1 → xW Γ (n + 3) hX7_speakOn rX7_speakOn 3 [some (xR 0 7 w), some (xI (nI p)), some (xI (nI aw)), some (xR 0 4 33), some (xI (nI i))] [] D1 post := by
  have h8 := ho.1
  intro f
  induction f with
  | zero =>
    intro i D1 hi hr1 hP1 hs1
    obtain rfl : i = S.B := by omega
    refine xi_geN S.B S.B rfl rfl rfl hr1.1 (by omega) (by omega) (fun _ => ?_) (fun h => absurd h (by omega))
    exact x_vret rfl rfl rfl (hp D1 hr1 hP1 hs1)
  | succ f ih =>
    intro i D1 hi hr1 hP1 hs1
    refine xi_geN i S.B rfl rfl rfl hr1.1 (by omega) (by omega) (fun h => absurd h (by omega)) (fun h => ?_)
    refine xi_neN (aw / 2 ^ i % 2) 1 rfl rfl (xb_bit (by omega) (by omega)) rfl (by omega) (by omega) (fun h2 => ?_) (fun h2 => ?_)
    · have ht : aw.testBit i = false := by
        cases hq : aw.testBit i with
        | false => rfl
        | true => exact absurd ((xb_tb _ _).mpr hq) h2
      have IH := ih (i + 1) D1 (by omega) (by rw [kSpo, ht]; exact hr1) (by rw [kSpo, ht]; exact hP1) hs1
      rw [← nI_1] at IH
      exact x_goto rfl rfl IH
    · have ht := (xb_tb _ _).mp h2
      have e : nI aw &&& ((xnum 1 <<< (nI i &&& 31)) ^^^ xnum (-1)) = nI (wWo aw i) := wWo_I ha (by omega)
      have hkd : ∀ c, c < i → S.kd c < 5 := fun c hc => ho.2.2.2.2.1 c (by omega)
      have hlz : ∀ z, z < 4 → ((kSpo S.kd p aw S.B i q).2 z).length ≤ 16 := fun z hz => by
        have h1 := len_spo (B := S.B) (kd := S.kd) (p := p) (aw := aw) i q z hkd
        have h2 := hlen z hz
        by_cases ez : z = p
        · subst ez; simp only [if_true] at h1; omega
        · simp only [ez, if_false] at h1; omega
      have hsy := wSays_le _ (ho.2.2.2.2.1 i (by omega))
      have hlp : ((kSpo S.kd p aw S.B i q).2 p).length + wSays (S.kd i) ≤ 16 := by
        have h1 := len_spo (B := S.B) (kd := S.kd) (p := p) (aw := aw) i q p hkd
        simp only [if_true] at h1
        omega
      refine x_call [xI (nI i), xI (nI p), xI (nI aw &&& ((xnum 1 <<< (nI i &&& 31)) ^^^ xnum (-1))), xR 0 4 33] rfl rfl rfl rfl rfl rfl rfl ?_
      rw [e]
      refine c_speak hw hr1 hP1 (wok_K ho (kok_spo i q hq)) (by show i < S.B; omega) hp4 (wWo_lt _ _) hlz hlp (fun D2 hr2 hP2 hs2 => ?_)
      have IH := ih (i + 1) D2 (by omega) (by rw [kSpo, ht]; exact hr2) (by rw [kSpo, ht]; exact hP2) (hs1.tr hs2)
      rw [← nI_1] at IH
      exact x_goto rfl rfl IH
theorem c_speakOn {p aw : Nat} {sp : Nat → List Nat} (hw : w + 5 < 34) (hr : rW D w S) (hP : rP D 34 35 sp) (ho : wok S) (hp4 : p < 4) (ha : aw < 256) (hlen : ∀ z, z < 4 → (sp z).length ≤ 16) (hl0 : (sp p).length = 0) (hp : ∀ D', rW D' w (wK S (kSpo S.kd p aw S.B S.B (S.K, sp)).1) → rP D' 34 35 (kSpo S.kd p aw S.B S.B (S.K, sp)).2 → sameP w D D' → post none D') : xRuns Γ (n + 3) hX7_speakOn [xR 0 7 w, xI (nI p), xI (nI aw), xR 0 4 33] D post := by
  refine x_runs kX7_speakOn (by decide +kernel) rfl ?_
  refine x_to 3 rfl ?_
  exact l_speakOn hw ho hp4 ha (wok_kok ho) hlen hl0 hp S.B 0 D (by omega) hr hP sameP.rf
end EV3
end
section
/-! ===== lose, handOver, passEvening ===== -/
def kLoseB (S : wS) (K : wKf) (b i : Nat) : wKf := fun c k => if c = b ∧ k < i ∧ S.C.testBit b = false ∧ 1 ≤ K c k ∧ K c k < 5 then K c k - wLoses (S.kd b) else K c k
def kLose (S : wS) (K : wKf) (i : Nat) : wKf := fun c k => if c < i ∧ k < 10 ∧ S.C.testBit c = false ∧ 1 ≤ K c k ∧ K c k < 5 then K c k - wLoses (S.kd c) else K c k
theorem kok_loseB {S : wS} {K : wKf} (h : kok S.B K) (b i : Nat) : kok S.B (kLoseB S K b i) := by
  intro c k hc hk
  have := h c k hc hk
  rw [kLoseB]
  split <;> omega
theorem kok_lose {S : wS} {K : wKf} (h : kok S.B K) (i : Nat) : kok S.B (kLose S K i) := by
  intro c k hc hk
  have := h c k hc hk
  rw [kLose]
  split <;> omega
theorem rW_Kc {D : xM} {w : Nat} {S : wS} {K K' : wKf} (h : rW D w (wK S K)) (hk : ∀ b k, b < S.B → k < 10 → K' b k = K b k) : rW D w (wK S K') := by
  obtain ⟨h1, h2, h3, h4, h5, h6, h7, h8, h9⟩ := h
  exact ⟨h1, h2, h3, h4, h5, h6, fun b k hb hk2 => by rw [h7 b k hb hk2]; exact congrArg nI (hk b k hb hk2).symm, h8, h9⟩
section LO
variable {Γ : xG} {n : Nat} {D : xM} {post : Option Int32 → xM → Prop} {w : Nat} {S : wS}
theorem l_lose {b : Nat} {K : wKf} (ho : wok S) (hK : kok S.B K) (hb : b < S.B) (hc : S.C.testBit b = false) (hp : ∀ D', rW D' w (wK S (kLoseB S K b 10)) → sameW w D D' → post none D') : ∀ f i (D1 : xM), i + f = 10 → rW D1 w (wK S (kLoseB S K b i)) → sameW w D D1 → xW Γ (n + 1) hX7_lose rX7_lose 11 [some (xR 0 7 w), some (xI (nI b)), some (xI (nI i)), none] [] D1 post := by
  have h8 := ho.1
  have h5 := ho.2.2.2.2.1 b hb
  have hle := wLoses_le _ h5
  intro f
  induction f with
  | zero =>
    intro i D1 hi hr1 hs1
    obtain rfl : i = 10 := by omega
    refine xi_geN 10 10 rfl rfl rfl rfl (by omega) (by omega) (fun _ => ?_) (fun h => absurd h (by omega))
    exact x_vret rfl rfl rfl (hp D1 hr1 hs1)
  | succ f ih =>
    intro i D1 hi hr1 hs1
    have h9 := hK b i hb (by omega)
    have eK : kLoseB S K b i b i = K b i := by simp [kLoseB]
    have next : ∀ (D2 : xM) (x : Int32), rW D2 w (wK S (kLoseB S K b (i + 1))) → sameW w D D2 → xW Γ (n + 1) hX7_lose rX7_lose 61 [some (xR 0 7 w), some (xI (nI b)), some (xI (nI i)), some (xI x)] [] D2 post := by
      intro D2 x hr2 hs2
      have IH := ih (i + 1) D2 (by omega) hr2 hs2
      rw [← nI_1] at IH
      exact x_goto rfl rfl (x_drop 3 IH)
    have keep : ¬ (1 ≤ K b i ∧ K b i < 5) → rW D1 w (wK S (kLoseB S K b (i + 1))) := by
      intro hn
      refine rW_Kc hr1 (fun c k _ _ => ?_)
      show kLoseB S K b (i + 1) c k = kLoseB S K b i c k
      rw [kLoseB, kLoseB]
      by_cases e : c = b ∧ k = i
      · obtain ⟨rfl, rfl⟩ := e
        rw [if_neg (by omega), if_neg (by omega)]
      · have : (c = b ∧ k < i + 1 ∧ S.C.testBit b = false ∧ 1 ≤ K c k ∧ K c k < 5) ↔ (c = b ∧ k < i ∧ S.C.testBit b = false ∧ 1 ≤ K c k ∧ K c k < 5) := by
          constructor
          · intro ⟨q1, q2, q3, q4, q5⟩; exact ⟨q1, by omega, q3, q4, q5⟩
          · intro ⟨q1, q2, q3, q4, q5⟩; exact ⟨q1, by omega, q3, q4, q5⟩
        simp only [this]
    refine xi_geN i 10 rfl rfl rfl rfl (by omega) (by omega) (fun h => absurd h (by omega)) (fun h => ?_)
    refine x_call [xI (nI b), xI (nI i)] rfl rfl rfl rfl rfl rfl rfl (c_knowledge hr1 (wok_K ho (kok_loseB hK b i)) hb (by omega) ?_)
    have e0 : (wK S (kLoseB S K b i)).K b i = K b i := eK
    rw [e0]
    refine xi_ltN (K b i) 1 rfl rfl rfl rfl (by omega) (by omega) (fun h1 => ?_) (fun h1 => ?_)
    · exact next D1 _ (keep (by omega)) hs1
    · refine xi_geN (K b i) 5 rfl rfl rfl rfl (by omega) (by omega) (fun h2 => ?_) (fun h2 => ?_)
      · exact next D1 _ (keep (by omega)) hs1
      · refine x_aldN b rfl rfl rfl (by omega) rfl ?_
        rw [hr1.2.2.2.2.1 b hb]
        refine x_tldN (S.kd b) rfl rfl rfl h5 ?_
        rw [wtab4 _ h5]
        refine x_max rfl rfl rfl ?_
        have e1 : nI (K b i) - nI (wLoses (S.kd b)) = nI (K b i - wLoses (S.kd b)) := pk_sub (by omega)
        have e2 : (if xnum 0 < nI (K b i) - nI (wLoses (S.kd b)) then nI (K b i) - nI (wLoses (S.kd b)) else xnum 0) = nI (K b i - wLoses (S.kd b)) := by
          rw [e1]
          by_cases hz : K b i - wLoses (S.kd b) = 0
          · rw [hz]; rfl
          · have hlt : xnum 0 < nI (K b i - wLoses (S.kd b)) := (nI_ltI (a := 0) (b := K b i - wLoses (S.kd b)) (by omega) (by omega)).mpr (by omega)
            rw [if_pos hlt]
        rw [e2]
        refine x_astN (b * 10 + i) rfl rfl ix10 (by omega) rfl ?_
        refine x_to 61 rfl (next _ _ ?_ (hs1.up (by omega)))
        have hr3 := rW_K (S := wK S (kLoseB S K b i)) (b := b) (k := i) (v := K b i - wLoses (S.kd b)) hr1 (by omega)
        refine rW_Kc (K := wup (kLoseB S K b i) b i (K b i - wLoses (S.kd b))) hr3 (fun c k _ _ => ?_)
        show kLoseB S K b (i + 1) c k = wup (kLoseB S K b i) b i (K b i - wLoses (S.kd b)) c k
        rw [wup]
        by_cases e : c = b ∧ k = i
        · obtain ⟨rfl, rfl⟩ := e
          rw [if_pos ⟨rfl, rfl⟩, kLoseB, if_pos ⟨rfl, by omega, hc, by omega, by omega⟩]
        · rw [if_neg e, kLoseB, kLoseB]
          have : (c = b ∧ k < i + 1 ∧ S.C.testBit b = false ∧ 1 ≤ K c k ∧ K c k < 5) ↔ (c = b ∧ k < i ∧ S.C.testBit b = false ∧ 1 ≤ K c k ∧ K c k < 5) := by
            constructor
            · intro ⟨q1, q2, q3, q4, q5⟩; exact ⟨q1, by omega, q3, q4, q5⟩
            · intro ⟨q1, q2, q3, q4, q5⟩; exact ⟨q1, by omega, q3, q4, q5⟩
          simp only [this]
theorem c_lose {b : Nat} (hr : rW D w S) (ho : wok S) (hb : b < S.B) (hp : ∀ D', rW D' w (wK S (kLoseB S S.K b 10)) → sameW w D D' → post none D') : xRuns Γ (n + 1) hX7_lose [xR 0 7 w, xI (nI b)] D post := by
  have h8 := ho.1
  refine x_runs kX7_lose (by decide +kernel) rfl ?_
  refine x_call [xI (nI b)] rfl rfl rfl rfl rfl rfl rfl (c_isCovered hr ho (by omega) ?_)
  cases hc : S.C.testBit b with
  | true =>
    refine x0_eq rfl rfl (fun h => absurd h (by decide)) (fun _ => ?_)
    exact x_vret rfl rfl rfl (hp D (rW_Kc hr (fun c k _ _ => by simp [kLoseB, hc])) sameW.rf)
  | false =>
    refine x0_eq rfl rfl (fun _ => ?_) (fun h => absurd rfl h)
    refine x_to 11 rfl ?_
    exact l_lose (K := S.K) ho (wok_kok ho) hb hc hp 10 0 D rfl (rW_Kc hr (fun c k _ _ => by simp [kLoseB])) sameW.rf
end LO
/-- a man's least word goes over -/
def wHand (S : wS) (m : Nat) : wS := match S.bi m with
  | none => S
  | some b => if S.ha m = 0 ∨ S.C.testBit b = true ∨ wGets (S.kd b) = 0 then S else wmk S.B S.M S.E S.C S.kd S.pe (kLearn S.K b (wLow (S.ha m)) (wGets (S.kd b))) (wuf S.ha m (S.ha m &&& (S.ha m - 1))) S.bi
def wHands (S : wS) : Nat → wS
  | 0 => S
  | m + 1 => wHand (wHands S m) m
theorem wLow_lt : ∀ c, c < 1024 → wLow c < 10 := by decide +kernel
theorem wok_hand {S : wS} (ho : wok S) (m : Nat) : wok (wHand S m) := by
  rw [wHand]
  split
  · exact ho
  · split
    · exact ho
    · obtain ⟨h1, h2, h3, h4, h5, h6, h7, h8, h9⟩ := ho
      refine ⟨h1, h2, h3, h4, h5, h6, kok_learn h7 _ _ _, fun j hj => ?_, h9⟩
      show wuf S.ha m (S.ha m &&& (S.ha m - 1)) j < 1024
      rw [wuf]
      split
      · rename_i e
        subst e
        exact Nat.lt_of_le_of_lt Nat.and_le_left (h8 j hj)
      · exact h8 j hj
theorem hand_B (S : wS) (m : Nat) : (wHand S m).B = S.B ∧ (wHand S m).M = S.M ∧ (wHand S m).E = S.E ∧ (wHand S m).C = S.C ∧ (wHand S m).kd = S.kd ∧ (wHand S m).pe = S.pe ∧ (wHand S m).bi = S.bi := by
  rw [wHand]
  split
  · exact ⟨rfl, rfl, rfl, rfl, rfl, rfl, rfl⟩
  · split <;> exact ⟨rfl, rfl, rfl, rfl, rfl, rfl, rfl⟩
theorem hands_B (S : wS) : ∀ m, (wHands S m).B = S.B ∧ (wHands S m).M = S.M ∧ (wHands S m).E = S.E ∧ (wHands S m).C = S.C ∧ (wHands S m).kd = S.kd ∧ (wHands S m).pe = S.pe ∧ (wHands S m).bi = S.bi
  | 0 => ⟨rfl, rfl, rfl, rfl, rfl, rfl, rfl⟩
  | m + 1 => by
    obtain ⟨a1, a2, a3, a4, a5, a6, a7⟩ := hand_B (wHands S m) m
    obtain ⟨b1, b2, b3, b4, b5, b6, b7⟩ := hands_B S m
    exact ⟨a1.trans b1, a2.trans b2, a3.trans b3, a4.trans b4, a5.trans b5, a6.trans b6, a7.trans b7⟩
theorem wok_hands {S : wS} (ho : wok S) : ∀ m, wok (wHands S m)
  | 0 => ho
  | m + 1 => wok_hand (wok_hands ho m) m
theorem ha_drop : ∀ c, c < 1024 → 0 < c → nI c &&& (nI c - xnum 1) = nI (c &&& (c - 1)) := by decide +kernel
section HO
variable {Γ : xG} {n : Nat} {D : xM} {post : Option Int32 → xM → Prop} {w : Nat} {S : wS}
theorem c_handOver {m : Nat} (hr : rW D w S) (ho : wok S) (hm : m < S.M) (hp : ∀ D', rW D' w (wHand S m) → sameW w D D' → post none D') : xRuns Γ (n + 1) hX7_handOver [xR 0 7 w, xI (nI m)] D post := by
  have h4 := ho.2.1
  have h8 := ho.1
  refine x_runs kX7_handOver (by decide +kernel) rfl ?_
  refine x_aldN m rfl rfl rfl (by omega) rfl ?_
  rw [hr.2.2.2.2.2.2.2.2 m hm]
  rw [wHand] at hp
  cases hbi : S.bi m with
  | none =>
    rw [hbi] at hp
    refine xi_eq rfl rfl (fun _ => ?_) (fun h => absurd rfl h)
    exact x_vret rfl rfl rfl (hp D hr sameW.rf)
  | some b =>
    rw [hbi] at hp
    dsimp only at hp
    have hb := ho.2.2.2.2.2.2.2.2.1 m b hm hbi
    have h5 := ho.2.2.2.2.1 b hb
    have hh := ho.2.2.2.2.2.2.2.1 m hm
    have hge := wGets_le _ h5
    refine xi_eq rfl rfl (fun h => absurd ((xby_m1 (o := some b) (fun c hc => by cases hc; omega)).mp h) (by simp)) (fun _ => ?_)
    refine x_aldN m rfl rfl rfl (by omega) rfl ?_
    rw [hr.2.2.2.2.2.2.2.1 m hm]
    refine x0_eq rfl rfl (fun h => ?_) (fun h => ?_)
    · have e : S.ha m = 0 := (nI_eq (b := 0) (by omega) (by omega)).mp h
      rw [if_pos (Or.inl e)] at hp
      exact x_vret rfl rfl rfl (hp D hr sameW.rf)
    · have e : ¬ S.ha m = 0 := fun z => h (by rw [z]; rfl)
      refine x_call [xI (nI b)] rfl rfl rfl rfl rfl rfl rfl (c_isCovered hr ho (by omega) ?_)
      cases hc : S.C.testBit b with
      | true =>
        rw [hc, if_pos (Or.inr (Or.inl rfl))] at hp
        refine x0_eq rfl rfl (fun h => absurd h (by decide)) (fun _ => ?_)
        exact x_vret rfl rfl rfl (hp D hr sameW.rf)
      | false =>
        rw [hc] at hp
        refine x0_eq rfl rfl (fun _ => ?_) (fun h => absurd rfl h)
        refine x_aldN b rfl rfl rfl (by omega) rfl ?_
        rw [hr.2.2.2.2.1 b hb]
        refine x_tldN (S.kd b) rfl rfl rfl h5 ?_
        rw [wtab2 _ h5]
        refine x0_le rfl rfl (fun h2 => ?_) (fun h2 => ?_)
        · have e2 : wGets (S.kd b) = 0 := by
            have := (nI_leI (b := 0) (by omega) (by omega)).mp h2
            omega
          rw [if_pos (Or.inr (Or.inr e2))] at hp
          exact x_vret rfl rfl rfl (hp D hr sameW.rf)
        · have e2 : ¬ wGets (S.kd b) = 0 := fun z => h2 (by rw [z]; decide)
          rw [if_neg (by simp [e, e2])] at hp
          refine x_aldN m rfl rfl rfl (by omega) rfl ?_
          rw [hr.2.2.2.2.2.2.2.1 m hm]
          refine x_scall [xI (nI (S.ha m))] rfl rfl rfl rfl rfl rfl rfl (c_ntz ?_)
          rw [jntz_low _ hh (by omega)]
          refine x_call [xI (nI b), xI (nI (wLow (S.ha m))), xI (nI (wGets (S.kd b)))] rfl rfl rfl rfl rfl rfl rfl (c_learn hr ho hb (wLow_lt _ hh) (by omega) ?_)
          have hr2 := rW_K (b := b) (k := wLow (S.ha m)) (v := min 9 (S.K b (wLow (S.ha m)) + wGets (S.kd b))) hr (wLow_lt _ hh)
          have e5 := hr2.2.2.2.2.2.2.2.1 m hm
          refine x_aldN m rfl rfl rfl (by omega) rfl ?_
          rw [e5]
          refine x_aldN m rfl rfl rfl (by omega) rfl ?_
          rw [e5]
          have e6 : nI (S.ha m) &&& (nI (S.ha m) - xnum 1) = nI (S.ha m &&& (S.ha m - 1)) := ha_drop _ hh (by omega)
          refine x_astN m rfl rfl rfl (by omega) rfl ?_
          refine x_vret rfl rfl rfl (hp _ ?_ ((sameW.rf.up (by omega)).up (by omega)))
          rw [show (nI (S.ha m) &&& (nI (S.ha m) - xnum 1)) = nI (S.ha m &&& (S.ha m - 1)) from e6]
          exact rW_ha hr2
end HO
/-- the perches, one after the other -/
def kPer (S : wS) : Nat → wKf × (Nat → List Nat) → wKf × (Nat → List Nat)
  | 0, q => q
  | p + 1, q => if wSil S (wAw S p) then kPer S p q else kSpo S.kd p (wAw S p) S.B S.B (kPer S p q)
theorem kok_per {S : wS} : ∀ (p : Nat) (q : wKf × (Nat → List Nat)), kok S.B q.1 → kok S.B (kPer S p q).1
  | 0, _, h => h
  | p + 1, q, h => by
    rw [kPer]
    split
    · exact kok_per p q h
    · exact kok_spo _ _ (kok_per p q h)
theorem len_per {S : wS} (ho : wok S) : ∀ (p : Nat) (q : wKf × (Nat → List Nat)) (z : Nat), (q.2 z).length = 0 → ((kPer S p q).2 z).length ≤ (if z < p then 16 else 0)
  | 0, q, z, h => by rw [kPer]; omega
  | p + 1, q, z, h => by
    have ih := len_per ho p q z h
    have h8 := ho.1
    rw [kPer]
    split
    · by_cases e : z < p
      · rw [if_pos e] at ih; rw [if_pos (by omega)]; exact ih
      · rw [if_neg e] at ih; omega
    · have h1 := len_spo (B := S.B) (kd := S.kd) (p := p) (aw := wAw S p) S.B (kPer S p q) z (fun c hc => ho.2.2.2.2.1 c hc)
      by_cases e : z = p
      · subst e
        rw [if_neg (Nat.lt_irrefl _)] at ih
        simp only [if_true] at h1
        rw [if_pos (by omega)]
        omega
      · simp only [e, if_false] at h1
        by_cases e2 : z < p
        · rw [if_pos e2] at ih; rw [if_pos (by omega)]; omega
        · rw [if_neg e2] at ih; rw [if_neg (by omega)]; omega
/-- AN EVENING -/
def wPassQ (S : wS) : wKf × (Nat → List Nat) := kPer (wHands S S.M) 4 ((wHands S S.M).K, fun _ => [])
def wPass (S : wS) : wS := wmk S.B S.M (S.E + 1) S.C S.kd S.pe (if S.E % 3 = 2 then kLose S (wPassQ S).1 S.B else (wPassQ S).1) (wHands S S.M).ha S.bi
def wSaid (S : wS) : Nat → List Nat := (wPassQ S).2
theorem wok_pass {S : wS} (ho : wok S) (hE : S.E + 1 < 1000000) : wok (wPass S) := by
  have hk : kok S.B (wPassQ S).1 := by
    have := kok_per (S := wHands S S.M) 4 ((wHands S S.M).K, fun _ => []) (wok_kok (wok_hands ho S.M))
    rw [(hands_B S S.M).1] at this
    exact this
  have hh := (wok_hands ho S.M).2.2.2.2.2.2.2.1
  rw [(hands_B S S.M).2.1] at hh
  obtain ⟨h1, h2, h3, h4, h5, h6, h7, h8, h9⟩ := ho
  refine ⟨h1, h2, hE, h4, h5, h6, ?_, hh, h9⟩
  show kok S.B (if S.E % 3 = 2 then kLose S (wPassQ S).1 S.B else (wPassQ S).1)
  split
  · exact kok_lose hk _
  · exact hk
theorem len_said {S : wS} (ho : wok S) : ∀ z, z < 4 → (wSaid S z).length ≤ 16 := by
  intro z hz
  have := len_per (wok_hands ho S.M) 4 ((wHands S S.M).K, fun _ => []) z rfl
  rw [if_pos hz] at this
  exact this
section PE
variable {Γ : xG} {n : Nat} {D : xM} {post : Option Int32 → xM → Prop} {w : Nat} {S : wS}
theorem wHands_eq (S : wS) (m : Nat) : wHands S m = wmk S.B S.M S.E S.C S.kd S.pe (wHands S m).K (wHands S m).ha S.bi := by
  obtain ⟨a1, a2, a3, a4, a5, a6, a7⟩ := hands_B S m
  have e : wHands S m = wmk (wHands S m).B (wHands S m).M (wHands S m).E (wHands S m).C (wHands S m).kd (wHands S m).pe (wHands S m).K (wHands S m).ha (wHands S m).bi := rfl
  rw [a1, a2, a3, a4, a5, a6, a7] at e
  exact e
theorem c_passEvening (hw : w + 5 < 34) (hr : rW D w S) (ho : wok S) (hE : S.E + 1 < 1000000) (hp : ∀ D', rW D' w (wPass S) → rP D' 34 35 (wSaid S) → sameP w D D' → post none D') : xRuns Γ (n + 4) hX7_passEvening [xR 0 7 w, xR 0 4 33] D post := by
  have h8 := ho.1
  have h4 := ho.2.1
  have ho1 := wok_hands ho S.M
  obtain ⟨a1, a2, a3, a4, a5, a6, a7⟩ := hands_B S S.M
  refine x_runs kX7_passEvening (by decide +kernel) rfl ?_
  refine x_to 2 rfl ?_
  -- the last stretch
  have fin : ∀ (D1 : xM) (v2 v3 : Option xV), rW D1 w (wmk S.B S.M S.E S.C S.kd S.pe (if S.E % 3 = 2 then kLose S (wPassQ S).1 S.B else (wPassQ S).1) (wHands S S.M).ha S.bi) → rP D1 34 35 (wSaid S) → sameP w D D1 → xW Γ (n + 4) hX7_passEvening rX7_passEvening 90 [some (xR 0 7 w), some (xR 0 4 33), v2, v3] [] D1 post := by
    intro D1 v2 v3 hr1 hP1 hs1
    refine x_vret rfl rfl rfl (hp _ ?_ (rP_out hP1 (xup_ne 34 (by omega)) (xup_ne 35 (by omega))) (hs1.tr (fun a ha _ _ => xup_ne a (by omega))))
    have e : D1 w 2 + xnum 1 = nI (S.E + 1) := by rw [hr1.2.2.1]; exact nI_1 _
    rw [e]
    exact rW_E hr1
  -- losing
  have los : ∀ (f i : Nat) (D1 : xM), i + f = S.B → S.E % 3 = 2 → rW D1 w (wmk S.B S.M S.E S.C S.kd S.pe (kLose S (wPassQ S).1 i) (wHands S S.M).ha S.bi) → rP D1 34 35 (wSaid S) → sameP w D D1 → xW Γ (n + 4) hX7_passEvening rX7_passEvening 71 [some (xR 0 7 w), some (xR 0 4 33), some (xI (nI i)), none] [] D1 post := by
    have hk : kok S.B (wPassQ S).1 := by
      have := kok_per (S := wHands S S.M) 4 ((wHands S S.M).K, fun _ => []) (wok_kok ho1)
      rw [a1] at this
      exact this
    intro f
    induction f with
    | zero =>
      intro i D1 hi hm hr1 hP1 hs1
      obtain rfl : i = S.B := by omega
      refine xi_geN S.B S.B rfl rfl rfl hr1.1 (by omega) (by omega) (fun _ => ?_) (fun h => absurd h (by omega))
      exact fin D1 _ _ (by rw [if_pos hm]; exact hr1) hP1 hs1
    | succ f ih =>
      intro i D1 hi hm hr1 hP1 hs1
      refine xi_geN i S.B rfl rfl rfl hr1.1 (by omega) (by omega) (fun h => absurd h (by omega)) (fun h => ?_)
      have hok1 : wok (wmk S.B S.M S.E S.C S.kd S.pe (kLose S (wPassQ S).1 i) (wHands S S.M).ha S.bi) := by
        have := wok_K ho1 (K := kLose S (wPassQ S).1 i) (by rw [a1]; exact kok_lose hk i)
        rw [wHands_eq] at this
        exact this
      refine x_call [xI (nI i)] rfl rfl rfl rfl rfl rfl rfl (c_lose hr1 hok1 (by show i < S.B; omega) (fun D2 hr2 hs2 => ?_))
      have IH := ih (i + 1) D2 (by omega) hm (rW_Kc (S := wmk S.B S.M S.E S.C S.kd S.pe (kLose S (wPassQ S).1 i) (wHands S S.M).ha S.bi) hr2 (fun c k hc hk2 => ?_)) (rP_out hP1 (hs2 34 (by omega)) (hs2 35 (by omega))) (hs1.tr (sameP.ofW hs2))
      · rw [← nI_1] at IH
        exact x_goto rfl rfl IH
      · show kLose S (wPassQ S).1 (i + 1) c k = kLoseB (wmk S.B S.M S.E S.C S.kd S.pe (kLose S (wPassQ S).1 i) (wHands S S.M).ha S.bi) (kLose S (wPassQ S).1 i) i 10 c k
        by_cases e : c = i
        · subst e
          have e0 : kLose S (wPassQ S).1 c c k = (wPassQ S).1 c k := by simp [kLose]
          rw [kLoseB, e0, kLose]
          by_cases q : S.C.testBit c = false ∧ 1 ≤ (wPassQ S).1 c k ∧ (wPassQ S).1 c k < 5
          · rw [if_pos ⟨by omega, hk2, q⟩, if_pos ⟨rfl, hk2, q⟩]
          · rw [if_neg (fun z => q z.2.2), if_neg (fun z => q z.2.2)]
        · rw [kLoseB, if_neg (fun z => e z.1), kLose, kLose]
          have : (c < i + 1 ∧ k < 10 ∧ S.C.testBit c = false ∧ 1 ≤ (wPassQ S).1 c k ∧ (wPassQ S).1 c k < 5) ↔ (c < i ∧ k < 10 ∧ S.C.testBit c = false ∧ 1 ≤ (wPassQ S).1 c k ∧ (wPassQ S).1 c k < 5) := by
            constructor
            · intro ⟨q1, q2⟩; exact ⟨by omega, q2⟩
            · intro ⟨q1, q2⟩; exact ⟨by omega, q2⟩
          simp only [this]
  -- speaking
  have spk : ∀ (f i : Nat) (D1 : xM), i + f = 4 → rW D1 w (wK (wHands S S.M) (kPer (wHands S S.M) i ((wHands S S.M).K, fun _ => [])).1) → rP D1 34 35 (kPer (wHands S S.M) i ((wHands S S.M).K, fun _ => [])).2 → sameP w D D1 → xW Γ (n + 4) hX7_passEvening rX7_passEvening 27 [some (xR 0 7 w), some (xR 0 4 33), some (xI (nI i)), none] [] D1 post := by
    intro f
    induction f with
    | zero =>
      intro i D1 hi hr1 hP1 hs1
      obtain rfl : i = 4 := by omega
      have hr1' : rW D1 w (wmk S.B S.M S.E S.C S.kd S.pe (wPassQ S).1 (wHands S S.M).ha S.bi) := by
        have e : wK (wHands S S.M) (wPassQ S).1 = wmk S.B S.M S.E S.C S.kd S.pe (wPassQ S).1 (wHands S S.M).ha S.bi := by
          show wmk (wHands S S.M).B (wHands S S.M).M (wHands S S.M).E (wHands S S.M).C (wHands S S.M).kd (wHands S S.M).pe (wPassQ S).1 (wHands S S.M).ha (wHands S S.M).bi = _
          rw [a1, a2, a3, a4, a5, a6, a7]
        rw [← e]
        exact hr1
      refine xi_geN 4 4 rfl rfl rfl rfl (by omega) (by omega) (fun _ => ?_) (fun h => absurd h (by omega))
      refine x_rem rfl rfl (by decide) ?_
      have e3 : D1 w 2 - D1 w 2 / xnum 3 * xnum 3 = nI (S.E % 3) := by
        rw [hr1'.2.2.1]
        exact pk_rem (a := S.E) (d := 3) (by have := ho.2.2.1; omega) (by decide) (by decide)
      refine xi_neN (S.E % 3) 2 rfl rfl e3 rfl (by omega) (by omega) (fun h => ?_) (fun h => ?_)
      · exact fin D1 _ _ (by rw [if_neg h]; exact hr1') hP1 hs1
      · refine x_to 71 rfl ?_
        refine los S.B 0 D1 (by omega) h ?_ hP1 hs1
        exact rW_Kc (S := wmk S.B S.M S.E S.C S.kd S.pe (wPassQ S).1 (wHands S S.M).ha S.bi) hr1' (fun c k _ _ => by simp [kLose])
    | succ f ih =>
      intro i D1 hi hr1 hP1 hs1
      have hk1 := kok_per (S := wHands S S.M) i ((wHands S S.M).K, fun _ => []) (wok_kok ho1)
      have ho2 := wok_K ho1 hk1
      refine xi_geN i 4 rfl rfl rfl rfl (by omega) (by omega) (fun h => absurd h (by omega)) (fun h => ?_)
      refine x_call [xI (nI i)] rfl rfl rfl rfl rfl rfl rfl (c_awakeOn hr1 ho2 (by omega) ?_)
      have haw := wAw_lt ho1 i
      refine x_call [xI (nI (wAw (wHands S S.M) i))] rfl rfl rfl rfl rfl rfl rfl (c_isSilenced hr1 ho2 haw ?_)
      cases hz : wSil (wHands S S.M) (wAw (wHands S S.M) i) with
      | true =>
        have e : wSil (wK (wHands S S.M) (kPer (wHands S S.M) i ((wHands S S.M).K, fun _ => [])).1) (wAw (wHands S S.M) i) = true := hz
        rw [e]
        refine x0_ne rfl rfl (fun _ => ?_) (fun h2 => absurd h2 (by decide))
        have IH := ih (i + 1) D1 (by omega) (by rw [kPer, hz]; exact hr1) (by rw [kPer, hz]; exact hP1) hs1
        rw [← nI_1] at IH
        exact x_goto rfl rfl (x_drop 3 IH)
      | false =>
        have e : wSil (wK (wHands S S.M) (kPer (wHands S S.M) i ((wHands S S.M).K, fun _ => [])).1) (wAw (wHands S S.M) i) = false := hz
        rw [e]
        refine x0_ne rfl rfl (fun h2 => absurd rfl h2) (fun _ => ?_)
        have hl0 : ((kPer (wHands S S.M) i ((wHands S S.M).K, fun _ => [])).2 i).length = 0 := by
          have := len_per ho1 i ((wHands S S.M).K, fun _ => []) i rfl
          rw [if_neg (Nat.lt_irrefl _)] at this
          omega
        refine x_call [xI (nI i), xI (nI (wAw (wHands S S.M) i)), xR 0 4 33] rfl rfl rfl rfl rfl rfl rfl (c_speakOn hw hr1 hP1 ho2 (by omega) haw (fun z hz4 => ?_) hl0 (fun D2 hr2 hP2 hs2 => ?_))
        · have := len_per ho1 i ((wHands S S.M).K, fun _ => []) z rfl
          split at this <;> omega
        · have IH := ih (i + 1) D2 (by omega) (by rw [kPer, hz]; exact hr2) (by rw [kPer, hz]; exact hP2) (hs1.tr hs2)
          rw [← nI_1] at IH
          exact x_goto rfl rfl (x_drop 3 IH)
  -- the men
  have men : ∀ (f i : Nat) (D1 : xM), i + f = S.M → rW D1 w (wHands S i) → sameW w D D1 → xW Γ (n + 4) hX7_passEvening rX7_passEvening 2 [some (xR 0 7 w), some (xR 0 4 33), some (xI (nI i)), none] [] D1 post := by
    intro f
    induction f with
    | zero =>
      intro i D1 hi hr1 hs1
      obtain rfl : i = S.M := by omega
      refine xi_geN S.M S.M rfl rfl rfl (by rw [hr1.2.1, a2]) (by omega) (by omega) (fun _ => ?_) (fun h => absurd h (by omega))
      refine x_call [] rfl rfl rfl rfl rfl rfl rfl (c_spClear (fun D2 hP2 hs2 => ?_))
      refine x_to 27 rfl ?_
      exact spk 4 0 D2 rfl (rW_out hr1 (fun a ha hb => hs2 a (by omega))) hP2 ((sameP.ofW hs1).tr (fun a _ _ h35 => hs2 a h35))
    | succ f ih =>
      intro i D1 hi hr1 hs1
      obtain ⟨b1, b2, b3, b4, b5, b6, b7⟩ := hands_B S i
      refine xi_geN i S.M rfl rfl rfl (by rw [hr1.2.1, b2]) (by omega) (by omega) (fun h => absurd h (by omega)) (fun h => ?_)
      refine x_call [xI (nI i)] rfl rfl rfl rfl rfl rfl rfl (c_handOver hr1 (wok_hands ho i) (by rw [b2]; omega) (fun D2 hr2 hs2 => ?_))
      have IH := ih (i + 1) D2 (by omega) hr2 (hs1.tr hs2)
      rw [← nI_1] at IH
      exact x_goto rfl rfl IH
  exact men S.M 0 D (by omega) hr sameW.rf
end PE
end
section
/-! ===== the reference: small methods ===== -/
/-- outside a world of the row -/
def sameM (o : Nat) (D D' : xM) : Prop := ∀ a j, ¬ (a = 112 ∧ o ≤ j ∧ j < o + 108) → D' a j = D a j
theorem sameM.rf {o : Nat} {D : xM} : sameM o D D := fun _ _ _ => rfl
theorem sameM.tr {o : Nat} {D D1 D2 : xM} (h : sameM o D D1) (h2 : sameM o D1 D2) : sameM o D D2 := fun a j hj => (h2 a j hj).trans (h a j hj)
theorem xup_at {D : xM} {i j : Nat} {v : Int32} : xup D i j v i j = v := by simp [xup]
theorem xup_o {D : xM} {i j a b : Nat} {v : Int32} (h : ¬ (a = i ∧ b = j)) : xup D i j v a b = D a b := by rw [xup, if_neg h]
theorem sameM.up {o i : Nat} {v : Int32} {D D1 : xM} (h : sameM o D D1) (h1 : o ≤ i) (h2 : i < o + 108) : sameM o D (xup D1 112 i v) := fun a j hj => by
  rw [xup_o (by intro z; exact hj ⟨z.1, by omega, by omega⟩)]
  exact h a j hj
theorem rM_K {D : xM} {o : Nat} {S : wS} {b k v : Nat} (h : rM D o S) (hB : S.B ≤ 8) (hM : S.M ≤ 4) (hb : b < S.B) (hk : k < 10) : rM (xup D 112 (o + 20 + (b * 10 + k)) (nI v)) o (wK S (wup S.K b k v)) := by
  obtain ⟨h1, h2, h3, h4, h5, h6, h7, h8, h9⟩ := h
  refine ⟨by rw [xup_o (by omega)]; exact h1, by rw [xup_o (by omega)]; exact h2, by rw [xup_o (by omega)]; exact h3, by rw [xup_o (by omega)]; exact h4, fun c hc => by rw [xup_o (by have hc : c < S.B := hc; omega)]; exact h5 c hc, fun c hc => by rw [xup_o (by have hc : c < S.B := hc; omega)]; exact h6 c hc, fun c j hc hj => ?_, fun m hm => by rw [xup_o (by omega)]; exact h8 m hm, fun m hm => by rw [xup_o (by omega)]; exact h9 m hm⟩
  show xup D 112 (o + 20 + (b * 10 + k)) (nI v) 112 (o + 20 + (c * 10 + j)) = nI (wup S.K b k v c j)
  by_cases e : c = b ∧ j = k
  · obtain ⟨rfl, rfl⟩ := e
    rw [xup_at]
    simp [wup]
  · rw [xup_o (by omega)]
    simp only [wup, e, if_false]
    exact h7 c j hc hj
theorem rM_ha {D : xM} {o : Nat} {S : wS} {i v : Nat} (h : rM D o S) (hB : S.B ≤ 8) (hM : S.M ≤ 4) (hi : i < S.M) : rM (xup D 112 (o + 100 + i) (nI v)) o (wmk S.B S.M S.E S.C S.kd S.pe S.K (wuf S.ha i v) S.bi) := by
  obtain ⟨h1, h2, h3, h4, h5, h6, h7, h8, h9⟩ := h
  refine ⟨by rw [xup_o (by omega)]; exact h1, by rw [xup_o (by omega)]; exact h2, by rw [xup_o (by omega)]; exact h3, by rw [xup_o (by omega)]; exact h4, fun c hc => by rw [xup_o (by have hc : c < S.B := hc; omega)]; exact h5 c hc, fun c hc => by rw [xup_o (by have hc : c < S.B := hc; omega)]; exact h6 c hc, fun c j hc hj => by rw [xup_o (by have hc : c < S.B := hc; omega)]; exact h7 c j hc hj, fun m hm => ?_, fun m hm => by rw [xup_o (by omega)]; exact h9 m hm⟩
  show xup D 112 (o + 100 + i) (nI v) 112 (o + 100 + m) = nI (wuf S.ha i v m)
  by_cases e : m = i
  · subst e
    rw [xup_at]; simp [wuf]
  · rw [xup_o (by omega)]
    simp only [wuf, e, if_false]
    exact h8 m hm
theorem rM_bi {D : xM} {o : Nat} {S : wS} {i : Nat} {q : Option Nat} (h : rM D o S) (hB : S.B ≤ 8) (hM : S.M ≤ 4) (hi : i < S.M) : rM (xup D 112 (o + 104 + i) (xby q)) o (wmk S.B S.M S.E S.C S.kd S.pe S.K S.ha (wuf S.bi i q)) := by
  obtain ⟨h1, h2, h3, h4, h5, h6, h7, h8, h9⟩ := h
  refine ⟨by rw [xup_o (by omega)]; exact h1, by rw [xup_o (by omega)]; exact h2, by rw [xup_o (by omega)]; exact h3, by rw [xup_o (by omega)]; exact h4, fun c hc => by rw [xup_o (by have hc : c < S.B := hc; omega)]; exact h5 c hc, fun c hc => by rw [xup_o (by have hc : c < S.B := hc; omega)]; exact h6 c hc, fun c j hc hj => by rw [xup_o (by have hc : c < S.B := hc; omega)]; exact h7 c j hc hj, fun m hm => by rw [xup_o (by have hm : m < S.M := hm; omega)]; exact h8 m hm, fun m hm => ?_⟩
  show xup D 112 (o + 104 + i) (xby q) 112 (o + 104 + m) = xby (wuf S.bi i q m)
  by_cases e : m = i
  · subst e
    rw [xup_at]; simp [wuf]
  · rw [xup_o (by omega)]
    simp only [wuf, e, if_false]
    exact h9 m hm
theorem rM_E {D : xM} {o : Nat} {S : wS} {v : Nat} (h : rM D o S) (hB : S.B ≤ 8) (hM : S.M ≤ 4) : rM (xup D 112 (o + 2) (nI v)) o (wmk S.B S.M v S.C S.kd S.pe S.K S.ha S.bi) := by
  obtain ⟨h1, h2, h3, h4, h5, h6, h7, h8, h9⟩ := h
  exact ⟨by rw [xup_o (by omega)]; exact h1, by rw [xup_o (by omega)]; exact h2, by rw [xup_at], by rw [xup_o (by omega)]; exact h4, fun c hc => by rw [xup_o (by omega)]; exact h5 c hc, fun c hc => by rw [xup_o (by omega)]; exact h6 c hc, fun c j hc hj => by rw [xup_o (by omega)]; exact h7 c j hc hj, fun m hm => by rw [xup_o (by omega)]; exact h8 m hm, fun m hm => by rw [xup_o (by omega)]; exact h9 m hm⟩
theorem rM_Kc {D : xM} {o : Nat} {S : wS} {K K' : wKf} (h : rM D o (wK S K)) (hk : ∀ b k, b < S.B → k < 10 → K' b k = K b k) : rM D o (wK S K') := by
  obtain ⟨h1, h2, h3, h4, h5, h6, h7, h8, h9⟩ := h
  exact ⟨h1, h2, h3, h4, h5, h6, fun b k hb hk2 => by rw [h7 b k hb hk2]; exact congrArg nI (hk b k hb hk2).symm, h8, h9⟩
theorem rM_bic {D : xM} {o : Nat} {S : wS} {bi : Nat → Option Nat} (h : rM D o S) (hb : ∀ m, m < S.M → bi m = S.bi m) : rM D o (wmk S.B S.M S.E S.C S.kd S.pe S.K S.ha bi) := by
  obtain ⟨h1, h2, h3, h4, h5, h6, h7, h8, h9⟩ := h
  exact ⟨h1, h2, h3, h4, h5, h6, h7, h8, fun m hm => by rw [h9 m hm]; exact congrArg xby (hb m hm).symm⟩
theorem rM_out {D D' : xM} {o : Nat} {S : wS} (h : rM D o S) (hB : S.B ≤ 8) (hM : S.M ≤ 4) (hs : ∀ j, o ≤ j → j < o + 108 → D' 112 j = D 112 j) : rM D' o S := by
  obtain ⟨h1, h2, h3, h4, h5, h6, h7, h8, h9⟩ := h
  exact ⟨by rw [hs _ (by omega) (by omega)]; exact h1, by rw [hs _ (by omega) (by omega)]; exact h2, by rw [hs _ (by omega) (by omega)]; exact h3, by rw [hs _ (by omega) (by omega)]; exact h4, fun c hc => by rw [hs _ (by omega) (by omega)]; exact h5 c hc, fun c hc => by rw [hs _ (by omega) (by omega)]; exact h6 c hc, fun c j hc hj => by rw [hs _ (by omega) (by omega)]; exact h7 c j hc hj, fun m hm => by rw [hs _ (by omega) (by omega)]; exact h8 m hm, fun m hm => by rw [hs _ (by omega) (by omega)]; exact h9 m hm⟩
section M1
variable {Γ : xG} {n : Nat} {D : xM} {post : Option Int32 → xM → Prop} {o : Nat} {S : wS}
theorem lg_neg (x y : Int64) : lg_cmp x y < 0 ↔ x < y := by
  rw [lg_cmp]
  by_cases h1 : y < x
  · have : ¬ x < y := Int64.not_lt.mpr (Int64.le_of_lt h1)
    simp [h1, this]
  · by_cases h2 : x = y
    · subst h2; simp [h1]
    · have : x < y := by
        rcases Int64.lt_or_le x y with q | q
        · exact q
        · exact absurd (Int64.lt_of_le_of_ne q (Ne.symm h2)) h1
      simp [h1, h2, this]
theorem lg_pos (x y : Int64) : 0 < lg_cmp x y ↔ y < x := by
  rw [lg_cmp]
  by_cases h1 : y < x
  · simp [h1]
  · by_cases h2 : x = y
    · subst h2; simp [h1]
    · simp [h1, h2]
theorem c_in {a b c : Int64} (hp : post (some (if b ≤ a ∧ a ≤ c then 1 else 0)) D) : xRuns Γ n hX9_in [xL a, xL b, xL c] D post := by
  refine x_runs kX9_in (by decide +kernel) rfl ?_
  refine x0_lt rfl rfl (fun h => ?_) (fun h => ?_)
  · have h := (lg_neg _ _).mp h
    rw [if_neg (fun z => absurd h (Int64.not_lt.mpr z.1))] at hp
    exact x_ret rfl rfl rfl rfl hp
  · have h : ¬ a < b := fun z => h ((lg_neg _ _).mpr z)
    refine x0_gt rfl rfl (fun h2 => ?_) (fun h2 => ?_)
    · have h2 := (lg_pos _ _).mp h2
      rw [if_neg (fun z => absurd h2 (Int64.not_lt.mpr z.2))] at hp
      exact x_ret rfl rfl rfl rfl hp
    · have h2 : ¬ c < a := fun z => h2 ((lg_pos _ _).mpr z)
      rw [if_pos ⟨Int64.not_lt.mp h, Int64.not_lt.mp h2⟩] at hp
      exact x_goto rfl rfl (x_ret rfl rfl rfl rfl hp)
theorem c_has {c i : Nat} (hc : c < 2 ^ 31) (hi : i < 32) (hp : post (some (if c.testBit i then 1 else 0)) D) : xRuns Γ n hX9_has [xI (nI c), xI (nI i)] D post := by
  refine x_runs kX9_has (by decide +kernel) rfl ?_
  refine xi_neN (c / 2 ^ i % 2) 1 rfl rfl (xb_bit hc hi) rfl (by omega) (by omega) (fun h => ?_) (fun h => ?_)
  · have : c.testBit i = false := by
      cases hq : c.testBit i with
      | false => rfl
      | true => exact absurd ((xb_tb _ _).mpr hq) h
    rw [this] at hp
    exact x_ret rfl rfl rfl rfl hp
  · rw [(xb_tb _ _).mp h] at hp
    exact x_goto rfl rfl (x_ret rfl rfl rfl rfl hp)
theorem l_bits {c : Nat} (hc : c < 1024) (hp : post (some (nI (wCnt c))) D) : ∀ f i, i + f = 10 → xW Γ n hX9_bits rX9_bits 4 [some (xI (nI c)), some (xI (nI (wSum (fun i => if c.testBit i then 1 else 0) i))), some (xI (nI i))] [] D post := by
  intro f
  induction f with
  | zero =>
    intro i hi
    obtain rfl : i = 10 := by omega
    refine xi_geN 10 10 rfl rfl rfl rfl (by omega) (by omega) (fun _ => ?_) (fun h => absurd h (by omega))
    exact x_ret rfl rfl rfl rfl hp
  | succ f ih =>
    intro i hi
    have IH := ih (i + 1) (by omega)
    have e : (if c.testBit i then 1 else 0) = c / 2 ^ i % 2 := by
      cases hq : c.testBit i with
      | true => rw [(xb_tb _ _).mpr hq]; rfl
      | false =>
        have : ¬ c / 2 ^ i % 2 = 1 := fun z => by rw [(xb_tb _ _).mp z] at hq; cases hq
        simp; omega
    rw [wSum, ← nI_1, ← nI_add, e, ← xb_bit (by omega) (by omega)] at IH
    refine xi_geN i 10 rfl rfl rfl rfl (by omega) (by omega) (fun h => absurd h (by omega)) (fun h => ?_)
    exact x_goto rfl rfl IH
theorem c_bits {c : Nat} (hc : c < 1024) (hp : post (some (nI (wCnt c))) D) : xRuns Γ n hX9_bits [xI (nI c)] D post := by
  refine x_runs kX9_bits (by decide +kernel) rfl ?_
  refine x_to 4 rfl ?_
  exact l_bits hc hp 10 0 rfl
theorem c_hears {k : Nat} (hk : k < 5) (hp : post (some (nI (wHears k))) D) : xRuns Γ n hX9_hears [xI (nI k)] D post := by
  refine x_runs kX9_hears (by decide +kernel) rfl ?_
  match k, hk with
  | 0, _ => exact xi_neN 0 3 rfl rfl rfl rfl (by omega) (by omega) (fun _ => xi_neN 0 4 rfl rfl rfl rfl (by omega) (by omega) (fun _ => x_ret rfl rfl rfl rfl hp) (fun h => absurd h (by decide))) (fun h => absurd h (by decide))
  | 1, _ => exact xi_neN 1 3 rfl rfl rfl rfl (by omega) (by omega) (fun _ => xi_neN 1 4 rfl rfl rfl rfl (by omega) (by omega) (fun _ => x_ret rfl rfl rfl rfl hp) (fun h => absurd h (by decide))) (fun h => absurd h (by decide))
  | 2, _ => exact xi_neN 2 3 rfl rfl rfl rfl (by omega) (by omega) (fun _ => xi_neN 2 4 rfl rfl rfl rfl (by omega) (by omega) (fun _ => x_ret rfl rfl rfl rfl hp) (fun h => absurd h (by decide))) (fun h => absurd h (by decide))
  | 3, _ => exact xi_neN 3 3 rfl rfl rfl rfl (by omega) (by omega) (fun h => absurd rfl h) (fun _ => x_goto rfl rfl (x_ret rfl rfl rfl rfl hp))
  | 4, _ => exact xi_neN 4 3 rfl rfl rfl rfl (by omega) (by omega) (fun _ => xi_neN 4 4 rfl rfl rfl rfl (by omega) (by omega) (fun h => absurd rfl h) (fun _ => x_goto rfl rfl (x_ret rfl rfl rfl rfl hp))) (fun h => absurd h (by decide))
theorem c_gets {k : Nat} (hk : k < 5) (hp : post (some (nI (wGets k))) D) : xRuns Γ n hX9_gets [xI (nI k)] D post := by
  refine x_runs kX9_gets (by decide +kernel) rfl ?_
  match k, hk with
  | 0, _ => exact xi_eqN 0 3 rfl rfl rfl rfl (by omega) (by omega) (fun h => absurd h (by decide)) (fun _ => xi_neN 0 4 rfl rfl rfl rfl (by omega) (by omega) (fun _ => xi_neN 0 1 rfl rfl rfl rfl (by omega) (by omega) (fun _ => x_ret rfl rfl rfl rfl hp) (fun h => absurd h (by decide))) (fun h => absurd h (by decide)))
  | 1, _ => exact xi_eqN 1 3 rfl rfl rfl rfl (by omega) (by omega) (fun h => absurd h (by decide)) (fun _ => xi_neN 1 4 rfl rfl rfl rfl (by omega) (by omega) (fun _ => xi_neN 1 1 rfl rfl rfl rfl (by omega) (by omega) (fun h => absurd rfl h) (fun _ => x_goto rfl rfl (x_ret rfl rfl rfl rfl hp))) (fun h => absurd h (by decide)))
  | 2, _ => exact xi_eqN 2 3 rfl rfl rfl rfl (by omega) (by omega) (fun h => absurd h (by decide)) (fun _ => xi_neN 2 4 rfl rfl rfl rfl (by omega) (by omega) (fun _ => xi_neN 2 1 rfl rfl rfl rfl (by omega) (by omega) (fun _ => x_ret rfl rfl rfl rfl hp) (fun h => absurd h (by decide))) (fun h => absurd h (by decide)))
  | 3, _ => exact xi_eqN 3 3 rfl rfl rfl rfl (by omega) (by omega) (fun _ => x_goto rfl rfl (x_ret rfl rfl rfl rfl hp)) (fun h => absurd rfl h)
  | 4, _ => exact xi_eqN 4 3 rfl rfl rfl rfl (by omega) (by omega) (fun h => absurd h (by decide)) (fun _ => xi_neN 4 4 rfl rfl rfl rfl (by omega) (by omega) (fun h => absurd rfl h) (fun _ => x_goto rfl rfl (x_ret rfl rfl rfl rfl hp)))
theorem c_says {k : Nat} (hk : k < 5) (hp : post (some (nI (wSays k))) D) : xRuns Γ n hX9_says [xI (nI k)] D post := by
  refine x_runs kX9_says (by decide +kernel) rfl ?_
  match k, hk with
  | 0, _ => exact xi_eqN 0 3 rfl rfl rfl rfl (by omega) (by omega) (fun h => absurd h (by decide)) (fun _ => xi_neN 0 4 rfl rfl rfl rfl (by omega) (by omega) (fun _ => xi_neN 0 2 rfl rfl rfl rfl (by omega) (by omega) (fun _ => x_ret rfl rfl rfl rfl hp) (fun h => absurd h (by decide))) (fun h => absurd h (by decide)))
  | 1, _ => exact xi_eqN 1 3 rfl rfl rfl rfl (by omega) (by omega) (fun h => absurd h (by decide)) (fun _ => xi_neN 1 4 rfl rfl rfl rfl (by omega) (by omega) (fun _ => xi_neN 1 2 rfl rfl rfl rfl (by omega) (by omega) (fun _ => x_ret rfl rfl rfl rfl hp) (fun h => absurd h (by decide))) (fun h => absurd h (by decide)))
  | 2, _ => exact xi_eqN 2 3 rfl rfl rfl rfl (by omega) (by omega) (fun h => absurd h (by decide)) (fun _ => xi_neN 2 4 rfl rfl rfl rfl (by omega) (by omega) (fun _ => xi_neN 2 2 rfl rfl rfl rfl (by omega) (by omega) (fun h => absurd rfl h) (fun _ => x_goto rfl rfl (x_ret rfl rfl rfl rfl hp))) (fun h => absurd h (by decide)))
  | 3, _ => exact xi_eqN 3 3 rfl rfl rfl rfl (by omega) (by omega) (fun _ => x_goto rfl rfl (x_ret rfl rfl rfl rfl hp)) (fun h => absurd rfl h)
  | 4, _ => exact xi_eqN 4 3 rfl rfl rfl rfl (by omega) (by omega) (fun h => absurd h (by decide)) (fun _ => xi_neN 4 4 rfl rfl rfl rfl (by omega) (by omega) (fun h => absurd rfl h) (fun _ => x_goto rfl rfl (x_ret rfl rfl rfl rfl hp)))
theorem c_loses {k : Nat} (hk : k < 5) (hp : post (some (nI (wLoses k))) D) : xRuns Γ n hX9_loses [xI (nI k)] D post := by
  refine x_runs kX9_loses (by decide +kernel) rfl ?_
  match k, hk with
  | 0, _ => exact x0_eq rfl rfl (fun _ => x_goto rfl rfl (x_ret rfl rfl rfl rfl hp)) (fun h => absurd rfl h)
  | 1, _ => exact x0_eq rfl rfl (fun h => absurd h (by decide)) (fun _ => xi_neN 1 2 rfl rfl rfl rfl (by omega) (by omega) (fun _ => x_ret rfl rfl rfl rfl hp) (fun h => absurd h (by decide)))
  | 2, _ => exact x0_eq rfl rfl (fun h => absurd h (by decide)) (fun _ => xi_neN 2 2 rfl rfl rfl rfl (by omega) (by omega) (fun h => absurd rfl h) (fun _ => x_goto rfl rfl (x_ret rfl rfl rfl rfl hp)))
  | 3, _ => exact x0_eq rfl rfl (fun h => absurd h (by decide)) (fun _ => xi_neN 3 2 rfl rfl rfl rfl (by omega) (by omega) (fun _ => x_ret rfl rfl rfl rfl hp) (fun h => absurd h (by decide)))
  | 4, _ => exact x0_eq rfl rfl (fun h => absurd h (by decide)) (fun _ => xi_neN 4 2 rfl rfl rfl rfl (by omega) (by omega) (fun _ => x_ret rfl rfl rfl rfl hp) (fun h => absurd h (by decide)))
theorem c_isOpen {b : Nat} (hr : rM D o S) (ho : wok S) (hoo : o ≤ 1296) (hb : b < 32) (hp : post (some (if S.C.testBit b then 0 else 1)) D) : xRuns Γ (n + 1) hX9_isOpen [xR 0 9 111, xI (nI o), xI (nI b)] D post := by
  have hc := ho.2.2.2.1
  refine x_runs kX9_isOpen (by decide +kernel) rfl ?_
  refine x_aldN (o + 3) rfl rfl (nI_add _ _) (by omega) rfl ?_
  rw [hr.2.2.2.1]
  refine x_scall [xI (nI S.C), xI (nI b)] rfl rfl rfl rfl rfl rfl rfl (c_has (by omega) hb ?_)
  cases hz : S.C.testBit b with
  | true =>
    rw [hz] at hp
    exact x0_ne rfl rfl (fun _ => x_ret rfl rfl rfl rfl hp) (fun h => absurd h (by decide))
  | false =>
    rw [hz] at hp
    exact x0_ne rfl rfl (fun h => absurd rfl h) (fun _ => x_goto rfl rfl (x_ret rfl rfl rfl rfl hp))
theorem ixM {o b k : Nat} : nI o + xnum 20 + xnum 10 * nI b + nI k = nI (o + 20 + (b * 10 + k)) := by
  show nI o + nI 20 + nI 10 * nI b + nI k = _
  rw [pk_mul, nI_add, nI_add, nI_add]
  exact congrArg nI (by omega)
theorem c_learns {b k v : Nat} (hr : rM D o S) (ho : wok S) (hoo : o ≤ 1296) (hb : b < S.B) (hk : k < 10) (hv : v ≤ 9) (hp : post none (xup D 112 (o + 20 + (b * 10 + k)) (nI (min 9 (S.K b k + v))))) : xRuns Γ n hX9_learns [xR 0 9 111, xI (nI o), xI (nI b), xI (nI k), xI (nI v)] D post := by
  have h8 := ho.1
  have h9 := ho.2.2.2.2.2.2.1 b k hb hk
  have e7 := hr.2.2.2.2.2.2.1 b k hb hk
  refine x_runs kX9_learns (by decide +kernel) rfl ?_
  refine x_aldN (o + 20 + (b * 10 + k)) rfl rfl ixM (by omega) rfl ?_
  refine xi_leN (S.K b k + v) 9 rfl rfl (by rw [e7]; exact nI_add _ _) rfl (by omega) (by omega) (fun h => ?_) (fun h => ?_)
  · refine x_aldN (o + 20 + (b * 10 + k)) rfl rfl ixM (by omega) rfl ?_
    refine x_astN (o + 20 + (b * 10 + k)) rfl rfl ixM (by omega) rfl ?_
    refine x_vret rfl rfl rfl ?_
    rw [Nat.min_eq_right h, ← nI_add, ← e7] at hp
    exact hp
  · refine x_goto rfl rfl ?_
    refine x_astN (o + 20 + (b * 10 + k)) rfl rfl ixM (by omega) rfl ?_
    refine x_vret rfl rfl rfl ?_
    rw [Nat.min_eq_left (by omega)] at hp
    exact hp
theorem l_mwell {b : Nat} (hr : rM D o S) (ho : wok S) (hoo : o ≤ 1296) (hb : b < S.B) (hp : post (some (nI (wWell S b))) D) : ∀ f i, i + f = 10 → xW Γ n hX9_wellKnown rX9_wellKnown 5 [some (xR 0 9 111), some (xI (nI o)), some (xI (nI b)), some (xI (nI (wbits (fun k => decide (5 ≤ S.K b k)) i))), some (xI (nI i))] [] D post := by
  have h8 := ho.1
  intro f
  induction f with
  | zero =>
    intro i hi
    obtain rfl : i = 10 := by omega
    refine xi_geN 10 10 rfl rfl rfl rfl (by omega) (by omega) (fun _ => ?_) (fun h => absurd h (by omega))
    exact x_ret rfl rfl rfl rfl hp
  | succ f ih =>
    intro i hi
    have h9 := ho.2.2.2.2.2.2.1 b i hb (by omega)
    have IH := ih (i + 1) (by omega)
    rw [wbits, ← nI_1] at IH
    refine xi_geN i 10 rfl rfl rfl rfl (by omega) (by omega) (fun h => absurd h (by omega)) (fun h => ?_)
    refine x_aldN (o + 20 + (b * 10 + i)) rfl rfl ixM (by omega) rfl ?_
    rw [hr.2.2.2.2.2.2.1 b i hb (by omega)]
    refine xi_leN (S.K b i) 4 rfl rfl rfl rfl (by omega) (by omega) (fun h5 => ?_) (fun h5 => ?_)
    · rw [if_neg (by simp; omega), Nat.add_zero] at IH
      have e : nI (wbits (fun k => decide (5 ≤ S.K b k)) i) ||| nI 0 = nI (wbits (fun k => decide (5 ≤ S.K b k)) i) := by rw [xb_or, Nat.or_zero]
      rw [← e] at IH
      exact x_goto rfl rfl IH
    · rw [if_pos (by simp; omega), ← xb_orp (wbits_lt _ _), ← xb_sh1 (by omega)] at IH
      exact x_goto rfl rfl (x_goto rfl rfl IH)
theorem c_mwell {b : Nat} (hr : rM D o S) (ho : wok S) (hoo : o ≤ 1296) (hb : b < S.B) (hp : post (some (nI (wWell S b))) D) : xRuns Γ n hX9_wellKnown [xR 0 9 111, xI (nI o), xI (nI b)] D post := by
  refine x_runs kX9_wellKnown (by decide +kernel) rfl ?_
  refine x_to 5 rfl ?_
  exact l_mwell hr ho hoo hb hp 10 0 rfl
end M1
end
section
/-! ===== the reference: an evening ===== -/
theorem ixo {o k m : Nat} : nI o + nI k + nI m = nI (o + k + m) := by rw [nI_add, nI_add]
def sameMP (o : Nat) (D D' : xM) : Prop := ∀ a j, ¬ (a = 112 ∧ o ≤ j ∧ j < o + 108) → a ≠ 138 → a ≠ 139 → D' a j = D a j
theorem sameMP.rf {o : Nat} {D : xM} : sameMP o D D := fun _ _ _ _ _ => rfl
theorem sameMP.tr {o : Nat} {D D1 D2 : xM} (h : sameMP o D D1) (h2 : sameMP o D1 D2) : sameMP o D D2 := fun a j h1 h3 h4 => (h2 a j h1 h3 h4).trans (h a j h1 h3 h4)
theorem sameMP.ofM {o : Nat} {D D1 : xM} (h : sameM o D D1) : sameMP o D D1 := fun a j h1 _ _ => h a j h1
theorem rP_outM {D D' : xM} {o : Nat} {sp : Nat → List Nat} (h : rP D 138 139 sp) (hs : sameM o D D') : rP D' 138 139 sp := by
  intro p hp
  obtain ⟨h1, h2⟩ := h p hp
  exact ⟨by rw [hs 139 p (by omega)]; exact h1, fun j hj => by rw [hs 138 _ (by omega)]; exact h2 j hj⟩
theorem wLow_spec : ∀ c, c < 1024 → 0 < c → c.testBit (wLow c) = true ∧ ∀ j, j < 10 → j < wLow c → c.testBit j = false := by decide +kernel
theorem ha_drop2 : ∀ c, c < 1024 → 0 < c → nI c &&& ((nI 1 <<< (nI (wLow c) &&& 31)) ^^^ (-1)) = nI (c &&& (c - 1)) := by decide +kernel
section M2
variable {Γ : xG} {n : Nat} {D : xM} {post : Option Int32 → xM → Prop} {o : Nat} {S : wS}
theorem l_manOf {b : Nat} (hr : rM D o S) (ho : wok S) (hoo : o ≤ 1296) (hb : b < 2 ^ 31) (hp : post (some (xby (wBy S b))) D) : ∀ f i (q : Option Nat), i + f = S.M → (q = none → ∀ m, m < i → S.bi m ≠ some b) → (∀ m, q = some m → m < i ∧ S.bi m = some b) → xW Γ n hX9_manOf rX9_manOf 5 [some (xR 0 9 111), some (xI (nI o)), some (xI (nI b)), some (xI (xby q)), some (xI (nI i))] [] D post := by
  have h4 := ho.2.1
  intro f
  induction f with
  | zero =>
    intro i q hi hn hs
    refine x_aldN (o + 1) rfl rfl (nI_add _ _) (by omega) rfl ?_
    refine xi_geN i S.M rfl rfl rfl hr.2.1 (by omega) (by omega) (fun _ => ?_) (fun h => absurd h (by omega))
    have e : wBy S b = q := by
      cases q with
      | none =>
        cases hz : wBy S b with
        | none => rfl
        | some m => exact absurd (wBy_some hz).2 (hn rfl m (by have := (wBy_some hz).1; omega))
      | some m => exact wBy_is ho (by have := (hs m rfl).1; omega) (hs m rfl).2
    rw [e] at hp
    exact x_ret rfl rfl rfl rfl hp
  | succ f ih =>
    intro i q hi hn hs
    refine x_aldN (o + 1) rfl rfl (nI_add _ _) (by omega) rfl ?_
    refine xi_geN i S.M rfl rfl rfl hr.2.1 (by omega) (by omega) (fun h => absurd h (by omega)) (fun h => ?_)
    refine x_aldN (o + 104 + i) rfl rfl (ixo (k := 104)) (by omega) rfl ?_
    rw [hr.2.2.2.2.2.2.2.2 i (by omega)]
    refine xi_ne rfl rfl (fun h2 => ?_) (fun h2 => ?_)
    · have h2 : S.bi i ≠ some b := fun z => h2 ((xby_eq hb (wok_bi ho (by omega))).mpr z)
      have IH := ih (i + 1) q (by omega) (fun hq m hm => by
        by_cases e : m = i
        · subst e; exact h2
        · exact hn hq m (by omega)) (fun m hm => ⟨by have := (hs m hm).1; omega, (hs m hm).2⟩)
      rw [← nI_1] at IH
      exact x_goto rfl rfl IH
    · have h3 := (xby_eq hb (wok_bi ho (by omega))).mp h2
      have IH := ih (i + 1) (some i) (by omega) (fun hq => by cases hq) (fun m hm => by cases hm; exact ⟨by omega, h3⟩)
      rw [← nI_1] at IH
      exact x_goto rfl rfl (x_goto rfl rfl IH)
theorem c_manOf {b : Nat} (hr : rM D o S) (ho : wok S) (hoo : o ≤ 1296) (hb : b < 2 ^ 31) (hp : post (some (xby (wBy S b))) D) : xRuns Γ n hX9_manOf [xR 0 9 111, xI (nI o), xI (nI b)] D post := by
  refine x_runs kX9_manOf (by decide +kernel) rfl ?_
  refine x_to 5 rfl ?_
  exact l_manOf hr ho hoo hb hp S.M 0 none (by omega) (fun _ m hm => absurd hm (by omega)) (fun m hm => by cases hm)
theorem l_bestWord {b wo : Nat} (hr : rM D o S) (ho : wok S) (hoo : o ≤ 1296) (hb : b < S.B) (hwo : wo < 1024) (hp : post (some (xby (wBst (S.K b) wo 10).1)) D) : ∀ f i, i + f = 10 → xW Γ (n + 1) hX9_bestWord rX9_bestWord 9 [some (xR 0 9 111), some (xI (nI o)), some (xI (nI b)), some (xI (nI wo)), some (xI (xby (wBst (S.K b) wo i).1)), some (xI (nI (wBst (S.K b) wo i).2)), some (xI (nI i)), none] [] D post := by
  have h8 := ho.1
  intro f
  induction f with
  | zero =>
    intro i hi
    obtain rfl : i = 10 := by omega
    refine xi_geN 10 10 rfl rfl rfl rfl (by omega) (by omega) (fun _ => ?_) (fun h => absurd h (by omega))
    exact x_ret rfl rfl rfl rfl hp
  | succ f ih =>
    intro i hi
    have h9 := ho.2.2.2.2.2.2.1 b i hb (by omega)
    have hle := wBst_le (f := S.K b) (wo := wo) (c := 9) i (fun j hj => ho.2.2.2.2.2.2.1 b j hb (by omega))
    have IH := ih (i + 1) (by omega)
    rw [wBst, ← nI_1] at IH
    refine xi_geN i 10 rfl rfl rfl rfl (by omega) (by omega) (fun h => absurd h (by omega)) (fun h => ?_)
    refine x_scall [xI (nI wo), xI (nI i)] rfl rfl rfl rfl rfl rfl rfl (c_has (by omega) (by omega) ?_)
    cases ht : wo.testBit i with
    | true =>
      rw [if_neg (by rw [ht]; simp)] at IH
      refine x0_eq rfl rfl (fun h => absurd h (by decide)) (fun _ => ?_)
      refine x_goto rfl rfl ?_
      refine xi_leN 0 (wBst (S.K b) wo i).2 rfl rfl rfl rfl (by omega) (by omega) (fun _ => ?_) (fun h => absurd h (by omega))
      refine xi_leN 0 (wBst (S.K b) wo i).2 rfl rfl rfl rfl (by omega) (by omega) (fun _ => ?_) (fun h => absurd h (by omega))
      exact x_goto rfl rfl (x_drop 7 IH)
    | false =>
      refine x0_eq rfl rfl (fun _ => ?_) (fun h => absurd rfl h)
      refine x_aldN (o + 20 + (b * 10 + i)) rfl rfl ixM (by omega) rfl ?_
      rw [hr.2.2.2.2.2.2.1 b i hb (by omega)]
      refine xi_leN (S.K b i) (wBst (S.K b) wo i).2 rfl rfl rfl rfl (by omega) (by omega) (fun h2 => ?_) (fun h2 => ?_)
      · rw [if_neg (by omega)] at IH
        refine xi_leN (S.K b i) (wBst (S.K b) wo i).2 rfl rfl rfl rfl (by omega) (by omega) (fun _ => ?_) (fun h => absurd h (by omega))
        exact x_goto rfl rfl (x_drop 7 IH)
      · rw [if_pos ⟨h2, ht⟩] at IH
        refine x_goto rfl rfl ?_
        refine xi_leN (S.K b i) (wBst (S.K b) wo i).2 rfl rfl rfl rfl (by omega) (by omega) (fun h => absurd h (by omega)) (fun _ => ?_)
        exact x_goto rfl rfl (x_goto rfl rfl (x_drop 7 IH))
theorem c_bestWord {b wo : Nat} (hr : rM D o S) (ho : wok S) (hoo : o ≤ 1296) (hb : b < S.B) (hwo : wo < 1024) (hp : post (some (xby (wBst (S.K b) wo 10).1)) D) : xRuns Γ (n + 1) hX9_bestWord [xR 0 9 111, xI (nI o), xI (nI b), xI (nI wo)] D post := by
  refine x_runs kX9_bestWord (by decide +kernel) rfl ?_
  refine x_to 9 rfl ?_
  exact l_bestWord hr ho hoo hb hwo hp 10 0 rfl
theorem wAw_tb {S : wS} {p i : Nat} (hi : i < S.B) : (wAw S p).testBit i = (decide (S.pe i = p) && !S.C.testBit i) := by
  rw [wAw, wbits_tb]
  simp [hi]
theorem l_isSilent {p : Nat} (hr : rM D o S) (ho : wok S) (hoo : o ≤ 1296) (hp4 : p < 4) (hp : post (some (if wSil S (wAw S p) then 1 else 0)) D) : ∀ f i, i + f = S.B → xW Γ (n + 2) hX9_isSilent rX9_isSilent 5 [some (xR 0 9 111), some (xI (nI o)), some (xI (nI p)), some (xI (if (List.range i).any (fun b => (wAw S p).testBit b && decide (S.kd b = 3)) then 1 else 0)), some (xI (nI i))] [] D post := by
  have h8 := ho.1
  intro f
  induction f with
  | zero =>
    intro i hi
    obtain rfl : i = S.B := by omega
    refine x_aldN o rfl rfl (by show nI o + nI 0 = nI o; rw [nI_add, Nat.add_zero]) (by omega) rfl ?_
    refine xi_geN S.B S.B rfl rfl rfl hr.1 (by omega) (by omega) (fun _ => ?_) (fun h => absurd h (by omega))
    exact x_ret rfl rfl rfl (by split <;> rfl) hp
  | succ f ih =>
    intro i hi
    have h4 := ho.2.2.2.2.2.1 i (by omega)
    have h5 := ho.2.2.2.2.1 i (by omega)
    have IH := ih (i + 1) (by omega)
    rw [List.range_succ, List.any_append, ← nI_1] at IH
    refine x_aldN o rfl rfl (by show nI o + nI 0 = nI o; rw [nI_add, Nat.add_zero]) (by omega) rfl ?_
    refine xi_geN i S.B rfl rfl rfl hr.1 (by omega) (by omega) (fun h => absurd h (by omega)) (fun h => ?_)
    have tt := wAw_tb (S := S) (p := p) (i := i) (by omega)
    cases hany : (List.range i).any (fun b => (wAw S p).testBit b && decide (S.kd b = 3)) with
    | true =>
      rw [hany, Bool.true_or] at IH
      exact x0_ne rfl rfl (fun _ => x_goto rfl rfl (x_goto rfl rfl IH)) (fun h => absurd h (by decide))
    | false =>
      rw [hany, Bool.false_or] at IH
      refine x0_ne rfl rfl (fun h => absurd rfl h) (fun _ => ?_)
      refine x_aldN (o + 12 + i) rfl rfl (ixo (k := 12)) (by omega) rfl ?_
      rw [hr.2.2.2.2.2.1 i (by omega)]
      refine xi_neN (S.pe i) p rfl rfl rfl rfl (by omega) (by omega) (fun h2 => ?_) (fun h2 => ?_)
      · have e : ([i].any fun b => (wAw S p).testBit b && decide (S.kd b = 3)) = false := by simp [tt, h2]
        rw [e] at IH
        exact x_goto rfl rfl IH
      · refine x_aldN (o + 4 + i) rfl rfl (ixo (k := 4)) (by omega) rfl ?_
        rw [hr.2.2.2.2.1 i (by omega)]
        refine xi_neN (S.kd i) 3 rfl rfl rfl rfl (by omega) (by omega) (fun h3 => ?_) (fun h3 => ?_)
        · have e : ([i].any fun b => (wAw S p).testBit b && decide (S.kd b = 3)) = false := by simp [h3]
          rw [e] at IH
          exact x_goto rfl rfl IH
        · refine x_call [xI (nI o), xI (nI i)] rfl rfl rfl rfl rfl rfl rfl (c_isOpen hr ho hoo (by omega) ?_)
          cases hc : S.C.testBit i with
          | true =>
            have e : ([i].any fun b => (wAw S p).testBit b && decide (S.kd b = 3)) = false := by simp [tt, hc]
            rw [e] at IH
            exact x0_eq rfl rfl (fun _ => x_goto rfl rfl IH) (fun h => absurd rfl h)
          | false =>
            have e : ([i].any fun b => (wAw S p).testBit b && decide (S.kd b = 3)) = true := by simp [tt, hc, h2, h3]
            rw [e] at IH
            exact x0_eq rfl rfl (fun h => absurd h (by decide)) (fun _ => x_goto rfl rfl (x_goto rfl rfl IH))
theorem c_isSilent {p : Nat} (hr : rM D o S) (ho : wok S) (hoo : o ≤ 1296) (hp4 : p < 4) (hp : post (some (if wSil S (wAw S p) then 1 else 0)) D) : xRuns Γ (n + 2) hX9_isSilent [xR 0 9 111, xI (nI o), xI (nI p)] D post := by
  refine x_runs kX9_isSilent (by decide +kernel) rfl ?_
  refine x_to 5 rfl ?_
  exact l_isSilent hr ho hoo hp4 hp S.B 0 (by omega)
theorem wWoAw {S : wS} (ho : wok S) {p b i : Nat} (hi : i < S.B) : (wWo (wAw S p) b).testBit i = (decide (S.pe i = p) && !S.C.testBit i && !decide (i = b)) := by
  rw [wWo_tb (wAw_lt ho p), wAw_tb hi]
theorem l_say {p b k : Nat} {K : wKf} (ho : wok S) (hK : kok S.B K) (hoo : o ≤ 1296) (hp4 : p < 4) (hb : b < S.B) (hk : k < 10) (hp : ∀ D', rM D' o (wK S (kSpr S.kd K k (wWo (wAw S p) b) S.B)) → sameM o D D' → post none D') : ∀ f i (D1 : xM), i + f = S.B → rM D1 o (wK S (kSpr S.kd K k (wWo (wAw S p) b) i)) → sameM o D D1 → xW Γ (n + 2) hX9_say rX9_say 31 [some (xR 0 9 111), some (xI (nI o)), some (xI (nI p)), some (xI (nI b)), some (xI (nI k)), some (xI (nI i))] [] D1 post := by
  have h8 := ho.1
  intro f
  induction f with
  | zero =>
    intro i D1 hi hr1 hs1
    obtain rfl : i = S.B := by omega
    refine x_aldN o rfl rfl (by show nI o + nI 0 = nI o; rw [nI_add, Nat.add_zero]) (by omega) rfl ?_
    refine xi_geN S.B S.B rfl rfl rfl hr1.1 (by omega) (by omega) (fun _ => ?_) (fun h => absurd h (by omega))
    exact x_vret rfl rfl rfl (hp D1 hr1 hs1)
  | succ f ih =>
    intro i D1 hi hr1 hs1
    have h4 := ho.2.2.2.2.2.1 i (by omega)
    have h5 := ho.2.2.2.2.1 i (by omega)
    have ho1 := wok_K ho (kok_spr hK k (wWo (wAw S p) b) i (kd := S.kd))
    have tt := wWoAw ho (p := p) (b := b) (i := i) (by omega)
    have skip : (wWo (wAw S p) b).testBit i = false → xW Γ (n + 2) hX9_say rX9_say 99 [some (xR 0 9 111), some (xI (nI o)), some (xI (nI p)), some (xI (nI b)), some (xI (nI k)), some (xI (nI i))] [] D1 post := by
      intro ht
      have IH := ih (i + 1) D1 (by omega) (by rw [kSpr, ht]; exact hr1) hs1
      rw [← nI_1] at IH
      exact x_goto rfl rfl IH
    refine x_aldN o rfl rfl (by show nI o + nI 0 = nI o; rw [nI_add, Nat.add_zero]) (by omega) rfl ?_
    refine xi_geN i S.B rfl rfl rfl hr1.1 (by omega) (by omega) (fun h => absurd h (by omega)) (fun h => ?_)
    refine xi_eqN i b rfl rfl rfl rfl (by omega) (by omega) (fun h2 => skip (by rw [tt]; simp [h2])) (fun h2 => ?_)
    refine x_aldN (o + 12 + i) rfl rfl (ixo (k := 12)) (by omega) rfl ?_
    rw [hr1.2.2.2.2.2.1 i (by show i < S.B; omega)]
    refine xi_neN (S.pe i) p rfl rfl rfl rfl (by omega) (by omega) (fun h3 => skip (by simp [tt, h3])) (fun h3 => ?_)
    refine x_call [xI (nI o), xI (nI i)] rfl rfl rfl rfl rfl rfl rfl (c_isOpen hr1 ho1 hoo (by omega) ?_)
    cases hc : S.C.testBit i with
    | true =>
      exact x0_eq rfl rfl (fun _ => skip (by simp [tt, hc])) (fun h => absurd rfl h)
    | false =>
      refine x0_eq rfl rfl (fun h => absurd h (by decide)) (fun _ => ?_)
      have ht : (wWo (wAw S p) b).testBit i = true := by simp [tt, hc, h2, h3]
      refine x_aldN (o + 4 + i) rfl rfl (ixo (k := 4)) (by omega) rfl ?_
      rw [hr1.2.2.2.2.1 i (by show i < S.B; omega)]
      have hle := wHears_le (S.kd i)
      refine x_scall [xI (nI (S.kd i))] rfl rfl rfl rfl rfl rfl rfl (c_hears h5 ?_)
      refine x_call [xI (nI o), xI (nI i), xI (nI k), xI (nI (wHears (S.kd i)))] rfl rfl rfl rfl rfl rfl rfl (c_learns hr1 ho1 hoo (by show i < S.B; omega) hk (by omega) ?_)
      have IH := ih (i + 1) _ (by omega) (by rw [kSpr, ht]; exact rM_K hr1 h8 ho.2.1 (by show i < S.B; omega) hk) (hs1.up (by omega) (by omega))
      rw [← nI_1] at IH
      exact x_goto rfl rfl IH
theorem c_say {p b k : Nat} {sp : Nat → List Nat} (hr : rM D o S) (hP : rP D 138 139 sp) (ho : wok S) (hoo : o ≤ 1296) (hp4 : p < 4) (hb : b < S.B) (hk : k < 10) (hlen : ∀ z, z < 4 → (sp z).length ≤ 16) (hl : (sp p).length < 16) (hp : ∀ D', rM D' o (wK S (kSpr S.kd S.K k (wWo (wAw S p) b) S.B)) → rP D' 138 139 (wuf sp p (sp p ++ [k])) → sameMP o D D' → post none D') : xRuns Γ (n + 2) hX9_say [xR 0 9 111, xI (nI o), xI (nI p), xI (nI b), xI (nI k)] D post := by
  have h1 := (hP p hp4).1
  have h8 := ho.1
  refine x_runs kX9_say (by decide +kernel) rfl ?_
  refine x_aldN p rfl rfl rfl (by omega) rfl ?_
  refine x_astN (p * 16 + (sp p).length) rfl rfl (by
    rw [h1]
    show nI 16 * nI p + nI (sp p).length = _
    rw [pk_mul, nI_add, Nat.mul_comm]) (by omega) rfl ?_
  refine x_aldN p rfl rfl rfl (by omega) rfl ?_
  refine x_astN p rfl rfl rfl (by omega) rfl ?_
  have e : xup D 138 (p * 16 + (sp p).length) (nI k) 139 p + xnum 1 = nI ((sp p).length + 1) := by
    rw [xup_o (by omega), h1]
    exact nI_1 _
  rw [e]
  have hP2 := rP_add (k := k) hP (by decide) hp4 hl hlen
  refine x_to 31 rfl ?_
  refine l_say (K := S.K) ho (wok_kok ho) hoo hp4 hb hk (fun D' hr' hs' => hp D' hr' (rP_outM hP2 hs') (fun a j g1 g2 g3 => ?_)) S.B 0 _ (by omega) (rM_out hr h8 ho.2.1 (fun j _ _ => by rw [xup_o (by omega), xup_o (by omega)])) sameM.rf
  rw [hs' a j g1, xup_o (by omega), xup_o (by omega)]
end M2
end
section
/-! ===== the reference: speak, lose, handOver, passes, copyHarbour, sets ===== -/
section M3
variable {Γ : xG} {n : Nat} {D : xM} {post : Option Int32 → xM → Prop} {o : Nat} {S : wS}
theorem l_mturn {p b : Nat} (ho : wok S) (hoo : o ≤ 1296) (hp4 : p < 4) (hb : b < S.B) : ∀ (f i said : Nat) (q : wKf × (Nat → List Nat)) (D1 : xM), i + f = wSays (S.kd b) → kok S.B q.1 → rM D1 o (wK S q.1) → rP D1 138 139 q.2 → (∀ z, z < 4 → (q.2 z).length ≤ 16) → (q.2 p).length + f ≤ 16 → said < 1024 →
    (∀ D', rM D' o (wK S (kSpk S.kd b p (wWo (wAw S p) b) S.B f said q).1) → rP D' 138 139 (kSpk S.kd b p (wWo (wAw S p) b) S.B f said q).2 → sameMP o D1 D' → xW Γ (n + 3) hX9_speak rX9_speak 111 [some (xR 0 9 111), some (xI (nI o)), some (xI (nI p)), some (xI (nI b)), none, none, none] [] D' post) →
    xW Γ (n + 3) hX9_speak rX9_speak 53 [some (xR 0 9 111), some (xI (nI o)), some (xI (nI p)), some (xI (nI b)), some (xI (nI said)), some (xI (xby (wBst (q.1 b) said 10).1)), some (xI (nI i))] [] D1 post := by
  have h8 := ho.1
  have h5 := ho.2.2.2.2.1 b hb
  have hsy := wSays_le _ h5
  intro f
  induction f with
  | zero =>
    intro i said q D1 hi hq hr1 hP1 hlen hl hsd hp
    refine x_aldN (o + 4 + b) rfl rfl (ixo (k := 4)) (by omega) rfl ?_
    rw [hr1.2.2.2.2.1 b hb]
    refine x_scall [xI (nI (S.kd b))] rfl rfl rfl rfl rfl rfl rfl (c_says h5 ?_)
    refine xi_geN i (wSays (S.kd b)) rfl rfl rfl rfl (by omega) (by omega) (fun _ => ?_) (fun h => absurd h (by omega))
    exact x_drop 4 (x_drop 5 (x_drop 6 (hp D1 hr1 hP1 sameMP.rf)))
  | succ f ih =>
    intro i said q D1 hi hq hr1 hP1 hlen hl hsd hp
    refine x_aldN (o + 4 + b) rfl rfl (ixo (k := 4)) (by omega) rfl ?_
    rw [hr1.2.2.2.2.1 b hb]
    refine x_scall [xI (nI (S.kd b))] rfl rfl rfl rfl rfl rfl rfl (c_says h5 ?_)
    refine xi_geN i (wSays (S.kd b)) rfl rfl rfl rfl (by omega) (by omega) (fun h => absurd h (by omega)) (fun h => ?_)
    rw [kSpk] at hp
    cases hz : (wBst (q.1 b) said 10).1 with
    | none =>
      rw [hz] at hp
      dsimp only at hp
      refine xi_eq rfl rfl (fun _ => ?_) (fun h2 => absurd rfl h2)
      exact x_drop 4 (x_drop 5 (x_drop 6 (hp D1 hr1 hP1 sameMP.rf)))
    | some k =>
      have hk : k < 10 := wBst_lt 10 k hz
      rw [hz] at hp
      dsimp only at hp
      refine xi_eq rfl rfl (fun h2 => ?_) (fun _ => ?_)
      · exact absurd ((xby_m1 (o := some k) (fun c hc => by cases hc; omega)).mp h2) (by simp)
      · refine x_call [xI (nI o), xI (nI p), xI (nI b), xI (nI k)] rfl rfl rfl rfl rfl rfl rfl (c_say hr1 hP1 (wok_K ho hq) hoo hp4 hb hk hlen (by omega) (fun D2 hr2 hP2 hs2 => ?_))
        have hr2 : rM D2 o (wK S (kSpr S.kd q.1 k (wWo (wAw S p) b) S.B)) := hr2
        have hq2 := kok_spr hq k (wWo (wAw S p) b) S.B (kd := S.kd)
        have e9 := sd_lt said k hsd hk
        rw [e9] at hp
        have e8 : nI said ||| (xnum 1 <<< (xby (some k) &&& 31)) = nI (said ||| 2 ^ k) := by
          rw [← xb_or, ← xb_sh1 (by omega)]
          rfl
        refine x_call [xI (nI o), xI (nI b), xI (nI said ||| (xnum 1 <<< (xby (some k) &&& 31)))] rfl rfl rfl rfl rfl rfl rfl ?_
        rw [e8]
        refine c_bestWord hr2 (wok_K ho hq2) hoo hb (or_lt hsd hk) ?_
        have IH := ih (i + 1) (said ||| 2 ^ k) (kSpr S.kd q.1 k (wWo (wAw S p) b) S.B, wuf q.2 p (q.2 p ++ [k])) D2 (by omega) hq2 hr2 hP2 (fun z hz4 => by
            by_cases ez : z = p
            · subst ez; simp [wuf]; omega
            · simp only [wuf, ez, if_false]; exact hlen z hz4) (by simp [wuf]; omega) (or_lt hsd hk) (fun D' g1 g2 g3 => hp D' g1 g2 (hs2.tr g3))
        rw [← nI_1] at IH
        exact x_goto rfl rfl IH
theorem l_mspeak {p : Nat} {q : wKf × (Nat → List Nat)} (ho : wok S) (hoo : o ≤ 1296) (hp4 : p < 4) (hq : kok S.B q.1) (hlen : ∀ z, z < 4 → (q.2 z).length ≤ 16) (hl0 : (q.2 p).length = 0) (hp : ∀ D', rM D' o (wK S (kSpo S.kd p (wAw S p) S.B S.B q).1) → rP D' 138 139 (kSpo S.kd p (wAw S p) S.B S.B q).2 → sameMP o D D' → post none D') : ∀ (f i : Nat) (D1 : xM), i + f = S.B → rM D1 o (wK S (kSpo S.kd p (wAw S p) S.B i q).1) → rP D1 138 139 (kSpo S.kd p (wAw S p) S.B i q).2 → sameMP o D D1 → xW Γ (n + 3) hX9_speak rX9_speak 2 [some (xR 0 9 111), some (xI (nI o)), some (xI (nI p)), some (xI (nI i)), none, none, none] [] D1 post := by
  have h8 := ho.1
  intro f
  induction f with
  | zero =>
    intro i D1 hi hr1 hP1 hs1
    obtain rfl : i = S.B := by omega
    refine x_aldN o rfl rfl (by show nI o + nI 0 = nI o; rw [nI_add, Nat.add_zero]) (by omega) rfl ?_
    refine xi_geN S.B S.B rfl rfl rfl hr1.1 (by omega) (by omega) (fun _ => ?_) (fun h => absurd h (by omega))
    exact x_vret rfl rfl rfl (hp D1 hr1 hP1 hs1)
  | succ f ih =>
    intro i D1 hi hr1 hP1 hs1
    have h4 := ho.2.2.2.2.2.1 i (by omega)
    have tt := wAw_tb (S := S) (p := p) (i := i) (by omega)
    have hkq := kok_spo (kd := S.kd) (p := p) (aw := wAw S p) i q hq
    have ho1 := wok_K ho hkq
    have skip : (wAw S p).testBit i = false → xW Γ (n + 3) hX9_speak rX9_speak 111 [some (xR 0 9 111), some (xI (nI o)), some (xI (nI p)), some (xI (nI i)), none, none, none] [] D1 post := by
      intro ht
      have IH := ih (i + 1) D1 (by omega) (by rw [kSpo, ht]; exact hr1) (by rw [kSpo, ht]; exact hP1) hs1
      rw [← nI_1] at IH
      exact x_goto rfl rfl IH
    refine x_aldN o rfl rfl (by show nI o + nI 0 = nI o; rw [nI_add, Nat.add_zero]) (by omega) rfl ?_
    refine xi_geN i S.B rfl rfl rfl hr1.1 (by omega) (by omega) (fun h => absurd h (by omega)) (fun h => ?_)
    refine x_aldN (o + 12 + i) rfl rfl (ixo (k := 12)) (by omega) rfl ?_
    rw [hr1.2.2.2.2.2.1 i (by show i < S.B; omega)]
    refine xi_neN (S.pe i) p rfl rfl rfl rfl (by omega) (by omega) (fun h2 => skip (by rw [tt]; simp [h2])) (fun h2 => ?_)
    refine x_call [xI (nI o), xI (nI i)] rfl rfl rfl rfl rfl rfl rfl (c_isOpen hr1 ho1 hoo (by omega) ?_)
    cases hc : S.C.testBit i with
    | true => exact x0_eq rfl rfl (fun _ => skip (by rw [tt]; simp [hc])) (fun h => absurd rfl h)
    | false =>
      have ht : (wAw S p).testBit i = true := by rw [tt]; simp [hc, h2]
      refine x0_eq rfl rfl (fun h => absurd h (by decide)) (fun _ => ?_)
      have hkd : ∀ c, c < i → S.kd c < 5 := fun c hc => ho.2.2.2.2.1 c (by omega)
      have hlz : ∀ z, z < 4 → ((kSpo S.kd p (wAw S p) S.B i q).2 z).length ≤ 16 := fun z hz => by
        have h1 := len_spo (B := S.B) (kd := S.kd) (p := p) (aw := wAw S p) i q z hkd
        have h2 := hlen z hz
        by_cases ez : z = p
        · subst ez; simp only [if_true] at h1; omega
        · simp only [ez, if_false] at h1; omega
      have hsy := wSays_le _ (ho.2.2.2.2.1 i (by omega))
      have hlp : ((kSpo S.kd p (wAw S p) S.B i q).2 p).length + wSays (S.kd i) ≤ 16 := by
        have h1 := len_spo (B := S.B) (kd := S.kd) (p := p) (aw := wAw S p) i q p hkd
        simp only [if_true] at h1
        omega
      refine x_call [xI (nI o), xI (nI i), xI (nI 0)] rfl rfl rfl rfl rfl rfl rfl (c_bestWord hr1 ho1 hoo (by show i < S.B; omega) (by omega) ?_)
      refine x_to 53 rfl ?_
      refine l_mturn ho hoo hp4 (by omega) (wSays (S.kd i)) 0 0 (kSpo S.kd p (wAw S p) S.B i q) D1 (by omega) hkq hr1 hP1 hlz hlp (by omega) (fun D2 hr2 hP2 hs2 => ?_)
      have IH := ih (i + 1) D2 (by omega) (by rw [kSpo, ht]; exact hr2) (by rw [kSpo, ht]; exact hP2) (hs1.tr hs2)
      rw [← nI_1] at IH
      exact x_goto rfl rfl IH
theorem c_mspeak {p : Nat} {sp : Nat → List Nat} (hr : rM D o S) (hP : rP D 138 139 sp) (ho : wok S) (hoo : o ≤ 1296) (hp4 : p < 4) (hlen : ∀ z, z < 4 → (sp z).length ≤ 16) (hl0 : (sp p).length = 0) (hp : ∀ D', rM D' o (wK S (kSpo S.kd p (wAw S p) S.B S.B (S.K, sp)).1) → rP D' 138 139 (kSpo S.kd p (wAw S p) S.B S.B (S.K, sp)).2 → sameMP o D D' → post none D') : xRuns Γ (n + 3) hX9_speak [xR 0 9 111, xI (nI o), xI (nI p)] D post := by
  refine x_runs kX9_speak (by decide +kernel) rfl ?_
  refine x_to 2 rfl ?_
  exact l_mspeak ho hoo hp4 (wok_kok ho) hlen hl0 hp S.B 0 D (by omega) hr hP sameMP.rf
/-- losing, place by place -/
def kLoseL (S : wS) (K : wKf) (i : Nat) : wKf := fun c k => if c * 10 + k < i ∧ k < 10 ∧ S.C.testBit c = false ∧ 1 ≤ K c k ∧ K c k < 5 then K c k - wLoses (S.kd c) else K c k
theorem kok_loseL {S : wS} {K : wKf} (h : kok S.B K) (i : Nat) : kok S.B (kLoseL S K i) := by
  intro c k hc hk
  have := h c k hc hk
  rw [kLoseL]
  split <;> omega
theorem c_mlose (hr : rM D o S) (ho : wok S) (hoo : o ≤ 1296) (hp : ∀ D', rM D' o (wK S (kLose S S.K S.B)) → sameM o D D' → post none D') : xRuns Γ (n + 2) hX9_lose [xR 0 9 111, xI (nI o)] D post := by
  have h8 := ho.1
  have hK := wok_kok ho
  refine x_runs kX9_lose (by decide +kernel) rfl ?_
  refine x_to 2 rfl ?_
  have loop : ∀ (f i : Nat) (D1 : xM), i + f = 10 * S.B → rM D1 o (wK S (kLoseL S S.K i)) → sameM o D D1 → xW Γ (n + 2) hX9_lose rX9_lose 2 [some (xR 0 9 111), some (xI (nI o)), some (xI (nI i)), none, none] [] D1 post := by
    intro f
    induction f with
    | zero =>
      intro i D1 hi hr1 hs1
      refine x_aldN o rfl rfl (by show nI o + nI 0 = nI o; rw [nI_add, Nat.add_zero]) (by omega) rfl ?_
      refine xi_geN i (10 * S.B) rfl rfl rfl (by rw [hr1.1]; exact pk_mul 10 S.B) (by omega) (by omega) (fun _ => ?_) (fun h => absurd h (by omega))
      refine x_vret rfl rfl rfl (hp D1 (rM_Kc hr1 (fun c k hc hk => ?_)) hs1)
      rw [kLose, kLoseL]
      have : (c < S.B ∧ k < 10 ∧ S.C.testBit c = false ∧ 1 ≤ S.K c k ∧ S.K c k < 5) ↔ (c * 10 + k < i ∧ k < 10 ∧ S.C.testBit c = false ∧ 1 ≤ S.K c k ∧ S.K c k < 5) := by
        constructor
        · intro ⟨q1, q2, q3⟩; exact ⟨by omega, q2, q3⟩
        · intro ⟨q1, q2, q3⟩; exact ⟨hc, q2, q3⟩
      simp only [this]
    | succ f ih =>
      intro i D1 hi hr1 hs1
      have hb : i / 10 < S.B := by omega
      have hk : i % 10 < 10 := by omega
      have e10 : i / 10 * 10 + i % 10 = i := by omega
      have h5 := ho.2.2.2.2.1 (i / 10) hb
      have h9 := hK (i / 10) (i % 10) hb hk
      have hle := wLoses_le _ h5
      have ho1 := wok_K ho (kok_loseL hK i)
      have eK : kLoseL S S.K i (i / 10) (i % 10) = S.K (i / 10) (i % 10) := by
        rw [kLoseL, if_neg (by omega)]
      have eR : D1 112 (o + 20 + i) = nI (S.K (i / 10) (i % 10)) := by
        have := hr1.2.2.2.2.2.2.1 (i / 10) (i % 10) hb hk
        rw [e10] at this
        rw [this]
        exact congrArg nI eK
      have next : ∀ (D2 : xM) (x y : Int32), rM D2 o (wK S (kLoseL S S.K (i + 1))) → sameM o D D2 → xW Γ (n + 2) hX9_lose rX9_lose 80 [some (xR 0 9 111), some (xI (nI o)), some (xI (nI i)), some (xI x), some (xI y)] [] D2 post := by
        intro D2 x y hr2 hs2
        have IH := ih (i + 1) D2 (by omega) hr2 hs2
        rw [← nI_1] at IH
        exact x_goto rfl rfl (x_drop 3 (x_drop 4 IH))
      have sm : ∀ c k, c < S.B → k < 10 → ¬ (c = i / 10 ∧ k = i % 10) → kLoseL S S.K (i + 1) c k = kLoseL S S.K i c k := by
        intro c k hc hk2 hne
        rw [kLoseL, kLoseL]
        have : (c * 10 + k < i + 1 ∧ k < 10 ∧ S.C.testBit c = false ∧ 1 ≤ S.K c k ∧ S.K c k < 5) ↔ (c * 10 + k < i ∧ k < 10 ∧ S.C.testBit c = false ∧ 1 ≤ S.K c k ∧ S.K c k < 5) := by
          constructor
          · intro ⟨q1, q2, q3⟩; exact ⟨by omega, q2, q3⟩
          · intro ⟨q1, q2, q3⟩; exact ⟨by omega, q2, q3⟩
        simp only [this]
      have keep : ¬ (S.C.testBit (i / 10) = false ∧ 1 ≤ S.K (i / 10) (i % 10) ∧ S.K (i / 10) (i % 10) < 5) → rM D1 o (wK S (kLoseL S S.K (i + 1))) := by
        intro hn
        refine rM_Kc hr1 (fun c k hc hk2 => ?_)
        by_cases e : c = i / 10 ∧ k = i % 10
        · obtain ⟨rfl, rfl⟩ := e
          rw [eK, kLoseL, if_neg (fun z => hn z.2.2)]
        · exact sm c k hc hk2 e
      refine x_aldN o rfl rfl (by show nI o + nI 0 = nI o; rw [nI_add, Nat.add_zero]) (by omega) rfl ?_
      refine xi_geN i (10 * S.B) rfl rfl rfl (by rw [hr1.1]; exact pk_mul 10 S.B) (by omega) (by omega) (fun h => absurd h (by omega)) (fun h => ?_)
      refine x_div rfl rfl (by decide) ?_
      have e2 : nI i / xnum 10 = nI (i / 10) := pk_div (d := 10) (by omega) (by decide) (by decide)
      rw [e2]
      refine x_call [xI (nI o), xI (nI (i / 10))] rfl rfl rfl rfl rfl rfl rfl (c_isOpen hr1 ho1 hoo (by omega) ?_)
      cases hc : S.C.testBit (i / 10) with
      | true => exact x0_eq rfl rfl (fun _ => next D1 _ _ (keep (by rw [hc]; simp)) hs1) (fun h => absurd rfl h)
      | false =>
        refine x0_eq rfl rfl (fun h => absurd h (by decide)) (fun _ => ?_)
        refine x_aldN (o + 20 + i) rfl rfl (ixo (k := 20)) (by omega) rfl ?_
        rw [eR]
        refine x_scall [xL (nI (S.K (i / 10) (i % 10))).toInt64, xL (Int64.ofNat 1), xL (Int64.ofNat 4)] rfl rfl rfl rfl rfl rfl rfl (c_in ?_)
        have ec : (Int64.ofNat 1 ≤ (nI (S.K (i / 10) (i % 10))).toInt64 ∧ (nI (S.K (i / 10) (i % 10))).toInt64 ≤ Int64.ofNat 4) ↔ (1 ≤ S.K (i / 10) (i % 10) ∧ S.K (i / 10) (i % 10) < 5) := by
          rw [nI_l (by omega)]
          show (lN 1 ≤ lN _ ∧ lN _ ≤ lN 4) ↔ _
          rw [lN_le (by omega) (by omega), lN_le (by omega) (by omega)]
          omega
        by_cases hq : 1 ≤ S.K (i / 10) (i % 10) ∧ S.K (i / 10) (i % 10) < 5
        · rw [if_pos (ec.mpr hq)]
          refine x0_eq rfl rfl (fun h => absurd h (by decide)) (fun _ => ?_)
          refine x_aldN (o + 20 + i) rfl rfl (ixo (k := 20)) (by omega) rfl ?_
          rw [eR]
          refine x_aldN (o + 4 + i / 10) rfl rfl (ixo (k := 4)) (by omega) rfl ?_
          rw [hr1.2.2.2.2.1 (i / 10) hb]
          refine x_scall [xI (nI (S.kd (i / 10)))] rfl rfl rfl rfl rfl rfl rfl (c_loses h5 ?_)
          refine x_astN (o + 20 + i) rfl rfl (ixo (k := 20)) (by omega) rfl ?_
          have e1 : nI (S.K (i / 10) (i % 10)) - nI (wLoses (S.kd (i / 10))) = nI (S.K (i / 10) (i % 10) - wLoses (S.kd (i / 10))) := pk_sub (by omega)
          rw [e1]
          refine x_to 80 rfl (next _ _ _ ?_ (hs1.up (by omega) (by omega)))
          have hr3 := rM_K (S := wK S (kLoseL S S.K i)) (b := i / 10) (k := i % 10) (v := S.K (i / 10) (i % 10) - wLoses (S.kd (i / 10))) hr1 h8 ho.2.1 hb hk
          rw [e10] at hr3
          refine rM_Kc (K := wup (kLoseL S S.K i) (i / 10) (i % 10) (S.K (i / 10) (i % 10) - wLoses (S.kd (i / 10)))) hr3 (fun c k hc2 hk2 => ?_)
          rw [wup]
          by_cases e : c = i / 10 ∧ k = i % 10
          · obtain ⟨rfl, rfl⟩ := e
            rw [if_pos ⟨rfl, rfl⟩, kLoseL, if_pos ⟨by omega, hk, hc, hq⟩]
          · rw [if_neg e]
            exact sm c k hc2 hk2 e
        · rw [if_neg (fun z => hq (ec.mp z))]
          exact x0_eq rfl rfl (fun _ => next D1 _ _ (keep (fun z => hq z.2)) hs1) (fun h => absurd rfl h)
  exact loop (10 * S.B) 0 D (by omega) (rM_Kc hr (fun c k _ _ => by rw [kLoseL, if_neg (by omega)])) sameM.rf
end M3
end
section
/-! ===== the reference: handOver, passes, copyHarbour, layTried, passTried, sets ===== -/
theorem spk_cong {kd : Nat → Nat} {b p hs B : Nat} : ∀ (t said : Nat) (q q' : wKf × (Nat → List Nat)), q.1 = q'.1 → q.2 p = q'.2 p → (kSpk kd b p hs B t said q).1 = (kSpk kd b p hs B t said q').1 ∧ (kSpk kd b p hs B t said q).2 p = (kSpk kd b p hs B t said q').2 p ∧ ∀ z, z ≠ p → (kSpk kd b p hs B t said q).2 z = q.2 z
  | 0, _, q, q', h1, h2 => ⟨h1, h2, fun _ _ => rfl⟩
  | t + 1, said, q, q', h1, h2 => by
    rw [kSpk, kSpk, h1]
    cases hz : (wBst (q'.1 b) said 10).1 with
    | none => exact ⟨h1, h2, fun _ _ => rfl⟩
    | some k =>
      obtain ⟨g1, g2, g3⟩ := spk_cong (kd := kd) (b := b) (p := p) (hs := hs) (B := B) t (said + (if said.testBit k then 0 else 2 ^ k)) (kSpr kd q'.1 k hs B, wuf q.2 p (q.2 p ++ [k])) (kSpr kd q'.1 k hs B, wuf q'.2 p (q'.2 p ++ [k])) rfl (by simp [wuf, h2])
      refine ⟨g1, g2, fun z hz2 => ?_⟩
      have := g3 z hz2
      simp only [wuf, hz2, if_false] at this
      exact this
theorem spo_cong {kd : Nat → Nat} {p aw B : Nat} (q q' : wKf × (Nat → List Nat)) (h1 : q.1 = q'.1) (h2 : q.2 p = q'.2 p) : ∀ b, (kSpo kd p aw B b q).1 = (kSpo kd p aw B b q').1 ∧ (kSpo kd p aw B b q).2 p = (kSpo kd p aw B b q').2 p ∧ ∀ z, z ≠ p → (kSpo kd p aw B b q).2 z = q.2 z
  | 0 => ⟨h1, h2, fun _ _ => rfl⟩
  | b + 1 => by
    obtain ⟨g1, g2, g3⟩ := spo_cong (kd := kd) (p := p) (aw := aw) (B := B) q q' h1 h2 b
    rw [kSpo, kSpo]
    split
    · obtain ⟨e1, e2, e3⟩ := spk_cong (kd := kd) (b := b) (p := p) (hs := wWo aw b) (B := B) (wSays (kd b)) 0 _ _ g1 g2
      exact ⟨e1, e2, fun z hz => (e3 z hz).trans (g3 z hz)⟩
    · exact ⟨g1, g2, g3⟩
theorem per_z {S : wS} (q : wKf × (Nat → List Nat)) : ∀ i z, i ≤ z → (kPer S i q).2 z = q.2 z
  | 0, _, _ => rfl
  | i + 1, z, h => by
    rw [kPer]
    split
    · exact per_z q i z (by omega)
    · rw [(spo_cong (kd := S.kd) (p := i) (aw := wAw S i) (B := S.B) (kPer S i q) (kPer S i q) rfl rfl S.B).2.2 z (by omega)]
      exact per_z q i z (by omega)
section M4
variable {Γ : xG} {n : Nat} {D : xM} {post : Option Int32 → xM → Prop} {o : Nat} {S : wS}
theorem c_mhand (hr : rM D o S) (ho : wok S) (hoo : o ≤ 1296) (hp : ∀ D', rM D' o (wHands S S.M) → sameM o D D' → post none D') : xRuns Γ (n + 2) hX9_handOver [xR 0 9 111, xI (nI o)] D post := by
  have h8 := ho.1
  have h4 := ho.2.1
  refine x_runs kX9_handOver (by decide +kernel) rfl ?_
  refine x_to 2 rfl ?_
  have loop : ∀ (f i : Nat) (D1 : xM), i + f = S.M → rM D1 o (wHands S i) → sameM o D D1 → xW Γ (n + 2) hX9_handOver rX9_handOver 2 [some (xR 0 9 111), some (xI (nI o)), some (xI (nI i)), none, none, none] [] D1 post := by
    intro f
    induction f with
    | zero =>
      intro i D1 hi hr1 hs1
      obtain rfl : i = S.M := by omega
      obtain ⟨b1, b2, b3, b4, b5, b6, b7⟩ := hands_B S S.M
      refine x_aldN (o + 1) rfl rfl (nI_add _ _) (by omega) rfl ?_
      refine xi_geN S.M S.M rfl rfl rfl (by rw [hr1.2.1, b2]) (by omega) (by omega) (fun _ => ?_) (fun h => absurd h (by omega))
      exact x_vret rfl rfl rfl (hp D1 hr1 hs1)
    | succ f ih =>
      intro i D1 hi hr1 hs1
      obtain ⟨b1, b2, b3, b4, b5, b6, b7⟩ := hands_B S i
      have ho1 := wok_hands ho i
      have hm : i < (wHands S i).M := by rw [b2]; omega
      have hh := ho1.2.2.2.2.2.2.2.1 i hm
      refine x_aldN (o + 1) rfl rfl (nI_add _ _) (by omega) rfl ?_
      refine xi_geN i S.M rfl rfl rfl (by rw [hr1.2.1, b2]) (by omega) (by omega) (fun h => absurd h (by omega)) (fun h => ?_)
      have next : ∀ (D2 : xM), rM D2 o (wHand (wHands S i) i) → sameM o D D2 → xW Γ (n + 2) hX9_handOver rX9_handOver 136 [some (xR 0 9 111), some (xI (nI o)), some (xI (nI i)), none, none, none] [] D2 post := by
        intro D2 hr2 hs2
        have IH := ih (i + 1) D2 (by omega) hr2 hs2
        rw [← nI_1] at IH
        exact x_goto rfl rfl IH
      refine x_aldN (o + 104 + i) rfl rfl (ixo (k := 104)) (by omega) rfl ?_
      rw [hr1.2.2.2.2.2.2.2.2 i hm]
      rw [wHand] at next
      cases hbi : (wHands S i).bi i with
      | none =>
        rw [hbi] at next
        dsimp only at next
        refine xi_eq rfl rfl (fun _ => ?_) (fun h => absurd rfl h)
        refine x_goto rfl rfl ?_
        refine x0_le rfl rfl (fun _ => ?_) (fun h => absurd (by decide) h)
        exact x_drop 3 (x_drop 4 (next D1 hr1 hs1))
      | some b =>
        rw [hbi] at next
        dsimp only at next
        have hb := ho1.2.2.2.2.2.2.2.2.1 i b hm hbi
        have hbB : b < S.B := by rw [← b1]; exact hb
        have h5 := ho1.2.2.2.2.1 b hb
        have hge := wGets_le _ h5
        refine xi_eq rfl rfl (fun h => absurd ((xby_m1 (o := some b) (fun c hc => by cases hc; omega)).mp h) (by simp)) (fun _ => ?_)
        refine x_call [xI (nI o), xI (nI b)] rfl rfl rfl rfl rfl rfl rfl (c_isOpen hr1 ho1 hoo (by omega) ?_)
        cases hc : (wHands S i).C.testBit b with
        | true =>
          rw [hc, if_pos (Or.inr (Or.inl rfl))] at next
          refine x0_ne rfl rfl (fun h => absurd rfl h) (fun _ => ?_)
          refine x_goto rfl rfl ?_
          refine x0_le rfl rfl (fun _ => ?_) (fun h => absurd (by decide) h)
          exact x_drop 3 (x_drop 4 (next D1 hr1 hs1))
        | false =>
          rw [hc] at next
          refine x0_ne rfl rfl (fun _ => ?_) (fun h => absurd h (by decide))
          refine x_aldN (o + 4 + b) rfl rfl (ixo (k := 4)) (by omega) rfl ?_
          rw [hr1.2.2.2.2.1 b hb]
          refine x_scall [xI (nI ((wHands S i).kd b))] rfl rfl rfl rfl rfl rfl rfl (c_gets h5 ?_)
          refine x0_le rfl rfl (fun h2 => ?_) (fun h2 => ?_)
          · have e2 : wGets ((wHands S i).kd b) = 0 := by
              have := (nI_leI (b := 0) (by omega) (by omega)).mp h2
              omega
            rw [if_pos (Or.inr (Or.inr e2))] at next
            exact x_drop 3 (x_drop 4 (next D1 hr1 hs1))
          · have e2 : ¬ wGets ((wHands S i).kd b) = 0 := fun z => h2 (by rw [z]; decide)
            refine x_aldN (o + 100 + i) rfl rfl (ixo (k := 100)) (by omega) rfl ?_
            rw [hr1.2.2.2.2.2.2.2.1 i hm]
            refine x0_eq rfl rfl (fun h => ?_) (fun h => ?_)
            · have e : (wHands S i).ha i = 0 := (nI_eq (b := 0) (by omega) (by omega)).mp h
              rw [if_pos (Or.inl e)] at next
              exact x_drop 3 (x_drop 4 (next D1 hr1 hs1))
            · have e : ¬ (wHands S i).ha i = 0 := fun z => h (by rw [z]; rfl)
              rw [if_neg (by simp [e, e2])] at next
              obtain ⟨l1, l2⟩ := wLow_spec _ hh (by omega)
              have hlt := wLow_lt _ hh
              -- the least word
              have fnd : ∀ (g j : Nat), j + g = wLow ((wHands S i).ha i) → xW Γ (n + 2) hX9_handOver rX9_handOver 81 [some (xR 0 9 111), some (xI (nI o)), some (xI (nI i)), some (xI (nI b)), some (xI (nI (wGets ((wHands S i).kd b)))), some (xI (nI j))] [] D1 post := by
                intro g
                induction g with
                | zero =>
                  intro j hj
                  obtain rfl : j = wLow ((wHands S i).ha i) := by omega
                  refine x_aldN (o + 100 + i) rfl rfl (ixo (k := 100)) (by omega) rfl ?_
                  rw [hr1.2.2.2.2.2.2.2.1 i hm]
                  refine x_scall [xI (nI ((wHands S i).ha i)), xI (nI (wLow ((wHands S i).ha i)))] rfl rfl rfl rfl rfl rfl rfl (c_has (by omega) (by omega) ?_)
                  rw [l1]
                  refine x0_ne rfl rfl (fun _ => ?_) (fun h => absurd h (by decide))
                  refine x_aldN (o + 100 + i) rfl rfl (ixo (k := 100)) (by omega) rfl ?_
                  rw [hr1.2.2.2.2.2.2.2.1 i hm]
                  refine x_astN (o + 100 + i) rfl rfl (ixo (k := 100)) (by omega) rfl ?_
                  have e6 : nI ((wHands S i).ha i) &&& ((xnum 1 <<< (nI (wLow ((wHands S i).ha i)) &&& 31)) ^^^ xnum (-1)) = nI ((wHands S i).ha i &&& ((wHands S i).ha i - 1)) := ha_drop2 _ hh (by omega)
                  rw [e6]
                  have hr2 := rM_ha (i := i) (v := (wHands S i).ha i &&& ((wHands S i).ha i - 1)) hr1 (by rw [b1]; exact h8) (by rw [b2]; exact h4) hm
                  have ho2 : wok (wmk (wHands S i).B (wHands S i).M (wHands S i).E (wHands S i).C (wHands S i).kd (wHands S i).pe (wHands S i).K (wuf (wHands S i).ha i ((wHands S i).ha i &&& ((wHands S i).ha i - 1))) (wHands S i).bi) := by
                    obtain ⟨g1, g2, g3, g4, g5, g6, g7, g8, g9⟩ := ho1
                    refine ⟨g1, g2, g3, g4, g5, g6, g7, fun z hz => ?_, g9⟩
                    show wuf (wHands S i).ha i ((wHands S i).ha i &&& ((wHands S i).ha i - 1)) z < 1024
                    rw [wuf]
                    split
                    · exact Nat.lt_of_le_of_lt Nat.and_le_left hh
                    · exact g8 z hz
                  refine x_call [xI (nI o), xI (nI b), xI (nI (wLow ((wHands S i).ha i))), xI (nI (wGets ((wHands S i).kd b)))] rfl rfl rfl rfl rfl rfl rfl (c_learns hr2 ho2 hoo hb hlt (by omega) ?_)
                  refine x_drop 3 (x_drop 4 (x_drop 5 (next _ ?_ ((hs1.up (by omega) (by omega)).up (by omega) (by omega)))))
                  exact rM_K hr2 (by show (wHands S i).B ≤ 8; rw [b1]; exact h8) (by show (wHands S i).M ≤ 4; rw [b2]; exact h4) hb hlt
                | succ g ihg =>
                  intro j hj
                  have ht := l2 j (by omega) (by omega)
                  refine x_aldN (o + 100 + i) rfl rfl (ixo (k := 100)) (by omega) rfl ?_
                  rw [hr1.2.2.2.2.2.2.2.1 i hm]
                  refine x_scall [xI (nI ((wHands S i).ha i)), xI (nI j)] rfl rfl rfl rfl rfl rfl rfl (c_has (by omega) (by omega) ?_)
                  rw [ht]
                  refine x0_ne rfl rfl (fun h => absurd rfl h) (fun _ => ?_)
                  have IHg := ihg (j + 1) (by omega)
                  rw [← nI_1] at IHg
                  exact x_goto rfl rfl IHg
              exact x_to 81 rfl (fnd (wLow ((wHands S i).ha i)) 0 (by omega))
  exact loop S.M 0 D (by omega) hr sameM.rf
theorem c_passes {sp0 : Nat → List Nat} (hr : rM D o S) (hP : rP D 138 139 sp0) (hl0 : ∀ z, z < 4 → (sp0 z).length ≤ 16) (ho : wok S) (hoo : o ≤ 1296) (hE : S.E + 1 < 1000000) (hp : ∀ D', rM D' o (wPass S) → rP D' 138 139 (wSaid S) → sameMP o D D' → post none D') : xRuns Γ (n + 4) hX9_passes [xR 0 9 111, xI (nI o)] D post := by
  have h8 := ho.1
  have h4 := ho.2.1
  have ho1 := wok_hands ho S.M
  obtain ⟨a1, a2, a3, a4, a5, a6, a7⟩ := hands_B S S.M
  have hkQ : kok S.B (wPassQ S).1 := by
    have := kok_per (S := wHands S S.M) 4 ((wHands S S.M).K, fun _ => []) (wok_kok ho1)
    rw [a1] at this
    exact this
  refine x_runs kX9_passes (by decide +kernel) rfl ?_
  refine x_call [xI (nI o)] rfl rfl rfl rfl rfl rfl rfl (c_mhand hr ho hoo (fun D1 hr1 hs1 => ?_))
  refine x_to 7 rfl ?_
  have fin : ∀ (D1 : xM), rM D1 o (wmk S.B S.M S.E S.C S.kd S.pe (if S.E % 3 = 2 then kLose S (wPassQ S).1 S.B else (wPassQ S).1) (wHands S S.M).ha S.bi) → rP D1 138 139 (wSaid S) → sameMP o D D1 → xW Γ (n + 4) hX9_passes rX9_passes 59 [some (xR 0 9 111), some (xI (nI o)), some (xI (nI 4))] [] D1 post := by
    intro D1 hr1 hP1 hs1
    refine x_aldN (o + 2) rfl rfl (nI_add _ _) (by omega) rfl ?_
    have e : D1 112 (o + 2) + xnum 1 = nI (S.E + 1) := by rw [hr1.2.2.1]; exact nI_1 _
    refine x_astN (o + 2) rfl rfl (nI_add _ _) (by omega) rfl ?_
    rw [e]
    refine x_vret rfl rfl rfl (hp _ (rM_E hr1 h8 h4) (rP_outM (o := o) hP1 (sameM.rf.up (by omega) (by omega))) (hs1.tr (sameMP.ofM (sameM.rf.up (by omega) (by omega)))))
  have spk : ∀ (f i : Nat) (D1 : xM), i + f = 4 → rM D1 o (wK (wHands S S.M) (kPer (wHands S S.M) i ((wHands S S.M).K, fun _ => [])).1) → rP D1 138 139 (fun z => if z < i then (kPer (wHands S S.M) i ((wHands S S.M).K, fun _ => [])).2 z else sp0 z) → sameMP o D D1 → xW Γ (n + 4) hX9_passes rX9_passes 7 [some (xR 0 9 111), some (xI (nI o)), some (xI (nI i))] [] D1 post := by
    intro f
    induction f with
    | zero =>
      intro i D1 hi hr1 hP1 hs1
      obtain rfl : i = 4 := by omega
      have hP1' : rP D1 138 139 (wSaid S) := by
        intro p hp4
        have := hP1 p hp4
        simp only [hp4, if_true] at this
        exact this
      have hr1' : rM D1 o (wmk S.B S.M S.E S.C S.kd S.pe (wPassQ S).1 (wHands S S.M).ha S.bi) := by
        have e : wK (wHands S S.M) (wPassQ S).1 = wmk S.B S.M S.E S.C S.kd S.pe (wPassQ S).1 (wHands S S.M).ha S.bi := by
          show wmk (wHands S S.M).B (wHands S S.M).M (wHands S S.M).E (wHands S S.M).C (wHands S S.M).kd (wHands S S.M).pe (wPassQ S).1 (wHands S S.M).ha (wHands S S.M).bi = _
          rw [a1, a2, a3, a4, a5, a6, a7]
        rw [← e]
        exact hr1
      refine xi_geN 4 4 rfl rfl rfl rfl (by omega) (by omega) (fun _ => ?_) (fun h => absurd h (by omega))
      refine x_aldN (o + 2) rfl rfl (nI_add _ _) (by omega) rfl ?_
      refine x_rem rfl rfl (by decide) ?_
      have e3 : D1 112 (o + 2) - D1 112 (o + 2) / xnum 3 * xnum 3 = nI (S.E % 3) := by
        rw [hr1'.2.2.1]
        exact pk_rem (a := S.E) (d := 3) (by have := ho.2.2.1; omega) (by decide) (by decide)
      refine xi_neN (S.E % 3) 2 rfl rfl e3 rfl (by omega) (by omega) (fun h => ?_) (fun h => ?_)
      · exact fin D1 (by rw [if_neg h]; exact hr1') hP1' hs1
      · have hok1 : wok (wmk S.B S.M S.E S.C S.kd S.pe (wPassQ S).1 (wHands S S.M).ha S.bi) := by
          have := wok_K ho1 (K := (wPassQ S).1) (by rw [a1]; exact hkQ)
          rw [wHands_eq] at this
          exact this
        refine x_call [xI (nI o)] rfl rfl rfl rfl rfl rfl rfl (c_mlose hr1' hok1 hoo (fun D2 hr2 hs2 => ?_))
        exact fin D2 (by rw [if_pos h]; exact hr2) (rP_outM hP1' hs2) (hs1.tr (sameMP.ofM hs2))
    | succ f ih =>
      intro i D1 hi hr1 hP1 hs1
      have hk1 := kok_per (S := wHands S S.M) i ((wHands S S.M).K, fun _ => []) (wok_kok ho1)
      have ho2 := wok_K ho1 hk1
      have hlen : ∀ z, z < 4 → ((fun z => if z < i then (kPer (wHands S S.M) i ((wHands S S.M).K, fun _ => [])).2 z else sp0 z) z).length ≤ 16 := by
        intro z hz
        show (if z < i then (kPer (wHands S S.M) i ((wHands S S.M).K, fun _ => [])).2 z else sp0 z).length ≤ 16
        split
        · have := len_per ho1 i ((wHands S S.M).K, fun _ => []) z rfl
          split at this <;> omega
        · exact hl0 z hz
      refine xi_geN i 4 rfl rfl rfl rfl (by omega) (by omega) (fun h => absurd h (by omega)) (fun h => ?_)
      refine x_astN i rfl rfl rfl (by omega) rfl ?_
      -- the perch is empty
      have hP2 : rP (xup D1 139 i (xnum 0)) 138 139 (wuf (fun z => if z < i then (kPer (wHands S S.M) i ((wHands S S.M).K, fun _ => [])).2 z else sp0 z) i []) := by
        intro p hp4
        obtain ⟨g1, g2⟩ := hP1 p hp4
        by_cases e : p = i
        · subst e
          refine ⟨by rw [xup_at]; simp [wuf]; rfl, fun j hj => absurd hj (by simp [wuf])⟩
        · have e2 : wuf (fun z => if z < i then (kPer (wHands S S.M) i ((wHands S S.M).K, fun _ => [])).2 z else sp0 z) i [] p = (fun z => if z < i then (kPer (wHands S S.M) i ((wHands S S.M).K, fun _ => [])).2 z else sp0 z) p := by simp [wuf, e]
          rw [e2]
          exact ⟨by rw [xup_o (by omega)]; exact g1, fun j hj => by rw [xup_o (by omega)]; exact g2 j hj⟩
      have hr2 : rM (xup D1 139 i (xnum 0)) o (wK (wHands S S.M) (kPer (wHands S S.M) i ((wHands S S.M).K, fun _ => [])).1) := rM_out hr1 (by show (wHands S S.M).B ≤ 8; rw [a1]; exact h8) (by show (wHands S S.M).M ≤ 4; rw [a2]; exact h4) (fun j _ _ => xup_o (by omega))
      have hs2 : sameMP o D (xup D1 139 i (xnum 0)) := hs1.tr (fun a j _ _ h3 => xup_o (by omega))
      have hlen2 : ∀ z, z < 4 → (wuf (fun z => if z < i then (kPer (wHands S S.M) i ((wHands S S.M).K, fun _ => [])).2 z else sp0 z) i [] z).length ≤ 16 := by
        intro z hz
        by_cases e : z = i
        · simp [wuf, e]
        · have e2 : wuf (fun z => if z < i then (kPer (wHands S S.M) i ((wHands S S.M).K, fun _ => [])).2 z else sp0 z) i [] z = (fun z => if z < i then (kPer (wHands S S.M) i ((wHands S S.M).K, fun _ => [])).2 z else sp0 z) z := by simp [wuf, e]
          rw [e2]
          exact hlen z hz
      have ez : (kPer (wHands S S.M) i ((wHands S S.M).K, fun _ => [])).2 i = [] := per_z _ i i (Nat.le_refl i)
      refine x_call [xI (nI o), xI (nI i)] rfl rfl rfl rfl rfl rfl rfl (c_isSilent hr2 ho2 hoo (by omega) ?_)
      cases hz : wSil (wHands S S.M) (wAw (wHands S S.M) i) with
      | true =>
        have e : wSil (wK (wHands S S.M) (kPer (wHands S S.M) i ((wHands S S.M).K, fun _ => [])).1) (wAw (wK (wHands S S.M) (kPer (wHands S S.M) i ((wHands S S.M).K, fun _ => [])).1) i) = true := hz
        rw [e]
        refine x0_ne rfl rfl (fun _ => ?_) (fun h2 => absurd h2 (by decide))
        have IH := ih (i + 1) _ (by omega) (by rw [kPer, hz]; exact hr2) (by
          rw [kPer, hz]
          have e3 : (fun z => if z < i + 1 then (kPer (wHands S S.M) i ((wHands S S.M).K, fun _ => [])).2 z else sp0 z) = wuf (fun z => if z < i then (kPer (wHands S S.M) i ((wHands S S.M).K, fun _ => [])).2 z else sp0 z) i [] := by
            funext z
            by_cases ei : z = i
            · subst ei; simp [wuf, ez]
            · have : z < i + 1 ↔ z < i := by omega
              simp [wuf, ei, this]
          show rP _ 138 139 (fun z => if z < i + 1 then (kPer (wHands S S.M) i ((wHands S S.M).K, fun _ => [])).2 z else sp0 z)
          rw [e3]
          exact hP2) hs2
        rw [← nI_1] at IH
        exact x_goto rfl rfl IH
      | false =>
        have e : wSil (wK (wHands S S.M) (kPer (wHands S S.M) i ((wHands S S.M).K, fun _ => [])).1) (wAw (wK (wHands S S.M) (kPer (wHands S S.M) i ((wHands S S.M).K, fun _ => [])).1) i) = false := hz
        rw [e]
        refine x0_ne rfl rfl (fun h2 => absurd rfl h2) (fun _ => ?_)
        refine x_call [xI (nI o), xI (nI i)] rfl rfl rfl rfl rfl rfl rfl (c_mspeak hr2 hP2 ho2 hoo (by omega) hlen2 (by simp [wuf]) (fun D2 hr3 hP3 hs3 => ?_))
        obtain ⟨g1, g2, g3⟩ := spo_cong (kd := (wHands S S.M).kd) (p := i) (aw := wAw (wHands S S.M) i) (B := (wHands S S.M).B) ((kPer (wHands S S.M) i ((wHands S S.M).K, fun _ => [])).1, wuf (fun z => if z < i then (kPer (wHands S S.M) i ((wHands S S.M).K, fun _ => [])).2 z else sp0 z) i []) (kPer (wHands S S.M) i ((wHands S S.M).K, fun _ => [])) rfl (by simp [wuf, ez]) (wHands S S.M).B
        have g4 := (spo_cong (kd := (wHands S S.M).kd) (p := i) (aw := wAw (wHands S S.M) i) (B := (wHands S S.M).B) (kPer (wHands S S.M) i ((wHands S S.M).K, fun _ => [])) (kPer (wHands S S.M) i ((wHands S S.M).K, fun _ => [])) rfl rfl (wHands S S.M).B).2.2
        have IH := ih (i + 1) D2 (by omega) (by
          rw [kPer, hz]
          have hr3 : rM D2 o (wK (wHands S S.M) (kSpo (wHands S S.M).kd i (wAw (wHands S S.M) i) (wHands S S.M).B (wHands S S.M).B ((kPer (wHands S S.M) i ((wHands S S.M).K, fun _ => [])).1, wuf (fun z => if z < i then (kPer (wHands S S.M) i ((wHands S S.M).K, fun _ => [])).2 z else sp0 z) i [])).1) := hr3
          rw [g1] at hr3
          exact hr3) (by
          rw [kPer, hz]
          have e3 : (fun z => if z < i + 1 then (kSpo (wHands S S.M).kd i (wAw (wHands S S.M) i) (wHands S S.M).B (wHands S S.M).B (kPer (wHands S S.M) i ((wHands S S.M).K, fun _ => []))).2 z else sp0 z) = (kSpo (wHands S S.M).kd i (wAw (wHands S S.M) i) (wHands S S.M).B (wHands S S.M).B ((kPer (wHands S S.M) i ((wHands S S.M).K, fun _ => [])).1, wuf (fun z => if z < i then (kPer (wHands S S.M) i ((wHands S S.M).K, fun _ => [])).2 z else sp0 z) i [])).2 := by
            funext z
            by_cases ei : z = i
            · subst ei
              rw [if_pos (by omega), g2]
            · rw [g3 z ei, g4 z ei]
              have : z < i + 1 ↔ z < i := by omega
              simp [wuf, ei, this]
          show rP _ 138 139 (fun z => if z < i + 1 then (kSpo (wHands S S.M).kd i (wAw (wHands S S.M) i) (wHands S S.M).B (wHands S S.M).B (kPer (wHands S S.M) i ((wHands S S.M).K, fun _ => []))).2 z else sp0 z)
          rw [e3]
          exact hP3) (hs2.tr hs3)
        rw [← nI_1] at IH
        exact x_goto rfl rfl IH
  exact spk 4 0 D1 rfl hr1 (by
    have : (fun z => if z < 0 then (kPer (wHands S S.M) 0 ((wHands S S.M).K, fun _ => [])).2 z else sp0 z) = sp0 := by funext z; simp
    rw [this]
    exact rP_outM hP hs1) (sameMP.ofM hs1)
/-- a world is copied -/
theorem c_copyHarbour {a z : Nat} (ha : a ≤ 1296) (hz : z ≤ 1296) (hd : a + 108 ≤ z ∨ z + 108 ≤ a) (hp : ∀ D', (∀ i, i < 108 → D' 112 (z + i) = D 112 (a + i)) → sameM z D D' → post none D') : xRuns Γ n hX9_copyHarbour [xR 0 9 111, xI (nI a), xI (nI z)] D post := by
  refine x_runs kX9_copyHarbour (by decide +kernel) rfl ?_
  refine x_to 2 rfl ?_
  have loop : ∀ (f i : Nat) (D1 : xM), i + f = 108 → (∀ j, j < i → D1 112 (z + j) = D 112 (a + j)) → sameM z D D1 → xW Γ n hX9_copyHarbour rX9_copyHarbour 2 [some (xR 0 9 111), some (xI (nI a)), some (xI (nI z)), some (xI (nI i))] [] D1 post := by
    intro f
    induction f with
    | zero =>
      intro i D1 hi h1 hs1
      obtain rfl : i = 108 := by omega
      refine xi_geN 108 108 rfl rfl rfl rfl (by omega) (by omega) (fun _ => ?_) (fun h => absurd h (by omega))
      exact x_vret rfl rfl rfl (hp D1 h1 hs1)
    | succ f ih =>
      intro i D1 hi h1 hs1
      refine xi_geN i 108 rfl rfl rfl rfl (by omega) (by omega) (fun h => absurd h (by omega)) (fun h => ?_)
      refine x_aldN (a + i) rfl rfl (nI_add _ _) (by omega) rfl ?_
      refine x_astN (z + i) rfl rfl (nI_add _ _) (by omega) rfl ?_
      have e : D1 112 (a + i) = D 112 (a + i) := hs1 112 (a + i) (by omega)
      have IH := ih (i + 1) _ (by omega) (fun j hj => by
        by_cases ej : j = i
        · subst ej
          rw [xup_at]
          exact e
        · rw [xup_o (by omega)]
          exact h1 j (by omega)) (hs1.up (i := z + i) (v := D1 112 (a + i)) (by omega) (by omega))
      rw [← nI_1] at IH
      exact x_goto rfl rfl IH
  exact loop 108 0 D rfl (fun j hj => absurd hj (by omega)) sameM.rf
theorem rM_copy {D D' : xM} {a z : Nat} {S : wS} (hB : S.B ≤ 8) (hM : S.M ≤ 4) (h : rM D a S) (hc : ∀ i, i < 108 → D' 112 (z + i) = D 112 (a + i)) : rM D' z S := by
  obtain ⟨h1, h2, h3, h4, h5, h6, h7, h8, h9⟩ := h
  refine ⟨by have := hc 0 (by omega); simp only [Nat.add_zero] at this; rw [this]; exact h1, by rw [hc 1 (by omega)]; exact h2, by rw [hc 2 (by omega)]; exact h3, by rw [hc 3 (by omega)]; exact h4, fun b hb => ?_, fun b hb => ?_, fun b k hb hk => ?_, fun m hm => ?_, fun m hm => ?_⟩
  · rw [Nat.add_assoc, hc (4 + b) (by omega), ← Nat.add_assoc]; exact h5 b hb
  · rw [Nat.add_assoc, hc (12 + b) (by omega), ← Nat.add_assoc]; exact h6 b hb
  · rw [Nat.add_assoc, hc (20 + (b * 10 + k)) (by omega), ← Nat.add_assoc]; exact h7 b k hb hk
  · rw [Nat.add_assoc, hc (100 + m) (by omega), ← Nat.add_assoc]; exact h8 m hm
  · rw [Nat.add_assoc, hc (104 + m) (by omega), ← Nat.add_assoc]; exact h9 m hm
end M4
end
section
/-! ===== World: become, counts; the reference's sets, layTried, passTried ===== -/
section C5
variable {Γ : xG} {n : Nat} {D : xM} {post : Option Int32 → xM → Prop} {w : Nat} {S : wS}
theorem cpy_all {f g : Nat → Int32} {k : Nat} (j : Nat) (h : j < k) : va_cpy f g 0 0 k j = f j := by
  rw [va_cpy, if_pos ⟨Nat.zero_le _, by omega⟩]
  congr 1
  omega
theorem xcp_at {D : xM} {i : Nat} {f : Nat → Int32} : xcp D i f i = f := by simp [xcp]
theorem xcp_ne {D : xM} {i a : Nat} {f : Nat → Int32} (h : a ≠ i) : xcp D i f a = D a := by simp [xcp, h]
/-- a world becomes another -/
theorem c_become {o : Nat} (hd : w + 5 < o ∨ o + 5 < w) (hp : ∀ D', (∀ S, S.B ≤ 8 → S.M ≤ 4 → rW D o S → rW D' w S) → sameW w D D' → post none D') : xRuns Γ (n + 1) hX7_become [xR 0 7 w, xR 0 7 o] D post := by
  have n1 : ∀ i, i ≤ 5 → ∀ j, j ≤ 5 → ¬ (o + i = w + j) := fun i hi j hj => by omega
  have ow : o ≠ w := by omega
  refine x_runs kX7_become (by decide +kernel) rfl ?_
  refine x_to 32 rfl ?_
  generalize hD4 : xup (xup (xup (xup D w 0 (D o 0)) w 1 (xup D w 0 (D o 0) o 1)) w 2 (xup (xup D w 0 (D o 0)) w 1 (xup D w 0 (D o 0) o 1) o 2)) w 3 (xup (xup (xup D w 0 (D o 0)) w 1 (xup D w 0 (D o 0) o 1)) w 2 (xup (xup D w 0 (D o 0)) w 1 (xup D w 0 (D o 0) o 1) o 2) o 3) = D4
  have s4 : ∀ a, a ≠ w → D4 a = D a := fun a ha => by subst hD4; rw [xup_ne a ha, xup_ne a ha, xup_ne a ha, xup_ne a ha]
  have f4 : D4 w 0 = D o 0 ∧ D4 w 1 = D o 1 ∧ D4 w 2 = D o 2 ∧ D4 w 3 = D o 3 := by
    subst hD4
    simp [xup, ow]
  have c0 : (xnum 0).toNatClampNeg = 0 := nI_clamp (n := 0) (by omega)
  have c8 : (xnum 8).toNatClampNeg = 8 := nI_clamp (n := 8) (by omega)
  have c80 : (xnum 80).toNatClampNeg = 80 := nI_clamp (n := 80) (by omega)
  have c4 : (xnum 4).toNatClampNeg = 4 := nI_clamp (n := 4) (by omega)
  refine x_copy (st' := []) rfl rfl (by decide) (by decide) (by decide) (by decide) (by decide) rfl ?_
  rw [c0, c8]
  generalize hD5 : xcp D4 (w + 1) (va_cpy (D4 (o + 1)) (D4 (w + 1)) 0 0 8) = D5
  have sD5 : ∀ a, a ≠ w + 1 → D5 a = D4 a := fun a ha => by subst hD5; exact xcp_ne ha
  have fD5 : ∀ j, j < 8 → D5 (w + 1) j = D (o + 1) j := fun j hj => by
    have e : D4 (o + 1) = D (o + 1) := by
      rw [s4 _ (by omega)]
    subst hD5
    rw [xcp_at, cpy_all j hj, e]
  refine x_copy (st' := []) rfl rfl (by decide) (by decide) (by decide) (by decide) (by decide) rfl ?_
  rw [c0, c8]
  generalize hD6 : xcp D5 (w + 2) (va_cpy (D5 (o + 2)) (D5 (w + 2)) 0 0 8) = D6
  have sD6 : ∀ a, a ≠ w + 2 → D6 a = D5 a := fun a ha => by subst hD6; exact xcp_ne ha
  have fD6 : ∀ j, j < 8 → D6 (w + 2) j = D (o + 2) j := fun j hj => by
    have e : D5 (o + 2) = D (o + 2) := by
      rw [sD5 _ (by omega), s4 _ (by omega)]
    subst hD6
    rw [xcp_at, cpy_all j hj, e]
  refine x_copy (st' := []) rfl rfl (by decide) (by decide) (by decide) (by decide) (by decide) rfl ?_
  rw [c0, c80]
  generalize hD7 : xcp D6 (w + 3) (va_cpy (D6 (o + 3)) (D6 (w + 3)) 0 0 80) = D7
  have sD7 : ∀ a, a ≠ w + 3 → D7 a = D6 a := fun a ha => by subst hD7; exact xcp_ne ha
  have fD7 : ∀ j, j < 80 → D7 (w + 3) j = D (o + 3) j := fun j hj => by
    have e : D6 (o + 3) = D (o + 3) := by
      rw [sD6 _ (by omega), sD5 _ (by omega), s4 _ (by omega)]
    subst hD7
    rw [xcp_at, cpy_all j hj, e]
  refine x_copy (st' := []) rfl rfl (by decide) (by decide) (by decide) (by decide) (by decide) rfl ?_
  rw [c0, c4]
  generalize hD8 : xcp D7 (w + 4) (va_cpy (D7 (o + 4)) (D7 (w + 4)) 0 0 4) = D8
  have sD8 : ∀ a, a ≠ w + 4 → D8 a = D7 a := fun a ha => by subst hD8; exact xcp_ne ha
  have fD8 : ∀ j, j < 4 → D8 (w + 4) j = D (o + 4) j := fun j hj => by
    have e : D7 (o + 4) = D (o + 4) := by
      rw [sD7 _ (by omega), sD6 _ (by omega), sD5 _ (by omega), s4 _ (by omega)]
    subst hD8
    rw [xcp_at, cpy_all j hj, e]
  refine x_copy (st' := []) rfl rfl (by decide) (by decide) (by decide) (by decide) (by decide) rfl ?_
  rw [c0, c4]
  generalize hD9 : xcp D8 (w + 5) (va_cpy (D8 (o + 5)) (D8 (w + 5)) 0 0 4) = D9
  have sD9 : ∀ a, a ≠ w + 5 → D9 a = D8 a := fun a ha => by subst hD9; exact xcp_ne ha
  have fD9 : ∀ j, j < 4 → D9 (w + 5) j = D (o + 5) j := fun j hj => by
    have e : D8 (o + 5) = D (o + 5) := by
      rw [sD8 _ (by omega), sD7 _ (by omega), sD6 _ (by omega), sD5 _ (by omega), s4 _ (by omega)]
    subst hD9
    rw [xcp_at, cpy_all j hj, e]
  refine x_vret rfl rfl rfl (hp D9 (fun S hB hM h => ?_) (fun a ha => ?_))
  · obtain ⟨h1, h2, h3, h4, h5, h6, h7, h8, h9⟩ := h
    have ew : D9 w = D4 w := by rw [sD9 _ (by omega), sD8 _ (by omega), sD7 _ (by omega), sD6 _ (by omega), sD5 _ (by omega)]
    have e1 : D9 (w + 1) = D5 (w + 1) := by rw [sD9 _ (by omega), sD8 _ (by omega), sD7 _ (by omega), sD6 _ (by omega)]
    have e2 : D9 (w + 2) = D6 (w + 2) := by rw [sD9 _ (by omega), sD8 _ (by omega), sD7 _ (by omega)]
    have e3 : D9 (w + 3) = D7 (w + 3) := by rw [sD9 _ (by omega), sD8 _ (by omega)]
    have e4 : D9 (w + 4) = D8 (w + 4) := by rw [sD9 _ (by omega)]
    obtain ⟨g0, g1, g2, g3⟩ := f4
    refine ⟨by rw [ew, g0]; exact h1, by rw [ew, g1]; exact h2, by rw [ew, g2]; exact h3, by rw [ew, g3]; exact h4, fun b hb => by rw [e1, fD5 b (by omega)]; exact h5 b hb, fun b hb => by rw [e2, fD6 b (by omega)]; exact h6 b hb, fun b k hb hk => by rw [e3, fD7 _ (by omega)]; exact h7 b k hb hk, fun m hm => by rw [e4, fD8 m (by omega)]; exact h8 m hm, fun m hm => by rw [fD9 m (by omega)]; exact h9 m hm⟩
  · rw [sD9 _ (by omega), sD8 _ (by omega), sD7 _ (by omega), sD6 _ (by omega), sD5 _ (by omega), s4 _ (by omega)]
theorem l_someWell (hr : rW D w S) (ho : wok S) (hp : post (some (nI (wbits (fun k => (List.range S.B).any fun b => decide (5 ≤ S.K b k)) 10))) D) : ∀ f i, i + f = S.B → xW Γ (n + 2) hX7_wellKnownBySome rX7_wellKnownBySome 4 [some (xR 0 7 w), some (xI (nI (wbits (fun k => (List.range i).any fun b => decide (5 ≤ S.K b k)) 10))), some (xI (nI i))] [] D post := by
  have h8 := ho.1
  intro f
  induction f with
  | zero =>
    intro i hi
    obtain rfl : i = S.B := by omega
    refine xi_geN S.B S.B rfl rfl rfl hr.1 (by omega) (by omega) (fun _ => ?_) (fun h => absurd h (by omega))
    exact x_ret rfl rfl rfl rfl hp
  | succ f ih =>
    intro i hi
    have IH := ih (i + 1) (by omega)
    have e : wbits (fun k => (List.range (i + 1)).any fun b => decide (5 ≤ S.K b k)) 10 = wbits (fun k => (List.range i).any fun b => decide (5 ≤ S.K b k)) 10 ||| wWell S i := by
      apply Nat.eq_of_testBit_eq
      intro j
      rw [Nat.testBit_or, wWell, wbits_tb, wbits_tb, wbits_tb, List.range_succ, List.any_append]
      cases decide (j < 10) <;> simp
    rw [e, ← nI_1, ← xb_or] at IH
    refine xi_geN i S.B rfl rfl rfl hr.1 (by omega) (by omega) (fun h => absurd h (by omega)) (fun h => ?_)
    refine x_call [xI (nI i)] rfl rfl rfl rfl rfl rfl rfl (c_wellKnown hr ho (by omega) ?_)
    exact x_goto rfl rfl IH
theorem c_someWell (hr : rW D w S) (ho : wok S) (hp : post (some (nI (wbits (fun k => (List.range S.B).any fun b => decide (5 ≤ S.K b k)) 10))) D) : xRuns Γ (n + 2) hX7_wellKnownBySome [xR 0 7 w] D post := by
  refine x_runs kX7_wellKnownBySome (by decide +kernel) rfl ?_
  refine x_to 4 rfl ?_
  have := l_someWell (Γ := Γ) (n := n) hr ho hp S.B 0 (by omega)
  have e : wbits (fun k => (List.range 0).any fun b => decide (5 ≤ S.K b k)) 10 = 0 := by simp [wbits]
  rw [e] at this
  exact this
theorem l_menWords (hr : rW D w S) (ho : wok S) (hp : post (some (nI (wSum (fun m => wCnt (S.ha m)) S.M))) D) : ∀ f i, i + f = S.M → xW Γ (n + 1) hX7_allWordsOfMen rX7_allWordsOfMen 4 [some (xR 0 7 w), some (xI (nI (wSum (fun m => wCnt (S.ha m)) i))), some (xI (nI i))] [] D post := by
  have h4 := ho.2.1
  intro f
  induction f with
  | zero =>
    intro i hi
    obtain rfl : i = S.M := by omega
    refine xi_geN S.M S.M rfl rfl rfl hr.2.1 (by omega) (by omega) (fun _ => ?_) (fun h => absurd h (by omega))
    exact x_ret rfl rfl rfl rfl hp
  | succ f ih =>
    intro i hi
    have IH := ih (i + 1) (by omega)
    rw [wSum, ← nI_1, ← nI_add] at IH
    refine xi_geN i S.M rfl rfl rfl hr.2.1 (by omega) (by omega) (fun h => absurd h (by omega)) (fun h => ?_)
    refine x_aldN i rfl rfl rfl (by omega) rfl ?_
    rw [hr.2.2.2.2.2.2.2.1 i (by omega)]
    refine x_scall [xI (nI (S.ha i))] rfl rfl rfl rfl rfl rfl rfl (c_bitCount ?_)
    rw [jbc_cnt _ (ho.2.2.2.2.2.2.2.1 i (by omega))]
    exact x_goto rfl rfl IH
theorem c_menWords (hr : rW D w S) (ho : wok S) (hp : post (some (nI (wSum (fun m => wCnt (S.ha m)) S.M))) D) : xRuns Γ (n + 1) hX7_allWordsOfMen [xR 0 7 w] D post := by
  refine x_runs kX7_allWordsOfMen (by decide +kernel) rfl ?_
  refine x_to 4 rfl ?_
  exact l_menWords hr ho hp S.M 0 (by omega)
/-- n evenings -/
def wPassN (S : wS) : Nat → wS
  | 0 => S
  | k + 1 => wPass (wPassN S k)
theorem passN_B (S : wS) : ∀ k, (wPassN S k).B = S.B ∧ (wPassN S k).M = S.M ∧ (wPassN S k).E = S.E + k
  | 0 => ⟨rfl, rfl, rfl⟩
  | k + 1 => by
    obtain ⟨h1, h2, h3⟩ := passN_B S k
    exact ⟨h1, h2, by show (wPassN S k).E + 1 = _; rw [h3]; omega⟩
theorem wok_passN {S : wS} (ho : wok S) : ∀ k, S.E + k < 1000000 → wok (wPassN S k)
  | 0, _ => ho
  | k + 1, h => wok_pass (wok_passN ho k (by omega)) (by rw [(passN_B S k).2.2]; omega)
end C5
section M5
variable {Γ : xG} {n : Nat} {D : xM} {post : Option Int32 → xM → Prop} {S : wS}
theorem c_layTried (hr : rM D 0 S) (hB : S.B ≤ 8) (hM : S.M ≤ 4) (hp : ∀ D', rM D' 1296 S → sameM 1296 D D' → post none D') : xRuns Γ (n + 1) hX9_layTried [xR 0 9 111] D post := by
  refine x_runs kX9_layTried (by decide +kernel) rfl ?_
  refine x_call [xI (nI 0), xI (nI 1296)] rfl rfl rfl rfl rfl rfl rfl (c_copyHarbour (by omega) (by omega) (by omega) (fun D' h1 h2 => ?_))
  exact x_vret rfl rfl rfl (hp D' (rM_copy hB hM hr h1) h2)
theorem c_passTried {k : Nat} {sp0 : Nat → List Nat} (hk : k < 1000) (hr : rM D 1296 S) (hP : rP D 138 139 sp0) (hl0 : ∀ z, z < 4 → (sp0 z).length ≤ 16) (ho : wok S) (hE : S.E + k < 100000) (hp : ∀ D', rM D' 1296 (wPassN S k) → (∃ sp, rP D' 138 139 sp ∧ (∀ z, z < 4 → (sp z).length ≤ 16) ∧ (0 < k → sp = wSaid (wPassN S (k - 1)))) → sameMP 1296 D D' → post none D') : xRuns Γ (n + 5) hX9_passTried [xR 0 9 111, xI (nI k)] D post := by
  refine x_runs kX9_passTried (by decide +kernel) rfl ?_
  refine x_to 2 rfl ?_
  have loop : ∀ (f i : Nat) (D1 : xM) (sp : Nat → List Nat), i + f = k → rM D1 1296 (wPassN S i) → rP D1 138 139 sp → (∀ z, z < 4 → (sp z).length ≤ 16) → (0 < i → sp = wSaid (wPassN S (i - 1))) → sameMP 1296 D D1 → xW Γ (n + 5) hX9_passTried rX9_passTried 2 [some (xR 0 9 111), some (xI (nI k)), some (xI (nI i))] [] D1 post := by
    intro f
    induction f with
    | zero =>
      intro i D1 sp hi hr1 hP1 hl1 hs hs1
      obtain rfl : i = k := by omega
      refine xi_geN i i rfl rfl rfl rfl (by omega) (by omega) (fun _ => ?_) (fun h => absurd h (by omega))
      exact x_vret rfl rfl rfl (hp D1 hr1 ⟨sp, hP1, hl1, hs⟩ hs1)
    | succ f ih =>
      intro i D1 sp hi hr1 hP1 hl1 hs hs1
      have ho1 := wok_passN ho i (by omega)
      refine xi_geN i k rfl rfl rfl rfl (by omega) (by omega) (fun h => absurd h (by omega)) (fun h => ?_)
      refine x_call [xI (nI 1296)] rfl rfl rfl rfl rfl rfl rfl (c_passes hr1 hP1 hl1 ho1 (by omega) (by rw [(passN_B S i).2.2]; omega) (fun D2 hr2 hP2 hs2 => ?_))
      have IH := ih (i + 1) D2 _ (by omega) hr2 hP2 (len_said ho1) (fun _ => rfl) (hs1.tr hs2)
      rw [← nI_1] at IH
      exact x_goto rfl rfl IH
  exact loop k 0 D sp0 (by omega) hr hP hl0 (fun h => absurd h (by omega)) sameMP.rf
theorem c_sets {o m : Nat} {q : Option Nat} (hr : rM D o S) (ho : wok S) (hoo : o ≤ 1296) (hm : m < S.M) (hb : ∀ b, q = some b → b < S.B) (hp : ∀ D', rM D' o (wSeat S m q) → sameM o D D' → post none D') : xRuns Γ n hX9_sets [xR 0 9 111, xI (nI o), xI (nI m), xI (xby q)] D post := by
  have h8 := ho.1
  have h4 := ho.2.1
  have hlt : ∀ c, q = some c → c < 2 ^ 31 := fun c h => by have := hb c h; omega
  refine x_runs kX9_sets (by decide +kernel) rfl ?_
  refine x_to 3 rfl ?_
  have loop : ∀ (f i : Nat) (D1 : xM), i + f = S.M → rM D1 o (wmk S.B S.M S.E S.C S.kd S.pe S.K S.ha (fun m' => if m' < i ∧ q ≠ none ∧ S.bi m' = q then none else S.bi m')) → sameM o D D1 → xW Γ n hX9_sets rX9_sets 3 [some (xR 0 9 111), some (xI (nI o)), some (xI (nI m)), some (xI (xby q)), some (xI (nI i))] [] D1 post := by
    intro f
    induction f with
    | zero =>
      intro i D1 hi hr1 hs1
      refine x_aldN (o + 1) rfl rfl (nI_add _ _) (by omega) rfl ?_
      refine xi_geN i S.M rfl rfl rfl hr1.2.1 (by omega) (by omega) (fun _ => ?_) (fun h => absurd h (by omega))
      refine x_astN (o + 104 + m) rfl rfl (ixo (k := 104)) (by omega) rfl ?_
      refine x_vret rfl rfl rfl (hp _ ?_ (hs1.up (by omega) (by omega)))
      have h1 := rM_bi (i := m) (q := q) hr1 h8 h4 hm
      refine rM_bic (S := wmk S.B S.M S.E S.C S.kd S.pe S.K S.ha (wuf (fun m' => if m' < i ∧ q ≠ none ∧ S.bi m' = q then none else S.bi m') m q)) h1 (fun m' hm' => ?_)
      show (if m' = m then q else if q ≠ none ∧ S.bi m' = q then none else S.bi m') = wuf (fun m' => if m' < i ∧ q ≠ none ∧ S.bi m' = q then none else S.bi m') m q m'
      have hm' : m' < S.M := hm'
      by_cases e : m' = m
      · simp [wuf, e]
      · have : m' < i := by omega
        simp [wuf, e, this]
    | succ f ih =>
      intro i D1 hi hr1 hs1
      refine x_aldN (o + 1) rfl rfl (nI_add _ _) (by omega) rfl ?_
      refine xi_geN i S.M rfl rfl rfl hr1.2.1 (by omega) (by omega) (fun h => absurd h (by omega)) (fun h => ?_)
      have eR : D1 112 (o + 104 + i) = xby (S.bi i) := by
        have := hr1.2.2.2.2.2.2.2.2 i (by show i < S.M; omega)
        rw [this]
        show xby (if i < i ∧ q ≠ none ∧ S.bi i = q then none else S.bi i) = _
        rw [if_neg (by omega)]
      have next : ∀ (v : Option Nat), v = (if q ≠ none ∧ S.bi i = q then none else S.bi i) → xW Γ n hX9_sets rX9_sets 65 [some (xR 0 9 111), some (xI (nI o)), some (xI (nI m)), some (xI (xby q)), some (xI (nI i))] [] (xup D1 112 (o + 104 + i) (xby v)) post := by
        intro v hv
        have IH := ih (i + 1) (xup D1 112 (o + 104 + i) (xby v)) (by omega) (by
          have h1 := rM_bi (i := i) (q := v) hr1 h8 h4 (by show i < S.M; omega)
          refine rM_bic (S := wmk S.B S.M S.E S.C S.kd S.pe S.K S.ha (wuf (fun m' => if m' < i ∧ q ≠ none ∧ S.bi m' = q then none else S.bi m') i v)) h1 (fun m' hm' => ?_)
          show (if m' < i + 1 ∧ q ≠ none ∧ S.bi m' = q then none else S.bi m') = wuf (fun m' => if m' < i ∧ q ≠ none ∧ S.bi m' = q then none else S.bi m') i v m'
          by_cases e : m' = i
          · subst e
            simp only [wuf, if_true]
            rw [hv]
            simp
          · have : m' < i + 1 ↔ m' < i := by omega
            simp [wuf, e, this]) (hs1.up (by omega) (by omega))
        rw [← nI_1] at IH
        exact x_goto rfl rfl IH
      have keep : ¬ (q ≠ none ∧ S.bi i = q) → xW Γ n hX9_sets rX9_sets 52 [some (xR 0 9 111), some (xI (nI o)), some (xI (nI m)), some (xI (xby q)), some (xI (nI i))] [.inl (nI o + xnum 104 + nI i), xR 1 1404 112] D1 post := by
        intro hn
        refine x_aldN (o + 104 + i) rfl rfl (ixo (k := 104)) (by omega) rfl ?_
        rw [eR]
        refine x_astN (o + 104 + i) rfl rfl (ixo (k := 104)) (by omega) rfl ?_
        exact x_to 65 rfl (next (S.bi i) (by rw [if_neg hn]))
      cases q with
      | none => exact xi_eq rfl rfl (fun _ => keep (by simp)) (fun h => absurd rfl h)
      | some b =>
        refine xi_eq rfl rfl (fun h => absurd ((xby_m1 hlt).mp h) (by simp)) (fun _ => ?_)
        refine x_aldN (o + 104 + i) rfl rfl (ixo (k := 104)) (by omega) rfl ?_
        rw [eR]
        refine xi_ne rfl rfl (fun h2 => ?_) (fun h2 => ?_)
        · exact keep (fun z => h2 (by rw [z.2]))
        · have h3 : S.bi i = some b := (xby_eq (hlt b rfl) (wok_bi ho (by omega))).mp h2
          refine x_goto rfl rfl ?_
          refine x_astN (o + 104 + i) rfl rfl (ixo (k := 104)) (by omega) rfl ?_
          exact x_to 65 rfl (next none (by rw [if_pos ⟨by simp, h3⟩]))
  exact loop S.M 0 D (by omega) (rM_bic hr (fun m' _ => by simp)) sameM.rf
end M5
end
section
/-! ===== numbers that are as told; the state of all ===== -/
def gI (x : Int32) (lo hi : Int) : Option Nat := if lo ≤ x.toInt ∧ x.toInt ≤ hi then some x.toInt.toNat else none
theorem gI_some {x : Int32} {lo hi : Int} {k : Nat} (h0 : 0 ≤ lo) (h : gI x lo hi = some k) : x = nI k ∧ lo ≤ (k : Int) ∧ (k : Int) ≤ hi ∧ k < 2 ^ 31 := by
  rw [gI] at h
  split at h
  · rename_i hq
    cases h
    have h1 := Int32.toInt_lt x
    refine ⟨?_, by omega, by omega, by omega⟩
    apply Int32.toInt_inj.mp
    rw [nI_toInt (by omega)]
    omega
  · cases h
theorem gI_none {x : Int32} {lo hi : Int} (h : gI x lo hi = none) : x.toInt < lo ∨ hi < x.toInt := by
  rw [gI] at h
  split at h
  · cases h
  · omega
theorem gI_nI {k : Nat} {lo hi : Int} (hk : k < 2 ^ 31) (h1 : lo ≤ (k : Int)) (h2 : (k : Int) ≤ hi) : gI (nI k) lo hi = some k := by
  rw [gI, nI_toInt hk, if_pos ⟨h1, h2⟩]
  rfl
section GI
variable {Γ : xG} {n : Nat} {D : xM} {post : Option Int32 → xM → Prop}
theorem c_isNot {x l u : Int32} {lo hi : Int} (hl : l.toInt = lo) (hu : u.toInt = hi) (hp : post (some (if (gI x lo hi).isSome then 0 else 1)) D) : xRuns Γ n hX8_isNot [xI x, xI l, xI u] D post := by
  subst hl; subst hu
  refine x_runs kX8_isNot (by decide +kernel) rfl ?_
  refine xi_lt rfl rfl (fun h => ?_) (fun h => ?_)
  · have h := Int32.lt_iff_toInt_lt.mp h
    have e : gI x l.toInt u.toInt = none := by rw [gI, if_neg (by omega)]
    rw [e] at hp
    exact x_goto rfl rfl (x_ret rfl rfl rfl rfl hp)
  · have h : ¬ x.toInt < l.toInt := fun z => h (Int32.lt_iff_toInt_lt.mpr z)
    refine xi_le rfl rfl (fun h2 => ?_) (fun h2 => ?_)
    · have h2 := Int32.le_iff_toInt_le.mp h2
      have e : gI x l.toInt u.toInt = some x.toInt.toNat := by rw [gI, if_pos (by omega)]
      rw [e] at hp
      exact x_ret rfl rfl rfl rfl hp
    · have h2 : ¬ x.toInt ≤ u.toInt := fun z => h2 (Int32.le_iff_toInt_le.mpr z)
      have e : gI x l.toInt u.toInt = none := by rw [gI, if_neg (by omega)]
      rw [e] at hp
      exact x_goto rfl rfl (x_ret rfl rfl rfl rfl hp)
theorem c_inI {x : Int32} {l u : Int64} {lo hi : Int} (hl : l.toInt = lo) (hu : u.toInt = hi) (hp : post (some (if (gI x lo hi).isSome then 1 else 0)) D) : xRuns Γ n hX9_in [xL x.toInt64, xL l, xL u] D post := by
  refine c_in ?_
  have e : (l ≤ x.toInt64 ∧ x.toInt64 ≤ u) ↔ (lo ≤ x.toInt ∧ x.toInt ≤ hi) := by
    rw [Int64.le_iff_toInt_le, Int64.le_iff_toInt_le, Int32.toInt_toInt64, hl, hu]
  by_cases h : lo ≤ x.toInt ∧ x.toInt ≤ hi
  · rw [if_pos (e.mpr h)]
    rw [gI, if_pos h] at hp
    exact hp
  · rw [if_neg (fun z => h (e.mp z))]
    rw [gI, if_neg h] at hp
    exact hp
theorem c_noBird {x : Int32} {S : wS} (hr : rW D 21 S) (ho : wok S) (hp : post (some (if (gI x 0 ((S.B : Int) - 1)).isSome then 0 else 1)) D) : xRuns Γ (n + 1) hX8_noBird [xR 0 8 0, xI x] D post := by
  have h8 := ho.1
  refine x_runs kX8_noBird (by decide +kernel) rfl ?_
  refine x_scall [xI x, xI (nI 0), xI (D 21 0 - xnum 1)] rfl rfl rfl rfl rfl rfl rfl (c_isNot (lo := 0) (hi := (S.B : Int) - 1) (by decide) (by rw [hr.1]; exact pk_sub_toInt (b := 1) (by omega) (by decide)) ?_)
  refine x_ret rfl rfl rfl (by split <;> rfl) hp
theorem c_noMan {x : Int32} {S : wS} (hr : rW D 21 S) (ho : wok S) (hp : post (some (if (gI x 0 ((S.M : Int) - 1)).isSome then 0 else 1)) D) : xRuns Γ (n + 1) hX8_noMan [xR 0 8 0, xI x] D post := by
  have h4 := ho.2.1
  refine x_runs kX8_noMan (by decide +kernel) rfl ?_
  refine x_scall [xI x, xI (nI 0), xI (D 21 1 - xnum 1)] rfl rfl rfl rfl rfl rfl rfl (c_isNot (lo := 0) (hi := (S.M : Int) - 1) (by decide) (by rw [hr.2.1]; exact pk_sub_toInt (b := 1) (by omega) (by decide)) ?_)
  refine x_ret rfl rfl rfl (by split <;> rfl) hp
theorem c_noWord {x : Int32} (hp : post (some (if (gI x 0 9).isSome then 0 else 1)) D) : xRuns Γ (n + 1) hX8_noWord [xI x] D post := by
  refine x_runs kX8_noWord (by decide +kernel) rfl ?_
  refine x_scall [xI x, xI (nI 0), xI (nI 9)] rfl rfl rfl rfl rfl rfl rfl (c_isNot (lo := 0) (hi := 9) (by decide) (by decide) ?_)
  refine x_ret rfl rfl rfl (by split <;> rfl) hp
theorem c_noPerch {x : Int32} (hp : post (some (if (gI x 0 3).isSome then 0 else 1)) D) : xRuns Γ (n + 1) hX8_noPerch [xI x] D post := by
  refine x_runs kX8_noPerch (by decide +kernel) rfl ?_
  refine x_scall [xI x, xI (nI 0), xI (nI 3)] rfl rfl rfl rfl rfl rfl rfl (c_isNot (lo := 0) (hi := 3) (by decide) (by decide) ?_)
  refine x_ret rfl rfl rfl (by split <;> rfl) hp
theorem c_noReel {x : Int32} (hp : post (some (if (gI x 0 2).isSome then 0 else 1)) D) : xRuns Γ (n + 1) hX8_noReel [xI x] D post := by
  refine x_runs kX8_noReel (by decide +kernel) rfl ?_
  refine x_scall [xI x, xI (nI 0), xI (nI 2)] rfl rfl rfl rfl rfl rfl rfl (c_isNot (lo := 0) (hi := 2) (by decide) (by decide) ?_)
  refine x_ret rfl rfl rfl (by split <;> rfl) hp
theorem c_noSort {x : Int32} (hp : post (some (if (gI x 0 3).isSome then 0 else 1)) D) : xRuns Γ (n + 1) hX8_noSort [xI x] D post := by
  refine x_runs kX8_noSort (by decide +kernel) rfl ?_
  refine x_scall [xI x, xI (nI 0), xI (nI 3)] rfl rfl rfl rfl rfl rfl rfl (c_isNot (lo := 0) (hi := 3) (by decide) (by decide) ?_)
  refine x_ret rfl rfl rfl (by split <;> rfl) hp
theorem c_isBird {x : Int32} {S : wS} (hr : rM D 0 S) (ho : wok S) (hp : post (some (if (gI x 0 ((S.B : Int) - 1)).isSome then 1 else 0)) D) : xRuns Γ (n + 1) hX9_isBird [xR 0 9 111, xI x] D post := by
  have h8 := ho.1
  refine x_runs kX9_isBird (by decide +kernel) rfl ?_
  refine x_aldN 0 rfl rfl rfl (by omega) rfl ?_
  refine x_scall [xL x.toInt64, xL (Int64.ofNat 0), xL (D 112 0 - xnum 1).toInt64] rfl rfl rfl rfl rfl rfl rfl (c_inI (lo := 0) (hi := (S.B : Int) - 1) (by decide) (by rw [Int32.toInt_toInt64, hr.1]; exact pk_sub_toInt (b := 1) (by omega) (by decide)) ?_)
  refine x_ret rfl rfl rfl (by split <;> rfl) hp
theorem c_isMan {x : Int32} {S : wS} (hr : rM D 0 S) (ho : wok S) (hp : post (some (if (gI x 0 ((S.M : Int) - 1)).isSome then 1 else 0)) D) : xRuns Γ (n + 1) hX9_isMan [xR 0 9 111, xI x] D post := by
  have h4 := ho.2.1
  refine x_runs kX9_isMan (by decide +kernel) rfl ?_
  refine x_aldN 1 rfl rfl rfl (by omega) rfl ?_
  refine x_scall [xL x.toInt64, xL (Int64.ofNat 0), xL (D 112 1 - xnum 1).toInt64] rfl rfl rfl rfl rfl rfl rfl (c_inI (lo := 0) (hi := (S.M : Int) - 1) (by decide) (by rw [Int32.toInt_toInt64, hr.2.1]; exact pk_sub_toInt (b := 1) (by omega) (by decide)) ?_)
  refine x_ret rfl rfl rfl (by split <;> rfl) hp
theorem c_isWordN {x : Int32} (hp : post (some (if (gI x 0 9).isSome then 1 else 0)) D) : xRuns Γ (n + 1) hX9_isWordNumber [xI x] D post := by
  refine x_runs kX9_isWordNumber (by decide +kernel) rfl ?_
  refine x_scall [xL x.toInt64, xL (Int64.ofNat 0), xL (Int64.ofNat 9)] rfl rfl rfl rfl rfl rfl rfl (c_inI (lo := 0) (hi := 9) (by decide) (by decide) ?_)
  refine x_ret rfl rfl rfl (by split <;> rfl) hp
theorem c_isReel {x : Int32} (hp : post (some (if (gI x 0 2).isSome then 1 else 0)) D) : xRuns Γ (n + 1) hX9_isReel [xI x] D post := by
  refine x_runs kX9_isReel (by decide +kernel) rfl ?_
  refine x_scall [xL x.toInt64, xL (Int64.ofNat 0), xL (Int64.ofNat 2)] rfl rfl rfl rfl rfl rfl rfl (c_inI (lo := 0) (hi := 2) (by decide) (by decide) ?_)
  refine x_ret rfl rfl rfl (by split <;> rfl) hp
end GI
/-- the state of all: text; tongue; told, now; pasts (the latest first); kept; seen; reels -/
abbrev gS : Type := List Nat × List Nat × (wS × wS) × List wS × (Nat → Option wS) × List (Nat × Nat × Option Nat) × (Nat → Option (Nat × Nat × (Nat → Int32)))
abbrev gS.tx (G : gS) : List Nat := G.1
abbrev gS.tg (G : gS) : List Nat := G.2.1
abbrev gS.told (G : gS) : wS := G.2.2.1.1
abbrev gS.now (G : gS) : wS := G.2.2.1.2
abbrev gS.past (G : gS) : List wS := G.2.2.2.1
abbrev gS.kept (G : gS) : Nat → Option wS := G.2.2.2.2.1
abbrev gS.seen (G : gS) : List (Nat × Nat × Option Nat) := G.2.2.2.2.2.1
abbrev gS.reel (G : gS) : Nat → Option (Nat × Nat × (Nat → Int32)) := G.2.2.2.2.2.2
abbrev gmk (tx tg : List Nat) (told now : wS) (past : List wS) (kept : Nat → Option wS) (seen : List (Nat × Nat × Option Nat)) (reel : Nat → Option (Nat × Nat × (Nat → Int32))) : gS := (tx, tg, (told, now), past, kept, seen, reel)
/-- a row of letters in cells -/
def rL (D : xM) (a : Nat) (l : List Nat) : Prop := ∀ j, j < l.length → D a j = nI (l.getD j 0)
theorem rL_out {D D' : xM} {a : Nat} {l : List Nat} (h : rL D a l) (e : D' a = D a) : rL D' a l := fun j hj => by rw [e]; exact h j hj
theorem rL_add {D : xM} {a k : Nat} {l : List Nat} (h : rL D a l) : rL (xup D a l.length (nI k)) a (l ++ [k]) := by
  intro j hj
  rw [List.length_append] at hj
  by_cases e : j = l.length
  · subst e
    rw [xup_at, List.getD_eq_getElem?_getD, List.getElem?_append_right (Nat.le_refl _)]
    simp
  · rw [xup_o (by omega), h j (by simp at hj; omega), List.getD_eq_getElem?_getD, List.getD_eq_getElem?_getD, List.getElem?_append_left (by simp at hj; omega)]
/-- the class's pieces -/
def cTx (D : xM) (tx : List Nat) : Prop := D 1 1 = nI tx.length ∧ rL D 2 tx
def cHi (D : xM) (past : List wS) (kept : Nat → Option wS) : Prop := ∃ nx sb : Nat, nx < 8 ∧ sb < 4 ∧ D 36 2 = nI nx ∧ D 36 3 = nI sb ∧ D 36 4 = nI past.length ∧ (∀ j, (h : j < past.length) → rW D (xelB 8 ((nx + 7 - j) % 8)) past[j]) ∧ ∀ k, k < 2 → sb.testBit k = (kept k).isSome ∧ ∀ S, kept k = some S → rW D (xelB 2 k) S
def cSe (D : xM) (seen : List (Nat × Nat × Option Nat)) : Prop := D 99 3 = nI seen.length ∧ ∀ j, (h : j < seen.length) → D 100 j = nI seen[j].1 ∧ D 101 j = nI seen[j].2.1 ∧ D 102 j = xby seen[j].2.2
def cRe (D : xM) (reel : Nat → Option (Nat × Nat × (Nat → Int32))) : Prop := ∀ r, r < 3 → match reel r with
  | none => D (104 + 2 * r) 1 = 0
  | some (s, l, f) => D (104 + 2 * r) 1 = 1 ∧ D (104 + 2 * r) 2 = nI s ∧ D (104 + 2 * r) 3 = nI l ∧ ∀ j, j < 12 → D (105 + 2 * r) j = f j
/-- the reference's -/
def mTx (D : xM) (tx : List Nat) : Prop := D 111 4 = nI tx.length ∧ rL D 114 tx
def mHi (D : xM) (past : List wS) (kept : Nat → Option wS) : Prop := D 111 1 = nI past.length ∧ (∀ j, (h : j < past.length) → rM D (216 + 108 * (past.length - 1 - j)) past[j]) ∧ ∀ k, k < 2 → D 113 k = (if (kept k).isSome then 1 else 0) ∧ ∀ S, kept k = some S → rM D (1080 + 108 * k) S
def mSe (D : xM) (seen : List (Nat × Nat × Option Nat)) : Prop := D 111 5 = nI seen.length ∧ ∀ j, (h : j < seen.length) → D 115 j = nI seen[j].1 ∧ D 116 j = nI seen[j].2.1 ∧ D 117 j = xby seen[j].2.2
def mRe (D : xM) (reel : Nat → Option (Nat × Nat × (Nat → Int32))) : Prop := ∀ r, r < 3 → match reel r with
  | none => D 121 r = -1
  | some (s, l, f) => D 121 r = nI l ∧ D 122 r = nI s ∧ ∀ j, j < 12 → D 123 (12 * r + j) = f j
def mSp (D : xM) : Prop := ∃ sp, rP D 138 139 sp ∧ ∀ z, z < 4 → (sp z).length ≤ 16
/-- a state that can be -/
def gok (G : gS) : Prop := (G.tx.length ≤ 200 ∧ ∀ c ∈ G.tx, c < 256) ∧ wok G.told ∧ (wok G.now ∧ G.now.E ≤ 999) ∧ (G.past.length ≤ 8 ∧ ∀ S ∈ G.past, wok S ∧ S.E ≤ 999) ∧ (∀ k S, k < 2 → G.kept k = some S → wok S ∧ S.E ≤ 999) ∧ (G.seen.length ≤ 6 ∧ ∀ q ∈ G.seen, q.1 < 4 ∧ q.2.1 < 10 ∧ ∀ v, q.2.2 = some v → v < 10) ∧ (∀ r s l f, r < 3 → G.reel r = some (s, l, f) → s < 4 ∧ l ≤ 12)
end
section
/-! ===== History ===== -/
theorem elB8 (j : Nat) : xelB 8 j = 39 + 6 * j := rfl
theorem elB2 (j : Nat) : xelB 2 j = 87 + 6 * j := rfl
theorem cTx_out {D D' : xM} {tx : List Nat} (h : cTx D tx) (e1 : D' 1 1 = D 1 1) (e2 : D' 2 = D 2) : cTx D' tx := ⟨by rw [e1]; exact h.1, rL_out h.2 e2⟩
theorem cHi_out {D D' : xM} {past : List wS} {kept : Nat → Option wS} (h : cHi D past kept) (e : ∀ a, 36 ≤ a → a ≤ 98 → D' a = D a) : cHi D' past kept := by
  obtain ⟨nx, sb, h1, h2, h3, h4, h5, h6, h7⟩ := h
  have e36 := e 36 (by omega) (by omega)
  refine ⟨nx, sb, h1, h2, by rw [e36]; exact h3, by rw [e36]; exact h4, by rw [e36]; exact h5, fun j hj => rW_out (h6 j hj) (fun a ha hb => e a ?_ ?_), fun k hk => ⟨(h7 k hk).1, fun S hS => rW_out ((h7 k hk).2 S hS) (fun a ha hb => e a ?_ ?_)⟩⟩
  · rw [elB8] at ha; omega
  · rw [elB8] at hb; omega
  · rw [elB2] at ha; omega
  · rw [elB2] at hb; omega
theorem cSe_out {D D' : xM} {seen : List (Nat × Nat × Option Nat)} (h : cSe D seen) (e : ∀ a, 99 ≤ a → a ≤ 102 → D' a = D a) : cSe D' seen := by
  rw [cSe, e 99 (by omega) (by omega), e 100 (by omega) (by omega), e 101 (by omega) (by omega), e 102 (by omega) (by omega)]
  exact h
theorem cRe_out {D D' : xM} {reel : Nat → Option (Nat × Nat × (Nat → Int32))} (h : cRe D reel) (e : ∀ a, 104 ≤ a → a ≤ 109 → D' a = D a) : cRe D' reel := by
  intro r hr
  have h1 := h r hr
  rw [e (104 + 2 * r) (by omega) (by omega), e (105 + 2 * r) (by omega) (by omega)]
  exact h1
section HI
variable {Γ : xG} {n : Nat} {D : xM} {post : Option Int32 → xM → Prop} {past : List wS} {kept : Nat → Option wS} {S : wS}
theorem c_remember (hh : cHi D past kept) (hr : rW D 21 S) (hB : S.B ≤ 8) (hM : S.M ≤ 4) (hl : past.length ≤ 8) (hp : ∀ D', cHi D' ((S :: past).take 8) kept → (∀ a, (a < 36 ∨ 98 < a) → D' a = D a) → post none D') : xRuns Γ (n + 2) hX1_remember [xR 0 1 36, xR 0 7 21] D post := by
  obtain ⟨nx, sb, h1, h2, h3, h4, h5, h6, h7⟩ := hh
  refine x_runs kX1_remember (by decide +kernel) rfl ?_
  refine x_wldN nx rfl rfl h3 h1 rfl ?_
  refine x_call [xR 0 7 21] rfl rfl rfl rfl rfl rfl rfl (c_become (w := xelB 8 nx) (o := 21) (by rw [elB8]; omega) (fun D1 hc hs => ?_))
  rw [elB8] at hs hc
  have e36 : D1 36 = D 36 := hs 36 (by omega)
  refine x_rem rfl rfl (by decide) ?_
  have er : D1 36 2 + xnum 1 - (D1 36 2 + xnum 1) / xnum 8 * xnum 8 = nI ((nx + 1) % 8) := by
    rw [e36, h3]
    show nI nx + nI 1 - (nI nx + nI 1) / nI 8 * nI 8 = _
    rw [nI_add]
    exact pk_rem (a := nx + 1) (d := 8) (by omega) (by decide) (by decide)
  refine x_min rfl rfl rfl ?_
  refine x_vret rfl rfl rfl ?_
  have em : (if xnum 8 < xup D1 36 2 (D1 36 2 + xnum 1 - (D1 36 2 + xnum 1) / xnum 8 * xnum 8) 36 4 + xnum 1 then xnum 8 else xup D1 36 2 (D1 36 2 + xnum 1 - (D1 36 2 + xnum 1) / xnum 8 * xnum 8) 36 4 + xnum 1) = nI (min 8 (past.length + 1)) := by
    rw [xup_o (by omega), e36, h5]
    show (if nI 8 < nI past.length + nI 1 then nI 8 else nI past.length + nI 1) = _
    rw [nI_add]
    by_cases q : past.length + 1 ≤ 8
    · rw [if_neg (nI_nlt q (by omega)), Nat.min_eq_right q]
    · rw [if_pos (nI_lt (by omega) (by omega)), Nat.min_eq_left (by omega)]
  rw [em, er]
  have same : ∀ a, a ≠ 36 → xup (xup D1 36 2 (nI ((nx + 1) % 8))) 36 4 (nI (min 8 (past.length + 1))) a = D1 a := fun a ha => by rw [xup_ne a ha, xup_ne a ha]
  refine hp _ ⟨(nx + 1) % 8, sb, by omega, h2, by rw [xup_o (by omega), xup_at], by rw [xup_o (by omega), xup_o (by omega), e36]; exact h4, by rw [xup_at, List.length_take, List.length_cons], fun j hj => ?_, fun k hk => ⟨(h7 k hk).1, fun S' hS' => ?_⟩⟩ (fun a ha => ?_)
  · rw [List.length_take, List.length_cons] at hj
    have hel : xelB 8 (((nx + 1) % 8 + 7 - j) % 8) = 39 + 6 * (((nx + 1) % 8 + 7 - j) % 8) := rfl
    cases j with
    | zero =>
      have e0 : ((nx + 1) % 8 + 7 - 0) % 8 = nx := by omega
      rw [e0, List.getElem_take]
      show rW _ (xelB 8 nx) S
      rw [elB8]
      exact rW_out (hc S hB hM hr) (fun a ha hb => same a (by omega))
    | succ j =>
      have e0 : ((nx + 1) % 8 + 7 - (j + 1)) % 8 = (nx + 7 - j) % 8 := by omega
      have hj2 : j < past.length := by omega
      have h6j := h6 j hj2
      rw [e0, List.getElem_take]
      show rW _ (xelB 8 ((nx + 7 - j) % 8)) past[j]
      rw [elB8] at h6j ⊢
      exact rW_out h6j (fun a ha hb => by rw [same a (by omega)]; exact hs a (by omega))
  · have h7k := (h7 k hk).2 S' hS'
    rw [elB2] at h7k ⊢
    exact rW_out h7k (fun a ha hb => by rw [same a (by omega)]; exact hs a (by omega))
  · rw [same a (by omega)]
    exact hs a (by omega)
theorem c_takeBack {S0 : wS} (hh : cHi D (S0 :: past) kept) (hl : past.length < 8) (hB : S0.B ≤ 8) (hM : S0.M ≤ 4) (hp : ∀ D', cHi D' past kept → rW D' 21 S0 → (∀ a, (a < 21 ∨ 26 < a) → (a < 36 ∨ 98 < a) → D' a = D a) → post none D') : xRuns Γ (n + 2) hX1_takeBack [xR 0 1 36, xR 0 7 21] D post := by
  obtain ⟨nx, sb, h1, h2, h3, h4, h5, h6, h7⟩ := hh
  refine x_runs kX1_takeBack (by decide +kernel) rfl ?_
  refine x_rem rfl rfl (by decide) ?_
  have er : D 36 2 + xnum 8 - xnum 1 - (D 36 2 + xnum 8 - xnum 1) / xnum 8 * xnum 8 = nI ((nx + 7) % 8) := by
    rw [h3]
    show nI nx + nI 8 - nI 1 - (nI nx + nI 8 - nI 1) / nI 8 * nI 8 = _
    rw [nI_add, pk_sub (by omega)]
    have : nx + 8 - 1 = nx + 7 := by omega
    rw [this]
    exact pk_rem (a := nx + 7) (d := 8) (by omega) (by decide) (by decide)
  have es : xup D 36 2 (D 36 2 + xnum 8 - xnum 1 - (D 36 2 + xnum 8 - xnum 1) / xnum 8 * xnum 8) 36 4 - xnum 1 = nI past.length := by
    rw [xup_o (by omega), h5]
    show nI (past.length + 1) - nI 1 = _
    rw [pk_sub (by omega)]
    rfl
  refine x_wldN ((nx + 7) % 8) rfl rfl (by rw [xup_o (by omega), xup_at]; exact er) (by omega) rfl ?_
  rw [es, er]
  have same : ∀ a, a ≠ 36 → xup (xup D 36 2 (nI ((nx + 7) % 8))) 36 4 (nI past.length) a = D a := fun a ha => by rw [xup_ne a ha, xup_ne a ha]
  refine x_call [xR 0 7 (xelB 8 ((nx + 7) % 8))] rfl rfl rfl rfl rfl rfl rfl (c_become (w := 21) (o := xelB 8 ((nx + 7) % 8)) (by rw [elB8]; omega) (fun D1 hc hs => ?_))
  have h60 := h6 0 (by simp)
  rw [Nat.sub_zero, elB8] at h60
  have e36 : D1 36 = xup (xup D 36 2 (nI ((nx + 7) % 8))) 36 4 (nI past.length) 36 := hs 36 (by omega)
  refine x_vret rfl rfl rfl (hp D1 ⟨(nx + 7) % 8, sb, by omega, h2, by rw [e36, xup_o (by omega), xup_at], by rw [e36, xup_o (by omega), xup_o (by omega)]; exact h4, by rw [e36, xup_at], fun j hj => ?_, fun k hk => ⟨(h7 k hk).1, fun S' hS' => ?_⟩⟩ (hc S0 hB hM ?_) (fun a ha hb => ?_))
  · have h6j := h6 (j + 1) (by simp; omega)
    have e0 : ((nx + 7) % 8 + 7 - j) % 8 = (nx + 7 - (j + 1)) % 8 := by omega
    rw [e0]
    rw [elB8] at h6j ⊢
    exact rW_out h6j (fun a ha hb => by rw [hs a (by omega)]; exact same a (by omega))
  · have h7k := (h7 k hk).2 S' hS'
    rw [elB2] at h7k ⊢
    exact rW_out h7k (fun a ha hb => by rw [hs a (by omega)]; exact same a (by omega))
  · rw [elB8]
    exact rW_out h60 (fun a ha hb => same a (by omega))
  · rw [hs a (by omega)]
    exact same a (by omega)
theorem c_store {k : Nat} (hk : k < 2) (hh : cHi D past kept) (hr : rW D 21 S) (hB : S.B ≤ 8) (hM : S.M ≤ 4) (hp : ∀ D', cHi D' past (wuf kept k (some S)) → (∀ a, (a < 36 ∨ 98 < a) → D' a = D a) → post none D') : xRuns Γ (n + 2) hX1_store [xR 0 1 36, xI (nI k), xR 0 7 21] D post := by
  obtain ⟨nx, sb, h1, h2, h3, h4, h5, h6, h7⟩ := hh
  refine x_runs kX1_store (by decide +kernel) rfl ?_
  refine x_wldN k rfl rfl rfl hk rfl ?_
  refine x_call [xR 0 7 21] rfl rfl rfl rfl rfl rfl rfl (c_become (w := xelB 2 k) (o := 21) (by rw [elB2]; omega) (fun D1 hc hs => ?_))
  rw [elB2] at hs hc
  have e36 : D1 36 = D 36 := hs 36 (by omega)
  refine x_vret rfl rfl rfl ?_
  have eb : D1 36 3 ||| (xnum 1 <<< (nI k &&& 31)) = nI (sb ||| 2 ^ k) := by
    rw [e36, h4, ← xb_or, ← xb_sh1 (by omega)]
    rfl
  rw [eb]
  have same : ∀ a, a ≠ 36 → xup D1 36 3 (nI (sb ||| 2 ^ k)) a = D1 a := fun a ha => xup_ne a ha
  have hsb : sb ||| 2 ^ k < 4 := Nat.or_lt_two_pow (n := 2) h2 (Nat.pow_lt_pow_right (by decide) hk)
  refine hp _ ⟨nx, sb ||| 2 ^ k, h1, hsb, by rw [xup_o (by omega), e36]; exact h3, by rw [xup_at], by rw [xup_o (by omega), e36]; exact h5, fun j hj => ?_, fun k' hk' => ?_⟩ (fun a ha => ?_)
  · have h6j := h6 j hj
    rw [elB8] at h6j ⊢
    exact rW_out h6j (fun a ha hb => by rw [same a (by omega)]; exact hs a (by omega))
  · rw [Nat.testBit_or, Nat.testBit_two_pow]
    by_cases e : k' = k
    · subst e
      refine ⟨by simp [wuf], fun S' hS' => ?_⟩
      simp only [wuf, if_true] at hS'
      cases hS'
      rw [elB2]
      exact rW_out (hc S hB hM hr) (fun a ha hb => same a (by omega))
    · refine ⟨by simp [wuf, e, Ne.symm e, (h7 k' hk').1], fun S' hS' => ?_⟩
      simp only [wuf, e, if_false] at hS'
      have h7k := (h7 k' hk').2 S' hS'
      rw [elB2] at h7k ⊢
      exact rW_out h7k (fun a ha hb => by rw [same a (by omega)]; exact hs a (by omega))
  · rw [same a (by omega)]
    exact hs a (by omega)
theorem c_isStored {k : Nat} (hk : k < 2) (hh : cHi D past kept) (hp : post (some (if (kept k).isSome then 1 else 0)) D) : xRuns Γ n hX1_isStored [xR 0 1 36, xI (nI k)] D post := by
  obtain ⟨nx, sb, h1, h2, h3, h4, h5, h6, h7⟩ := hh
  refine x_runs kX1_isStored (by decide +kernel) rfl ?_
  rw [← (h7 k hk).1] at hp
  refine xi_neN (sb / 2 ^ k % 2) 1 rfl rfl (by rw [h4]; exact xb_bit (by omega) (by omega)) rfl (by omega) (by omega) (fun h => ?_) (fun h => ?_)
  · have : sb.testBit k = false := by
      cases hq : sb.testBit k with
      | false => rfl
      | true => exact absurd ((xb_tb _ _).mpr hq) h
    rw [this] at hp
    exact x_ret rfl rfl rfl rfl hp
  · rw [(xb_tb _ _).mp h] at hp
    exact x_goto rfl rfl (x_ret rfl rfl rfl rfl hp)
theorem c_restore {k : Nat} {S0 : wS} (hk : k < 2) (hh : cHi D past kept) (hk0 : kept k = some S0) (hB : S0.B ≤ 8) (hM : S0.M ≤ 4) (hp : ∀ D', cHi D' [] kept → rW D' 21 S0 → (∀ a, (a < 21 ∨ 26 < a) → a ≠ 36 → D' a = D a) → post none D') : xRuns Γ (n + 2) hX1_restore [xR 0 1 36, xI (nI k), xR 0 7 21] D post := by
  obtain ⟨nx, sb, h1, h2, h3, h4, h5, h6, h7⟩ := hh
  refine x_runs kX1_restore (by decide +kernel) rfl ?_
  refine x_wldN k rfl rfl rfl hk rfl ?_
  refine x_call [xR 0 7 (xelB 2 k)] rfl rfl rfl rfl rfl rfl rfl (c_become (w := 21) (o := xelB 2 k) (by rw [elB2]; omega) (fun D1 hc hs => ?_))
  have e36 : D1 36 = D 36 := hs 36 (by omega)
  refine x_vret rfl rfl rfl (hp _ ⟨nx, sb, h1, h2, by rw [xup_o (by omega), e36]; exact h3, by rw [xup_o (by omega), e36]; exact h4, by rw [xup_at]; rfl, fun j hj => absurd hj (by simp), fun k' hk' => ⟨(h7 k' hk').1, fun S' hS' => ?_⟩⟩ (rW_out (hc S0 hB hM ((h7 k hk).2 S0 hk0)) (fun a ha hb => xup_ne a (by omega))) (fun a ha hb => ?_))
  · have h7k := (h7 k' hk').2 S' hS'
    rw [elB2] at h7k ⊢
    exact rW_out h7k (fun a ha hb => by rw [xup_ne a (by omega)]; exact hs a (by omega))
  · rw [xup_ne a hb]
    exact hs a ha
/-- the reference's keepPast -/
theorem mHi_out {D D' : xM} {past : List wS} {kept : Nat → Option wS} (h : mHi D past kept) (hl : past.length ≤ 8) (hw : ∀ S ∈ past, wok S) (hk2 : ∀ k S, k < 2 → kept k = some S → wok S) (e1 : D' 111 1 = D 111 1) (e2 : ∀ j, 216 ≤ j → j < 1296 → D' 112 j = D 112 j) (e3 : D' 113 = D 113) : mHi D' past kept := by
  obtain ⟨h1, h2, h3⟩ := h
  refine ⟨by rw [e1]; exact h1, fun j hj => ?_, fun k hk => ⟨by rw [e3]; exact (h3 k hk).1, fun S hS => ?_⟩⟩
  · have hs := hw _ (List.getElem_mem hj)
    exact rM_out (h2 j hj) hs.1 hs.2.1 (fun i hi1 hi2 => e2 i (by omega) (by omega))
  · have hs := hk2 k S hk hS
    exact rM_out ((h3 k hk).2 S hS) hs.1 hs.2.1 (fun i hi1 hi2 => e2 i (by omega) (by omega))
theorem c_keepPast (hh : mHi D past kept) (hl : past.length ≤ 8) (hw : ∀ S ∈ past, wok S) (hk2 : ∀ k S, k < 2 → kept k = some S → wok S) (hr : rM D 0 S) (hB : S.B ≤ 8) (hM : S.M ≤ 4) (hp : ∀ D', mHi D' ((S :: past).take 8) kept → (∀ a j, ¬ (a = 112 ∧ 216 ≤ j ∧ j < 1080) → ¬ (a = 111 ∧ j = 1) → D' a j = D a j) → post none D') : xRuns Γ (n + 2) hX9_keepPast [xR 0 9 111] D post := by
  obtain ⟨h1, h2, h3⟩ := hh
  refine x_runs kX9_keepPast (by decide +kernel) rfl ?_
  -- the copy at the end
  have fin : ∀ (p1 : List wS) (D1 : xM) (v : Option xV), p1.length < 8 → (∀ S ∈ p1, wok S) → D1 111 1 = nI p1.length → (∀ j, (h : j < p1.length) → rM D1 (216 + 108 * (p1.length - 1 - j)) p1[j]) → (S :: p1) = (S :: past).take 8 → (∀ a j, ¬ (a = 112 ∧ 216 ≤ j ∧ j < 1080) → ¬ (a = 111 ∧ j = 1) → D1 a j = D a j) → xW Γ (n + 2) hX9_keepPast rX9_keepPast 54 [some (xR 0 9 111), none] [] D1 post := by
    intro p1 D1 v hl1 hw1 g1 g2 g3 g4
    have hr1 : rM D1 0 S := rM_out hr hB hM (fun j _ hj => g4 112 j (by omega) (by omega))
    refine x_call [xI (nI 0), xI (xnum 216 + xnum 108 * D1 111 1)] rfl rfl rfl rfl rfl rfl rfl ?_
    have ei : xnum 216 + xnum 108 * D1 111 1 = nI (216 + 108 * p1.length) := by
      rw [g1]
      show nI 216 + nI 108 * nI p1.length = _
      rw [pk_mul, nI_add]
    rw [ei]
    refine c_copyHarbour (a := 0) (z := 216 + 108 * p1.length) (by omega) (by omega) (by omega) (fun D2 hc hs => ?_)
    refine x_vret rfl rfl rfl ?_
    have eu : D2 111 1 + xnum 1 = nI (p1.length + 1) := by
      rw [hs 111 1 (by omega), g1]
      exact nI_1 _
    rw [eu]
    refine hp _ ⟨by rw [xup_at, ← g3]; rfl, fun j hj => ?_, fun k hk => ⟨?_, fun S' hS' => ?_⟩⟩ (fun a j q1 q2 => ?_)
    · simp only [← g3] at hj ⊢
      rw [List.length_cons] at hj
      cases j with
      | zero =>
        show rM _ (216 + 108 * (p1.length + 1 - 1 - 0)) S
        have : p1.length + 1 - 1 - 0 = p1.length := by omega
        rw [this]
        exact rM_out (rM_copy hB hM hr1 hc) hB hM (fun i _ _ => xup_o (by omega))
      | succ j =>
        show rM _ (216 + 108 * (p1.length + 1 - 1 - (j + 1))) p1[j]
        have hj2 : j < p1.length := by omega
        have e9 : p1.length + 1 - 1 - (j + 1) = p1.length - 1 - j := by omega
        rw [e9]
        have hsj := hw1 _ (List.getElem_mem hj2)
        exact rM_out (g2 j hj2) hsj.1 hsj.2.1 (fun i q1 q2 => by rw [xup_o (by omega)]; exact hs 112 i (by omega))
    · rw [xup_o (by omega), hs 113 k (by omega), g4 113 k (by omega) (by omega)]
      exact (h3 k hk).1
    · have hsk := hk2 k S' hk hS'
      exact rM_out ((h3 k hk).2 S' hS') hsk.1 hsk.2.1 (fun i q1 q2 => by rw [xup_o (by omega), hs 112 i (by omega)]; exact g4 112 i (by omega) (by omega))
    · rw [xup_o (by omega), hs a j (by omega)]
      exact g4 a j q1 q2
  refine xi_neN past.length 8 rfl rfl h1 rfl (by omega) (by omega) (fun h => ?_) (fun h => ?_)
  · refine fin past D none (by omega) hw h1 h2 ?_ (fun _ _ _ _ => rfl)
    rw [List.take_of_length_le (by rw [List.length_cons]; omega)]
  · -- eight: the oldest goes
    refine x_to 11 rfl ?_
    have loop : ∀ (f i : Nat) (D1 : xM), i + f = 756 → (∀ j, j < i → D1 112 (216 + j) = D 112 (324 + j)) → (∀ a j, ¬ (a = 112 ∧ 216 ≤ j ∧ j < 216 + i) → D1 a j = D a j) → xW Γ (n + 2) hX9_keepPast rX9_keepPast 11 [some (xR 0 9 111), some (xI (nI i))] [] D1 post := by
      intro f
      induction f with
      | zero =>
        intro i D1 hi g1 g2
        obtain rfl : i = 756 := by omega
        refine xi_geN 756 756 rfl rfl rfl rfl (by omega) (by omega) (fun _ => ?_) (fun h => absurd h (by omega))
        have eu : D1 111 1 - xnum 1 = nI 7 := by
          rw [g2 111 1 (by omega), h1, h]
          rfl
        refine x_to 54 rfl ?_
        rw [eu]
        refine x_drop 1 (fin (past.take 7) (xup D1 111 1 (nI 7)) none (by rw [List.length_take]; omega) (fun S' hS' => hw S' (List.mem_of_mem_take hS')) ?_ (fun j hj => ?_) ?_ (fun a j q1 q2 => ?_))
        · rw [xup_at, List.length_take]
          exact congrArg nI (by omega)
        · rw [List.length_take] at hj
          have hj2 : j < past.length := by omega
          have hsj := hw _ (List.getElem_mem hj2)
          have e7 : (past.take 7).length = 7 := by rw [List.length_take]; omega
          rw [e7, List.getElem_take]
          have h2j := h2 j hj2
          rw [h] at h2j
          have hc : ∀ i, i < 108 → xup D1 111 1 (nI 7) 112 (216 + 108 * (7 - 1 - j) + i) = D 112 (216 + 108 * (8 - 1 - j) + i) := by
            intro i hi
            rw [xup_o (by omega)]
            have := g1 (108 * (7 - 1 - j) + i) (by omega)
            have q1 : 216 + (108 * (7 - 1 - j) + i) = 216 + 108 * (7 - 1 - j) + i := by omega
            have q2 : 324 + (108 * (7 - 1 - j) + i) = 216 + 108 * (8 - 1 - j) + i := by omega
            rw [q1, q2] at this
            exact this
          exact rM_copy hsj.1 hsj.2.1 h2j hc
        · rw [List.take_succ_cons]
        · rw [xup_o (by omega)]
          exact g2 a j (by omega)
      | succ f ih =>
        intro i D1 hi g1 g2
        refine xi_geN i 756 rfl rfl rfl rfl (by omega) (by omega) (fun h => absurd h (by omega)) (fun h => ?_)
        refine x_aldN (324 + i) rfl rfl (nI_add 324 i) (by omega) rfl ?_
        refine x_astN (216 + i) rfl rfl (nI_add 216 i) (by omega) rfl ?_
        have IH := ih (i + 1) (xup D1 112 (216 + i) (D1 112 (324 + i))) (by omega) (fun j hj => by
          by_cases e : j = i
          · subst e
            rw [xup_at]
            exact g2 112 (324 + j) (by omega)
          · rw [xup_o (by omega)]
            exact g1 j (by omega)) (fun a j q => by rw [xup_o (by omega)]; exact g2 a j (by omega))
        rw [← nI_1] at IH
        exact x_goto rfl rfl IH
    exact loop 756 0 D rfl (fun j hj => absurd hj (by omega)) (fun _ _ _ => rfl)
end HI
end
section
/-! ===== the two sides' relations to the state ===== -/
def tgScan (l : List Nat) : Nat → Nat → Nat → Nat
  | 0, p, _ => p
  | f + 1, p, d => if l.getD p 0 = 41 then (if d = 0 then p else tgScan l f (p + 1) (d - 1)) else if l.getD p 0 = 40 then tgScan l f (p + 1) (d + 1) else tgScan l f (p + 1) d
/-- where an opening sign is closed -/
def tgc (l : List Nat) (j : Nat) : Nat := tgScan l 210 (j + 1) 0
/-- the opening sign that a place lies behind -/
def tgOpen (l : List Nat) : Nat → Nat → Nat
  | 0, _ => 0
  | p + 1, d => if l.getD p 0 = 40 then (if d = 0 then p else tgOpen l p (d - 1)) else if l.getD p 0 = 41 then tgOpen l p (d + 1) else tgOpen l p d
def tgb (l : List Nat) : Nat → Nat
  | 0 => 0
  | k + 1 => if l.getD (k + 1) 0 = 41 then tgOpen l (k + 1) 0 else if l.getD (k + 1) 0 = 124 then tgOpen l (k + 1) 0 else if l.getD (k + 1) 0 = 42 then tgb l k else k + 1
def cTg (D : xM) (tg : List Nat) : Prop := D 10 5 = nI tg.length ∧ rL D 11 tg ∧ ∀ j, j < tg.length → tg.getD j 0 = 40 → D 12 j = nI (tgc tg j)
def mTg (D : xM) (tg : List Nat) : Prop := D 111 9 = nI (if tg.length = 0 then 0 else tg.length + 2) ∧ (tg.length ≠ 0 → rL D 118 (40 :: (tg ++ [41])) ∧ ∀ k, k < tg.length + 2 → D 120 k = nI (tgb (40 :: (tg ++ [41])) k) ∧ ((40 :: (tg ++ [41])).getD k 0 = 40 → D 119 k = nI (tgc (40 :: (tg ++ [41])) k)))
theorem cTg_out {D D' : xM} {tg : List Nat} (h : cTg D tg) (e1 : D' 10 5 = D 10 5) (e2 : D' 11 = D 11) (e3 : D' 12 = D 12) : cTg D' tg := ⟨by rw [e1]; exact h.1, rL_out h.2.1 e2, by rw [e3]; exact h.2.2⟩
theorem mTg_out {D D' : xM} {tg : List Nat} (h : mTg D tg) (e1 : D' 111 9 = D 111 9) (e2 : D' 118 = D 118) (e3 : D' 119 = D 119) (e4 : D' 120 = D 120) : mTg D' tg := ⟨by rw [e1]; exact h.1, fun hn => ⟨rL_out (h.2 hn).1 e2, by rw [e3, e4]; exact (h.2 hn).2⟩⟩
def RelC (D : xM) (G : gS) : Prop := rW D 15 G.told ∧ rW D 21 G.now ∧ cTx D G.tx ∧ cHi D G.past G.kept ∧ cSe D G.seen ∧ cRe D G.reel ∧ cTg D G.tg
/-- behind the told birds nothing is known -/
def mZ (D : xM) (S : wS) : Prop := ∀ b k, S.B ≤ b → b < 8 → k < 10 → D 112 (108 + 20 + (b * 10 + k)) = 0
def RelM (D : xM) (G : gS) : Prop := (rM D 108 G.told ∧ mZ D G.told) ∧ rM D 0 G.now ∧ mTx D G.tx ∧ mHi D G.past G.kept ∧ mSe D G.seen ∧ mRe D G.reel ∧ mTg D G.tg ∧ mSp D
theorem RelC_out {D D' : xM} {G : gS} (h : RelC D G) (e : ∀ a, (a < 27 ∨ 35 < a) → a ≠ 110 → D' a = D a) : RelC D' G := by
  obtain ⟨h1, h2, h3, h4, h5, h6, h7⟩ := h
  exact ⟨rW_out h1 (fun a ha hb => e a (by omega) (by omega)), rW_out h2 (fun a ha hb => e a (by omega) (by omega)), cTx_out h3 (by rw [e 1 (by omega) (by omega)]) (e 2 (by omega) (by omega)), cHi_out h4 (fun a ha hb => e a (by omega) (by omega)), cSe_out h5 (fun a ha hb => e a (by omega) (by omega)), cRe_out h6 (fun a ha hb => e a (by omega) (by omega)), cTg_out h7 (by rw [e 10 (by omega) (by omega)]) (e 11 (by omega) (by omega)) (e 12 (by omega) (by omega))⟩
/-- the other side is left alone -/
theorem RelC_far {D D' : xM} {G : gS} (h : RelC D G) (e : ∀ a, a < 111 → D' a = D a) : RelC D' G := by
  obtain ⟨h1, h2, h3, h4, h5, h6, h7⟩ := h
  exact ⟨rW_out h1 (fun a ha hb => e a (by omega)), rW_out h2 (fun a ha hb => e a (by omega)), cTx_out h3 (by rw [e 1 (by omega)]) (e 2 (by omega)), cHi_out h4 (fun a ha hb => e a (by omega)), cSe_out h5 (fun a ha hb => e a (by omega)), cRe_out h6 (fun a ha hb => e a (by omega)), cTg_out h7 (by rw [e 10 (by omega)]) (e 11 (by omega)) (e 12 (by omega))⟩
theorem mSe_out {D D' : xM} {seen : List (Nat × Nat × Option Nat)} (h : mSe D seen) (e0 : D' 111 5 = D 111 5) (e : ∀ a, 115 ≤ a → a ≤ 117 → D' a = D a) : mSe D' seen := by
  rw [mSe, e0, e 115 (by omega) (by omega), e 116 (by omega) (by omega), e 117 (by omega) (by omega)]
  exact h
theorem mRe_out {D D' : xM} {reel : Nat → Option (Nat × Nat × (Nat → Int32))} (h : mRe D reel) (e : ∀ a, 121 ≤ a → a ≤ 123 → D' a = D a) : mRe D' reel := by
  intro r hr
  have h1 := h r hr
  rw [e 121 (by omega) (by omega), e 122 (by omega) (by omega), e 123 (by omega) (by omega)]
  exact h1
theorem mTx_out {D D' : xM} {tx : List Nat} (h : mTx D tx) (e1 : D' 111 4 = D 111 4) (e2 : D' 114 = D 114) : mTx D' tx := ⟨by rw [e1]; exact h.1, rL_out h.2 e2⟩
theorem mZ_out {D D' : xM} {S : wS} (h : mZ D S) (e : ∀ j, 108 ≤ j → j < 216 → D' 112 j = D 112 j) : mZ D' S := fun b k hb hb8 hk => by
  rw [e _ (by omega) (by omega)]
  exact h b k hb hb8 hk
theorem mSp_out {D D' : xM} (h : mSp D) (e1 : D' 138 = D 138) (e2 : D' 139 = D 139) : mSp D' := by
  obtain ⟨sp, h1, h2⟩ := h
  exact ⟨sp, rP_out h1 e1 e2, h2⟩
theorem RelM_out {D D' : xM} {G : gS} (h : RelM D G) (hg : gok G) (e : ∀ a j, ¬ (a = 112 ∧ 1296 ≤ j) → a ≠ 138 → a ≠ 139 → (a = 111 ∨ (112 ≤ a ∧ a ≤ 123)) → D' a j = D a j) (hs : mSp D') : RelM D' G := by
  obtain ⟨⟨h1, h1z⟩, h2, h3, h4, h5, h6, h7, h8⟩ := h
  obtain ⟨g1, g2, g3, g4, g5, g6, g7⟩ := hg
  have ef : ∀ a, 113 ≤ a → a ≤ 123 → D' a = D a := fun a ha hb => funext fun j => e a j (by omega) (by omega) (by omega) (by omega)
  exact ⟨⟨rM_out h1 g2.1 g2.2.1 (fun j _ _ => e 112 j (by omega) (by omega) (by omega) (by omega)), mZ_out h1z (fun j _ _ => e 112 j (by omega) (by omega) (by omega) (by omega))⟩, rM_out h2 g3.1.1 g3.1.2.1 (fun j _ _ => e 112 j (by omega) (by omega) (by omega) (by omega)), mTx_out h3 (e 111 4 (by omega) (by omega) (by omega) (by omega)) (ef 114 (by omega) (by omega)), mHi_out h4 g4.1 (fun S hS => (g4.2 S hS).1) (fun k S hk hS => (g5 k S hk hS).1) (e 111 1 (by omega) (by omega) (by omega) (by omega)) (fun j _ _ => e 112 j (by omega) (by omega) (by omega) (by omega)) (ef 113 (by omega) (by omega)), mSe_out h5 (e 111 5 (by omega) (by omega) (by omega) (by omega)) (fun a ha hb => ef a (by omega) (by omega)), mRe_out h6 (fun a ha hb => ef a (by omega) (by omega)), mTg_out h7 (e 111 9 (by omega) (by omega) (by omega) (by omega)) (ef 118 (by omega) (by omega)) (ef 119 (by omega) (by omega)) (ef 120 (by omega) (by omega)), hs⟩
theorem RelM_far {D D' : xM} {G : gS} (h : RelM D G) (hg : gok G) (e : ∀ a, 111 ≤ a → D' a = D a) : RelM D' G :=
  RelM_out h hg (fun a j _ _ _ h4 => by rw [e a (by omega)]) (mSp_out h.2.2.2.2.2.2.2 (e 138 (by omega)) (e 139 (by omega)))
/-! ===== calls: write, erase, bird, man, as ===== -/
def aWrite (G : gS) (x : Int32) : Int32 × gS := match gI x 0 255 with
  | none => (-3, G)
  | some c => if 200 ≤ G.tx.length then (-5, G) else (nI (G.tx.length + 1), gmk (G.tx ++ [c]) G.tg G.told G.now G.past G.kept G.seen G.reel)
def aErase (G : gS) : Int32 × gS := (nI G.tx.length, gmk [] G.tg G.told G.now G.past G.kept G.seen G.reel)
def aBird (G : gS) (x y : Int32) : Int32 := match gI x 0 ((G.now.B : Int) - 1) with
  | none => -2
  | some b => match gI y 0 4 with
    | none => -3
    | some 0 => nI (G.now.kd b)
    | some 1 => nI (G.now.pe b)
    | some 2 => if G.now.C.testBit b then 1 else 0
    | some 3 => xby (wBy G.now b)
    | some _ => nI (wWell G.now b)
def aMan (G : gS) (x y : Int32) : Int32 := match gI x 0 ((G.now.M : Int) - 1) with
  | none => -2
  | some m => match gI y 0 1 with
    | none => -3
    | some 0 => nI (G.now.ha m)
    | some _ => xby (G.now.bi m)
section A1
variable {Γ : xG} {n : Nat} {D : xM} {post : Option Int32 → xM → Prop} {G : gS}
theorem c_txAdd {c : Nat} (h : cTx D G.tx) (hl : G.tx.length < 200) (hp : post none (xup (xup D 2 G.tx.length (nI c)) 1 1 (nI (G.tx.length + 1)))) : xRuns Γ n hX5_add [xR 0 5 1, xI (nI c)] D post := by
  refine x_runs kX5_add (by decide +kernel) rfl ?_
  refine x_astN G.tx.length rfl rfl h.1 hl rfl ?_
  refine x_vret rfl rfl rfl ?_
  have e : xup D 2 G.tx.length (nI c) 1 1 + xnum 1 = nI (G.tx.length + 1) := by
    rw [xup_o (by omega), h.1]
    exact nI_1 _
  rw [e]
  exact hp
theorem a_write {x : Int32} (h : RelC D G) (hg : gok G) (hp : ∀ D', RelC D' (aWrite G x).2 → (∀ a, 111 ≤ a → D' a = D a) → post (some (aWrite G x).1) D') : xRuns Γ (n + 2) hX8_write [xR 0 8 0, xI x] D post := by
  have hl := hg.1.1
  refine x_runs kX8_write (by decide +kernel) rfl ?_
  refine x_scall [xI x, xI (nI 0), xI (nI 255)] rfl rfl rfl rfl rfl rfl rfl (c_isNot (lo := 0) (hi := 255) (by decide) (by decide) ?_)
  rw [aWrite] at hp
  cases hx : gI x 0 255 with
  | none =>
    rw [hx] at hp
    refine x0_eq rfl rfl (fun h => absurd h (by decide)) (fun _ => ?_)
    exact x_ret rfl rfl rfl rfl (hp D h (fun _ _ => rfl))
  | some c =>
    rw [hx] at hp
    dsimp only at hp
    obtain ⟨e1, e2, e3, e4⟩ := gI_some (by decide) hx
    refine x0_eq rfl rfl (fun _ => ?_) (fun h => absurd rfl h)
    refine xi_ltN G.tx.length 200 rfl rfl h.2.2.1.1 rfl (by omega) (by omega) (fun h2 => ?_) (fun h2 => ?_)
    · rw [if_neg (by omega)] at hp
      subst e1
      refine x_call [xI (nI c)] rfl rfl rfl rfl rfl rfl rfl (c_txAdd h.2.2.1 h2 ?_)
      refine x_ret rfl rfl rfl rfl ?_
      rw [xup_at]
      have ea : ∀ a, a ≠ 1 → a ≠ 2 → xup (xup D 2 G.tx.length (nI c)) 1 1 (nI (G.tx.length + 1)) a = D a := fun a q1 q2 => by rw [xup_ne a q1, xup_ne a q2]
      refine hp _ ?_ (fun a ha => ea a (by omega) (by omega))
      obtain ⟨h1, h2, h3, h4, h5, h6, h7⟩ := h
      exact ⟨rW_out h1 (fun a ha hb => ea a (by omega) (by omega)), rW_out h2 (fun a ha hb => ea a (by omega) (by omega)), ⟨by rw [xup_at]; show nI _ = nI (G.tx ++ [c]).length; rw [List.length_append]; rfl, rL_out (rL_add h3.2) (xup_ne 2 (by omega))⟩, cHi_out h4 (fun a ha hb => ea a (by omega) (by omega)), cSe_out h5 (fun a ha hb => ea a (by omega) (by omega)), cRe_out h6 (fun a ha hb => ea a (by omega) (by omega)), cTg_out h7 (by rw [ea 10 (by omega) (by omega)]) (ea 11 (by omega) (by omega)) (ea 12 (by omega) (by omega))⟩
    · rw [if_pos (by omega)] at hp
      exact x_ret rfl rfl rfl rfl (hp D h (fun _ _ => rfl))
theorem am_write {x : Int32} (h : RelM D G) (hg : gok G) (hp : ∀ D', RelM D' (aWrite G x).2 → (∀ a, a < 111 → D' a = D a) → post (some (aWrite G x).1) D') : xRuns Γ (n + 1) hX9_write [xR 0 9 111, xI x] D post := by
  have hl := hg.1.1
  refine x_runs kX9_write (by decide +kernel) rfl ?_
  refine x_scall [xL x.toInt64, xL (Int64.ofNat 0), xL (Int64.ofNat 255)] rfl rfl rfl rfl rfl rfl rfl (c_inI (lo := 0) (hi := 255) (by decide) (by decide) ?_)
  rw [aWrite] at hp
  cases hx : gI x 0 255 with
  | none =>
    rw [hx] at hp
    refine x0_ne rfl rfl (fun h => absurd rfl h) (fun _ => ?_)
    exact x_ret rfl rfl rfl rfl (hp D h (fun _ _ => rfl))
  | some c =>
    rw [hx] at hp
    dsimp only at hp
    obtain ⟨e1, e2, e3, e4⟩ := gI_some (by decide) hx
    refine x0_ne rfl rfl (fun _ => ?_) (fun h => absurd h (by simp))
    refine xi_neN G.tx.length 200 rfl rfl h.2.2.1.1 rfl (by omega) (by omega) (fun h2 => ?_) (fun h2 => ?_)
    · rw [if_neg (by omega)] at hp
      subst e1
      refine x_astN G.tx.length rfl rfl h.2.2.1.1 (by omega) rfl ?_
      refine x_ret rfl rfl rfl rfl ?_
      have e : xup D 114 G.tx.length (nI c) 111 4 + xnum 1 = nI (G.tx.length + 1) := by
        rw [xup_o (by omega), h.2.2.1.1]
        exact nI_1 _
      rw [xup_at, e]
      have ea : ∀ a j, ¬ (a = 111 ∧ j = 4) → a ≠ 114 → xup (xup D 114 G.tx.length (nI c)) 111 4 (nI (G.tx.length + 1)) a j = D a j := fun a j q1 q2 => by rw [xup_o (by omega), xup_o (by omega)]
      have ef : ∀ a, a ≠ 111 → a ≠ 114 → xup (xup D 114 G.tx.length (nI c)) 111 4 (nI (G.tx.length + 1)) a = D a := fun a q1 q2 => funext fun j => ea a j (by omega) q2
      refine hp _ ?_ (fun a ha => ef a (by omega) (by omega))
      obtain ⟨⟨h1, h1z⟩, h2, h3, h4, h5, h6, h7, h8⟩ := h
      obtain ⟨g1, g2, g3, g4, g5, g6, g7⟩ := hg
      have e112 := ef 112 (by omega) (by omega)
      exact ⟨⟨rM_out h1 g2.1 g2.2.1 (fun j _ _ => by rw [e112]), mZ_out h1z (fun j _ _ => by rw [e112])⟩, rM_out h2 g3.1.1 g3.1.2.1 (fun j _ _ => by rw [e112]), ⟨by rw [xup_at]; show nI _ = nI (G.tx ++ [c]).length; rw [List.length_append]; rfl, rL_out (rL_add h3.2) (xup_ne 114 (by omega))⟩, mHi_out h4 g4.1 (fun S hS => (g4.2 S hS).1) (fun k S hk hS => (g5 k S hk hS).1) (ea 111 1 (by omega) (by omega)) (fun j _ _ => by rw [e112]) (ef 113 (by omega) (by omega)), mSe_out h5 (ea 111 5 (by omega) (by omega)) (fun a ha hb => ef a (by omega) (by omega)), mRe_out h6 (fun a ha hb => ef a (by omega) (by omega)), mTg_out h7 (ea 111 9 (by omega) (by omega)) (ef 118 (by omega) (by omega)) (ef 119 (by omega) (by omega)) (ef 120 (by omega) (by omega)), mSp_out h8 (ef 138 (by omega) (by omega)) (ef 139 (by omega) (by omega))⟩
    · rw [if_pos (by omega)] at hp
      exact x_ret rfl rfl rfl rfl (hp D h (fun _ _ => rfl))
theorem g_write {x : Int32} (hg : gok G) : gok (aWrite G x).2 := by
  rw [aWrite]
  split
  · exact hg
  · rename_i c hx
    obtain ⟨e1, e2, e3, e4⟩ := gI_some (by decide) hx
    split
    · exact hg
    · refine ⟨⟨by show (G.tx ++ [c]).length ≤ 200; rw [List.length_append]; simp; omega, fun d hd => ?_⟩, hg.2⟩
      rcases List.mem_append.mp hd with q | q
      · exact hg.1.2 d q
      · rw [List.mem_singleton.mp q]; omega
theorem a_erase (h : RelC D G) (hg : gok G) (hp : ∀ D', RelC D' (aErase G).2 → (∀ a, 111 ≤ a → D' a = D a) → post (some (aErase G).1) D') : xRuns Γ (n + 1) hX8_erase [xR 0 8 0] D post := by
  refine x_runs kX8_erase (by decide +kernel) rfl ?_
  refine x_call [] rfl rfl rfl rfl rfl rfl rfl ?_
  refine x_runs kX5_clear (by decide +kernel) rfl ?_
  refine x_vret rfl rfl rfl ?_
  refine x_ret rfl rfl rfl rfl ?_
  rw [h.2.2.1.1]
  have ea : ∀ a, a ≠ 1 → xup D 1 1 (xnum 0) a = D a := fun a q => xup_ne a q
  refine hp _ ?_ (fun a ha => ea a (by omega))
  obtain ⟨h1, h2, h3, h4, h5, h6, h7⟩ := h
  exact ⟨rW_out h1 (fun a ha hb => ea a (by omega)), rW_out h2 (fun a ha hb => ea a (by omega)), ⟨by rw [xup_at]; rfl, fun j hj => absurd hj (Nat.not_lt_zero j)⟩, cHi_out h4 (fun a ha hb => ea a (by omega)), cSe_out h5 (fun a ha hb => ea a (by omega)), cRe_out h6 (fun a ha hb => ea a (by omega)), cTg_out h7 (by rw [ea 10 (by omega)]) (ea 11 (by omega)) (ea 12 (by omega))⟩
theorem a_bird {x y : Int32} (h : RelC D G) (hg : gok G) (hp : post (some (aBird G x y)) D) : xRuns Γ (n + 2) hX8_bird [xR 0 8 0, xI x, xI y] D post := by
  have ho := hg.2.2.1.1
  have h8 := ho.1
  have hr := h.2.1
  refine x_runs kX8_bird (by decide +kernel) rfl ?_
  refine x_call [xI x] rfl rfl rfl rfl rfl rfl rfl (c_noBird hr ho ?_)
  rw [aBird] at hp
  cases hx : gI x 0 ((G.now.B : Int) - 1) with
  | none =>
    rw [hx] at hp
    refine x0_eq rfl rfl (fun h => absurd h (by decide)) (fun _ => ?_)
    exact x_ret rfl rfl rfl rfl hp
  | some b =>
    rw [hx] at hp
    dsimp only at hp
    obtain ⟨e1, e2, e3, e4⟩ := gI_some (by decide) hx
    subst e1
    have hb : b < G.now.B := by omega
    refine x0_eq rfl rfl (fun _ => ?_) (fun h => absurd rfl h)
    cases hy : gI y 0 4 with
    | none =>
      rw [hy] at hp
      have := gI_none hy
      refine x_tout (tgt := 103) rfl rfl this (by decide) ?_
      exact x_ret rfl rfl rfl rfl hp
    | some k =>
      rw [hy] at hp
      obtain ⟨f1, f2, f3, f4⟩ := gI_some (by decide) hy
      subst f1
      match k, f3 with
      | 0, _ =>
        refine x_tin (tgt := 48) (off := 36) rfl rfl (by decide) (by decide) (by decide) (by decide) ?_
        refine x_aldN b rfl rfl rfl (by omega) rfl ?_
        refine x_ret rfl rfl rfl rfl ?_
        rw [hr.2.2.2.2.1 b hb]
        exact hp
      | 1, _ =>
        refine x_tin (tgt := 58) (off := 46) rfl rfl (by decide) (by decide) (by decide) (by decide) ?_
        refine x_aldN b rfl rfl rfl (by omega) rfl ?_
        refine x_ret rfl rfl rfl rfl ?_
        rw [hr.2.2.2.2.2.1 b hb]
        exact hp
      | 2, _ =>
        refine x_tin (tgt := 68) (off := 56) rfl rfl (by decide) (by decide) (by decide) (by decide) ?_
        refine x_call [xI (nI b)] rfl rfl rfl rfl rfl rfl rfl (c_isCovered hr ho (by omega) ?_)
        cases hc : G.now.C.testBit b with
        | true =>
          rw [hc] at hp
          exact x0_eq rfl rfl (fun h => absurd h (by decide)) (fun _ => x_goto rfl rfl (x_ret rfl rfl rfl rfl hp))
        | false =>
          rw [hc] at hp
          exact x0_eq rfl rfl (fun _ => x_ret rfl rfl rfl rfl hp) (fun h => absurd rfl h)
      | 3, _ =>
        refine x_tin (tgt := 85) (off := 73) rfl rfl (by decide) (by decide) (by decide) (by decide) ?_
        refine x_call [xI (nI b)] rfl rfl rfl rfl rfl rfl rfl (c_manBeside hr ho (by omega) ?_)
        exact x_ret rfl rfl rfl rfl hp
      | 4, _ =>
        refine x_tin (tgt := 94) (off := 82) rfl rfl (by decide) (by decide) (by decide) (by decide) ?_
        refine x_call [xI (nI b)] rfl rfl rfl rfl rfl rfl rfl (c_wellKnown hr ho hb ?_)
        exact x_ret rfl rfl rfl rfl hp
      | k + 5, h => exact absurd h (by omega)
end A1
end
section
/-! ===== calls: erase, bird, man, as, known ===== -/
def asOK (own k : Nat) : Bool := decide (k = 0 ∨ k = own + 1 ∨ (k = 1 ∧ own < 3) ∨ (k = 4 ∧ own = 4))
def aAs (G : gS) (x y : Int32) : Int32 := match gI x 0 ((G.now.B : Int) - 1) with
  | none => -2
  | some b => match gI y 0 5 with
    | none => -3
    | some k => if asOK (G.now.kd b) k then nI (wGets (G.now.kd b)) else -4
def aKnown (G : gS) (x y z : Int32) : Int32 := match gI x 0 ((G.now.B : Int) - 1) with
  | none => -2
  | some b => match gI y 0 9 with
    | none => -2
    | some k => match gI z 0 60 with
      | none => -3
      | some e => nI ((wPassN G.now e).K b k)
theorem as_tab : ∀ own, own < 5 → ∀ k, k < 6 → ((xtv 5 own >>> (nI k &&& 31)) &&& nI 1 = 0 ↔ asOK own k = false) := by decide +kernel
section A2
variable {Γ : xG} {n : Nat} {D : xM} {post : Option Int32 → xM → Prop} {G : gS}
theorem am_erase (h : RelM D G) (hg : gok G) (hp : ∀ D', RelM D' (aErase G).2 → (∀ a, a < 111 → D' a = D a) → post (some (aErase G).1) D') : xRuns Γ n hX9_erase [xR 0 9 111] D post := by
  refine x_runs kX9_erase (by decide +kernel) rfl ?_
  refine x_ret rfl rfl rfl rfl ?_
  rw [h.2.2.1.1]
  have ea : ∀ a j, ¬ (a = 111 ∧ j = 4) → xup D 111 4 (xnum 0) a j = D a j := fun a j q => xup_o q
  have ef : ∀ a, a ≠ 111 → xup D 111 4 (xnum 0) a = D a := fun a q => xup_ne a q
  refine hp _ ?_ (fun a ha => ef a (by omega))
  obtain ⟨⟨h1, h1z⟩, h2, h3, h4, h5, h6, h7, h8⟩ := h
  obtain ⟨g1, g2, g3, g4, g5, g6, g7⟩ := hg
  have e112 := ef 112 (by omega)
  exact ⟨⟨rM_out h1 g2.1 g2.2.1 (fun j _ _ => by rw [e112]), mZ_out h1z (fun j _ _ => by rw [e112])⟩, rM_out h2 g3.1.1 g3.1.2.1 (fun j _ _ => by rw [e112]), ⟨by rw [xup_at]; rfl, fun j hj => absurd hj (Nat.not_lt_zero j)⟩, mHi_out h4 g4.1 (fun S hS => (g4.2 S hS).1) (fun k S hk hS => (g5 k S hk hS).1) (ea 111 1 (by omega)) (fun j _ _ => by rw [e112]) (ef 113 (by omega)), mSe_out h5 (ea 111 5 (by omega)) (fun a ha hb => ef a (by omega)), mRe_out h6 (fun a ha hb => ef a (by omega)), mTg_out h7 (ea 111 9 (by omega)) (ef 118 (by omega)) (ef 119 (by omega)) (ef 120 (by omega)), mSp_out h8 (ef 138 (by omega)) (ef 139 (by omega))⟩
theorem g_erase (hg : gok G) : gok (aErase G).2 := ⟨⟨Nat.zero_le _, fun c hc => absurd hc (by intro z; cases z)⟩, hg.2⟩
theorem am_bird {x y : Int32} (h : RelM D G) (hg : gok G) (hp : post (some (aBird G x y)) D) : xRuns Γ (n + 2) hX9_bird [xR 0 9 111, xI x, xI y] D post := by
  have ho := hg.2.2.1.1
  have h8 := ho.1
  have hr := h.2.1
  have hc := ho.2.2.2.1
  refine x_runs kX9_bird (by decide +kernel) rfl ?_
  refine x_call [xI x] rfl rfl rfl rfl rfl rfl rfl (c_isBird hr ho ?_)
  rw [aBird] at hp
  cases hx : gI x 0 ((G.now.B : Int) - 1) with
  | none =>
    rw [hx] at hp
    refine x0_ne rfl rfl (fun h => absurd rfl h) (fun _ => ?_)
    exact x_ret rfl rfl rfl rfl hp
  | some b =>
    rw [hx] at hp
    dsimp only at hp
    obtain ⟨e1, e2, e3, e4⟩ := gI_some (by decide) hx
    subst e1
    have hb : b < G.now.B := by omega
    refine x0_ne rfl rfl (fun _ => ?_) (fun h => absurd h (by simp))
    cases hy : gI y 0 4 with
    | none =>
      rw [hy] at hp
      have := gI_none hy
      refine x_tout (tgt := 92) rfl rfl this (by decide) ?_
      exact x_ret rfl rfl rfl rfl hp
    | some k =>
      rw [hy] at hp
      obtain ⟨f1, f2, f3, f4⟩ := gI_some (by decide) hy
      subst f1
      match k, f3 with
      | 0, _ =>
        refine x_tin (tgt := 48) (off := 36) rfl rfl (by decide) (by decide) (by decide) (by decide) ?_
        refine x_aldN (0 + 4 + b) rfl rfl (by rw [Nat.zero_add]; exact nI_add 4 b) (by omega) rfl ?_
        refine x_ret rfl rfl rfl rfl ?_
        rw [hr.2.2.2.2.1 b hb]
        exact hp
      | 1, _ =>
        refine x_tin (tgt := 57) (off := 45) rfl rfl (by decide) (by decide) (by decide) (by decide) ?_
        refine x_aldN (0 + 12 + b) rfl rfl (by rw [Nat.zero_add]; exact nI_add 12 b) (by omega) rfl ?_
        refine x_ret rfl rfl rfl rfl ?_
        rw [hr.2.2.2.2.2.1 b hb]
        exact hp
      | 2, _ =>
        refine x_tin (tgt := 67) (off := 55) rfl rfl (by decide) (by decide) (by decide) (by decide) ?_
        refine x_aldN (0 + 3) rfl rfl rfl (by omega) rfl ?_
        refine x_ret rfl rfl rfl rfl ?_
        rw [hr.2.2.2.1]
        have e : (nI G.now.C >>> (nI b &&& 31)) &&& xnum 1 = nI (G.now.C / 2 ^ b % 2) := xb_bit (by omega) (by omega)
        rw [e]
        cases hc : G.now.C.testBit b with
        | true =>
          rw [hc] at hp
          rw [(xb_tb _ _).mpr hc]
          exact hp
        | false =>
          rw [hc] at hp
          have q : ¬ G.now.C / 2 ^ b % 2 = 1 := fun z => by rw [(xb_tb _ _).mp z] at hc; cases hc
          have : G.now.C / 2 ^ b % 2 = 0 := by omega
          rw [this]
          exact hp
      | 3, _ =>
        refine x_tin (tgt := 78) (off := 66) rfl rfl (by decide) (by decide) (by decide) (by decide) ?_
        refine x_call [xI (nI 0), xI (nI b)] rfl rfl rfl rfl rfl rfl rfl (c_manOf hr ho (by omega) (by omega) ?_)
        exact x_ret rfl rfl rfl rfl hp
      | 4, _ =>
        refine x_tin (tgt := 85) (off := 73) rfl rfl (by decide) (by decide) (by decide) (by decide) ?_
        refine x_call [xI (nI 0), xI (nI b)] rfl rfl rfl rfl rfl rfl rfl (c_mwell hr ho (by omega) hb ?_)
        exact x_ret rfl rfl rfl rfl hp
      | k + 5, h => exact absurd h (by omega)
theorem a_man {x y : Int32} (h : RelC D G) (hg : gok G) (hp : post (some (aMan G x y)) D) : xRuns Γ (n + 2) hX8_man [xR 0 8 0, xI x, xI y] D post := by
  have ho := hg.2.2.1.1
  have h4 := ho.2.1
  have hr := h.2.1
  refine x_runs kX8_man (by decide +kernel) rfl ?_
  refine x_call [xI x] rfl rfl rfl rfl rfl rfl rfl (c_noMan hr ho ?_)
  rw [aMan] at hp
  cases hx : gI x 0 ((G.now.M : Int) - 1) with
  | none =>
    rw [hx] at hp
    refine x0_eq rfl rfl (fun h => absurd h (by decide)) (fun _ => ?_)
    exact x_ret rfl rfl rfl rfl hp
  | some m =>
    rw [hx] at hp
    dsimp only at hp
    obtain ⟨e1, e2, e3, e4⟩ := gI_some (by decide) hx
    subst e1
    have hm : m < G.now.M := by omega
    refine x0_eq rfl rfl (fun _ => ?_) (fun h => absurd rfl h)
    refine x_scall [xI y, xI (nI 0), xI (nI 1)] rfl rfl rfl rfl rfl rfl rfl (c_isNot (lo := 0) (hi := 1) (by decide) (by decide) ?_)
    cases hy : gI y 0 1 with
    | none =>
      rw [hy] at hp
      refine x0_eq rfl rfl (fun h => absurd h (by decide)) (fun _ => ?_)
      exact x_ret rfl rfl rfl rfl hp
    | some k =>
      rw [hy] at hp
      obtain ⟨f1, f2, f3, f4⟩ := gI_some (by decide) hy
      subst f1
      refine x0_eq rfl rfl (fun _ => ?_) (fun h => absurd rfl h)
      match k, f3 with
      | 0, _ =>
        refine x0_ne rfl rfl (fun h => absurd rfl h) (fun _ => ?_)
        refine x_aldN m rfl rfl rfl (by omega) rfl ?_
        refine x_goto rfl rfl (x_ret rfl rfl rfl rfl ?_)
        rw [hr.2.2.2.2.2.2.2.1 m hm]
        exact hp
      | 1, _ =>
        refine x0_ne rfl rfl (fun _ => ?_) (fun h => absurd h (by decide))
        refine x_aldN m rfl rfl rfl (by omega) rfl ?_
        refine x_ret rfl rfl rfl rfl ?_
        rw [hr.2.2.2.2.2.2.2.2 m hm]
        exact hp
      | k + 2, h => exact absurd h (by omega)
theorem am_man {x y : Int32} (h : RelM D G) (hg : gok G) (hp : post (some (aMan G x y)) D) : xRuns Γ (n + 2) hX9_man [xR 0 9 111, xI x, xI y] D post := by
  have ho := hg.2.2.1.1
  have h4 := ho.2.1
  have hr := h.2.1
  refine x_runs kX9_man (by decide +kernel) rfl ?_
  refine x_call [xI x] rfl rfl rfl rfl rfl rfl rfl (c_isMan hr ho ?_)
  rw [aMan] at hp
  cases hx : gI x 0 ((G.now.M : Int) - 1) with
  | none =>
    rw [hx] at hp
    refine x0_ne rfl rfl (fun h => absurd rfl h) (fun _ => ?_)
    exact x_ret rfl rfl rfl rfl hp
  | some m =>
    rw [hx] at hp
    dsimp only at hp
    obtain ⟨e1, e2, e3, e4⟩ := gI_some (by decide) hx
    subst e1
    have hm : m < G.now.M := by omega
    refine x0_ne rfl rfl (fun _ => ?_) (fun h => absurd h (by simp))
    cases hy : gI y 0 1 with
    | none =>
      rw [hy] at hp
      have hyn := gI_none hy
      refine x0_ne rfl rfl (fun _ => ?_) (fun h => ?_)
      · refine xi_ne rfl rfl (fun _ => ?_) (fun h => ?_)
        · exact x_ret rfl rfl rfl rfl hp
        · have h : y = nI 1 := h
          rw [h] at hyn
          exact absurd hyn (by decide)
      · rw [h] at hyn
        exact absurd hyn (by decide)
    | some k =>
      rw [hy] at hp
      obtain ⟨f1, f2, f3, f4⟩ := gI_some (by decide) hy
      subst f1
      match k, f3 with
      | 0, _ =>
        refine x0_ne rfl rfl (fun h => absurd rfl h) (fun _ => ?_)
        refine x_aldN (0 + 100 + m) rfl rfl (by rw [Nat.zero_add]; exact nI_add 100 m) (by omega) rfl ?_
        refine x_goto rfl rfl (x_ret rfl rfl rfl rfl ?_)
        rw [hr.2.2.2.2.2.2.2.1 m hm]
        exact hp
      | 1, _ =>
        refine x0_ne rfl rfl (fun _ => ?_) (fun h => absurd h (by decide))
        refine xi_ne rfl rfl (fun h => absurd rfl h) (fun _ => ?_)
        refine x_aldN (0 + 104 + m) rfl rfl (by rw [Nat.zero_add]; exact nI_add 104 m) (by omega) rfl ?_
        refine x_goto rfl rfl (x_ret rfl rfl rfl rfl ?_)
        rw [hr.2.2.2.2.2.2.2.2 m hm]
        exact hp
      | k + 2, h => exact absurd h (by omega)
theorem a_as {x y : Int32} (h : RelC D G) (hg : gok G) (hp : post (some (aAs G x y)) D) : xRuns Γ (n + 2) hX8_as [xR 0 8 0, xI x, xI y] D post := by
  have ho := hg.2.2.1.1
  have h8 := ho.1
  have hr := h.2.1
  refine x_runs kX8_as (by decide +kernel) rfl ?_
  refine x_call [xI x] rfl rfl rfl rfl rfl rfl rfl (c_noBird hr ho ?_)
  rw [aAs] at hp
  cases hx : gI x 0 ((G.now.B : Int) - 1) with
  | none =>
    rw [hx] at hp
    refine x0_eq rfl rfl (fun h => absurd h (by decide)) (fun _ => ?_)
    exact x_ret rfl rfl rfl rfl hp
  | some b =>
    rw [hx] at hp
    dsimp only at hp
    obtain ⟨e1, e2, e3, e4⟩ := gI_some (by decide) hx
    subst e1
    have hb : b < G.now.B := by omega
    have h5 := ho.2.2.2.2.1 b hb
    refine x0_eq rfl rfl (fun _ => ?_) (fun h => absurd rfl h)
    refine x_scall [xI y, xI (nI 0), xI (nI 5)] rfl rfl rfl rfl rfl rfl rfl (c_isNot (lo := 0) (hi := 5) (by decide) (by decide) ?_)
    cases hy : gI y 0 5 with
    | none =>
      rw [hy] at hp
      refine x0_eq rfl rfl (fun h => absurd h (by decide)) (fun _ => ?_)
      exact x_ret rfl rfl rfl rfl hp
    | some k =>
      rw [hy] at hp
      dsimp only at hp
      obtain ⟨f1, f2, f3, f4⟩ := gI_some (by decide) hy
      subst f1
      have htab := as_tab _ h5 k (by omega)
      refine x0_eq rfl rfl (fun _ => ?_) (fun h => absurd rfl h)
      refine x_aldN b rfl rfl rfl (by omega) rfl ?_
      rw [hr.2.2.2.2.1 b hb]
      refine x_tldN (G.now.kd b) rfl rfl rfl h5 ?_
      refine x0_ne rfl rfl (fun h2 => ?_) (fun h2 => ?_)
      · have e : asOK (G.now.kd b) k = true := by
          cases hq : asOK (G.now.kd b) k with
          | true => rfl
          | false => exact absurd (htab.mpr hq) h2
        rw [e, if_pos rfl] at hp
        refine x_tldN (G.now.kd b) rfl rfl rfl h5 ?_
        refine x_ret rfl rfl rfl rfl ?_
        rw [wtab2 _ h5]
        exact hp
      · have e := htab.mp h2
        rw [e, if_neg (by decide)] at hp
        exact x_ret rfl rfl rfl rfl hp
theorem am_as {x y : Int32} (h : RelM D G) (hg : gok G) (hp : post (some (aAs G x y)) D) : xRuns Γ (n + 2) hX9_as [xR 0 9 111, xI x, xI y] D post := by
  have ho := hg.2.2.1.1
  have h8 := ho.1
  have hr := h.2.1
  refine x_runs kX9_as (by decide +kernel) rfl ?_
  refine x_call [xI x] rfl rfl rfl rfl rfl rfl rfl (c_isBird hr ho ?_)
  rw [aAs] at hp
  cases hx : gI x 0 ((G.now.B : Int) - 1) with
  | none =>
    rw [hx] at hp
    refine x0_ne rfl rfl (fun h => absurd rfl h) (fun _ => ?_)
    exact x_ret rfl rfl rfl rfl hp
  | some b =>
    rw [hx] at hp
    dsimp only at hp
    obtain ⟨e1, e2, e3, e4⟩ := gI_some (by decide) hx
    subst e1
    have hb : b < G.now.B := by omega
    have h5 := ho.2.2.2.2.1 b hb
    refine x0_ne rfl rfl (fun _ => ?_) (fun h => absurd h (by simp))
    refine x_scall [xL y.toInt64, xL (Int64.ofNat 0), xL (Int64.ofNat 5)] rfl rfl rfl rfl rfl rfl rfl (c_inI (lo := 0) (hi := 5) (by decide) (by decide) ?_)
    cases hy : gI y 0 5 with
    | none =>
      rw [hy] at hp
      refine x0_ne rfl rfl (fun h => absurd rfl h) (fun _ => ?_)
      exact x_ret rfl rfl rfl rfl hp
    | some k =>
      rw [hy] at hp
      dsimp only at hp
      obtain ⟨f1, f2, f3, f4⟩ := gI_some (by decide) hy
      subst f1
      have hk : k < 6 := by omega
      refine x0_ne rfl rfl (fun _ => ?_) (fun h => absurd h (by simp))
      refine x_aldN (0 + 4 + b) rfl rfl (by rw [Nat.zero_add]; exact nI_add 4 b) (by omega) rfl ?_
      rw [hr.2.2.2.2.1 b hb]
      have yes : asOK (G.now.kd b) k = true → xW Γ (n + 2) hX9_as rX9_as 66 [some (xR 0 9 111), some (xI (nI b)), some (xI (nI k)), some (xI (nI (G.now.kd b))), none] [] D post := by
        intro e
        rw [e, if_pos rfl] at hp
        refine x_goto rfl rfl ?_
        refine x0_eq rfl rfl (fun h => absurd h (by decide)) (fun _ => ?_)
        refine x_scall [xI (nI (G.now.kd b))] rfl rfl rfl rfl rfl rfl rfl (c_gets h5 ?_)
        exact x_goto rfl rfl (x_ret rfl rfl rfl rfl hp)
      have no : asOK (G.now.kd b) k = false → xW Γ (n + 2) hX9_as rX9_as 70 [some (xR 0 9 111), some (xI (nI b)), some (xI (nI k)), some (xI (nI (G.now.kd b))), none] [] D post := by
        intro e
        rw [e, if_neg (by decide)] at hp
        refine x0_eq rfl rfl (fun _ => ?_) (fun h => absurd rfl h)
        exact x_ret rfl rfl rfl rfl hp
      refine x0_eq rfl rfl (fun h2 => ?_) (fun h2 => ?_)
      · have : k = 0 := (nI_eq (b := 0) (by omega) (by omega)).mp h2
        exact yes (by simp [asOK, this])
      · have k0 : ¬ k = 0 := fun z => h2 (by rw [z]; rfl)
        refine xi_eqN k (G.now.kd b + 1) rfl rfl rfl (nI_1 _) (by omega) (by omega) (fun h3 => ?_) (fun h3 => ?_)
        · exact yes (by simp [asOK, h3])
        · have last : ¬ (k = 1 ∧ G.now.kd b < 3) → xW Γ (n + 2) hX9_as rX9_as 56 [some (xR 0 9 111), some (xI (nI b)), some (xI (nI k)), some (xI (nI (G.now.kd b))), none] [] D post := by
            intro hq
            refine xi_neN k 4 rfl rfl rfl rfl (by omega) (by omega) (fun h6 => ?_) (fun h6 => ?_)
            · exact no (by simp [asOK, k0, h3, h6]; omega)
            · refine xi_neN (G.now.kd b) 4 rfl rfl rfl rfl (by omega) (by omega) (fun h7 => ?_) (fun h7 => ?_)
              · exact no (by simp [asOK, k0, h3, h7]; omega)
              · exact yes (by simp [asOK, h6, h7])
          refine xi_neN k 1 rfl rfl rfl rfl (by omega) (by omega) (fun h4 => last (by omega)) (fun h4 => ?_)
          refine xi_ltN (G.now.kd b) 3 rfl rfl rfl rfl (by omega) (by omega) (fun h6 => ?_) (fun h6 => ?_)
          · exact yes (by simp [asOK, h4, h6])
          · exact last (by omega)
theorem a_known {x y z : Int32} (h : RelC D G) (hg : gok G) (hp : ∀ D', RelC D' G → (∀ a, 111 ≤ a → D' a = D a) → post (some (aKnown G x y z)) D') : xRuns Γ (n + 5) hX8_known [xR 0 8 0, xI x, xI y, xI z] D post := by
  have ho := hg.2.2.1.1
  have hE := hg.2.2.1.2
  have h8 := ho.1
  have hr := h.2.1
  refine x_runs kX8_known (by decide +kernel) rfl ?_
  refine x_call [xI x] rfl rfl rfl rfl rfl rfl rfl (c_noBird hr ho ?_)
  rw [aKnown] at hp
  cases hx : gI x 0 ((G.now.B : Int) - 1) with
  | none =>
    rw [hx] at hp
    refine x0_ne rfl rfl (fun _ => ?_) (fun h => absurd h (by decide))
    exact x_ret rfl rfl rfl rfl (hp D h (fun _ _ => rfl))
  | some b =>
    rw [hx] at hp
    dsimp only at hp
    obtain ⟨e1, e2, e3, e4⟩ := gI_some (by decide) hx
    subst e1
    have hb : b < G.now.B := by omega
    refine x0_ne rfl rfl (fun h => absurd rfl h) (fun _ => ?_)
    refine x_scall [xI y] rfl rfl rfl rfl rfl rfl rfl (c_noWord ?_)
    cases hy : gI y 0 9 with
    | none =>
      rw [hy] at hp
      refine x0_eq rfl rfl (fun h => absurd h (by decide)) (fun _ => ?_)
      exact x_ret rfl rfl rfl rfl (hp D h (fun _ _ => rfl))
    | some k =>
      rw [hy] at hp
      dsimp only at hp
      obtain ⟨f1, f2, f3, f4⟩ := gI_some (by decide) hy
      subst f1
      refine x0_eq rfl rfl (fun _ => ?_) (fun h => absurd rfl h)
      refine x_scall [xI z, xI (nI 0), xI (nI 60)] rfl rfl rfl rfl rfl rfl rfl (c_isNot (lo := 0) (hi := 60) (by decide) (by decide) ?_)
      cases hz : gI z 0 60 with
      | none =>
        rw [hz] at hp
        refine x0_eq rfl rfl (fun h => absurd h (by decide)) (fun _ => ?_)
        exact x_ret rfl rfl rfl rfl (hp D h (fun _ _ => rfl))
      | some e =>
        rw [hz] at hp
        dsimp only at hp
        obtain ⟨i1, i2, i3, i4⟩ := gI_some (by decide) hz
        subst i1
        refine x0_eq rfl rfl (fun _ => ?_) (fun h => absurd rfl h)
        refine x_call [xR 0 7 21] rfl rfl rfl rfl rfl rfl rfl (c_become (w := 27) (o := 21) (by omega) (fun D1 hc hs => ?_))
        refine x_to 45 rfl ?_
        have loop : ∀ (f i : Nat) (D2 : xM), i + f = e → rW D2 27 (wPassN G.now i) → (∀ a, (a < 27 ∨ 35 < a) → D2 a = D a) → xW Γ (n + 5) hX8_known rX8_known 45 [some (xR 0 8 0), some (xI (nI b)), some (xI (nI k)), some (xI (nI e)), some (xI (nI i))] [] D2 post := by
          intro f
          induction f with
          | zero =>
            intro i D2 hi hr2 hs2
            obtain rfl : i = e := by omega
            have ho2 := wok_passN ho i (by omega)
            refine xi_geN i i rfl rfl rfl rfl (by omega) (by omega) (fun _ => ?_) (fun h => absurd h (by omega))
            refine x_call [xI (nI b), xI (nI k)] rfl rfl rfl rfl rfl rfl rfl (c_knowledge hr2 ho2 (by rw [(passN_B G.now i).1]; exact hb) (by omega) ?_)
            exact x_ret rfl rfl rfl rfl (hp D2 (RelC_out h (fun a ha _ => hs2 a ha)) (fun a ha => hs2 a (by omega)))
          | succ f ih =>
            intro i D2 hi hr2 hs2
            have ho2 := wok_passN ho i (by omega)
            refine xi_geN i e rfl rfl rfl rfl (by omega) (by omega) (fun h => absurd h (by omega)) (fun h => ?_)
            refine x_call [xR 0 4 33] rfl rfl rfl rfl rfl rfl rfl (c_passEvening (by omega) hr2 ho2 (by rw [(passN_B G.now i).2.2]; omega) (fun D3 hr3 hP3 hs3 => ?_))
            have IH := ih (i + 1) D3 (by omega) hr3 (fun a ha => by rw [hs3 a (by omega) (by omega) (by omega)]; exact hs2 a ha)
            rw [← nI_1] at IH
            exact x_goto rfl rfl IH
        exact loop e 0 D1 (by omega) (hc G.now h8 ho.2.1 hr) (fun a ha => hs a (by omega))
theorem am_known {x y z : Int32} (h : RelM D G) (hg : gok G) (hp : ∀ D', RelM D' G → (∀ a, a < 111 → D' a = D a) → post (some (aKnown G x y z)) D') : xRuns Γ (n + 6) hX9_known [xR 0 9 111, xI x, xI y, xI z] D post := by
  have ho := hg.2.2.1.1
  have hE := hg.2.2.1.2
  have h8 := ho.1
  have hr := h.2.1
  refine x_runs kX9_known (by decide +kernel) rfl ?_
  refine x_call [xI x] rfl rfl rfl rfl rfl rfl rfl (c_isBird hr ho ?_)
  rw [aKnown] at hp
  cases hx : gI x 0 ((G.now.B : Int) - 1) with
  | none =>
    rw [hx] at hp
    refine x0_eq rfl rfl (fun _ => ?_) (fun h => absurd rfl h)
    exact x_ret rfl rfl rfl rfl (hp D h (fun _ _ => rfl))
  | some b =>
    rw [hx] at hp
    dsimp only at hp
    obtain ⟨e1, e2, e3, e4⟩ := gI_some (by decide) hx
    subst e1
    have hb : b < G.now.B := by omega
    refine x0_eq rfl rfl (fun h => absurd h (by simp)) (fun _ => ?_)
    refine x_scall [xI y] rfl rfl rfl rfl rfl rfl rfl (c_isWordN ?_)
    cases hy : gI y 0 9 with
    | none =>
      rw [hy] at hp
      refine x0_ne rfl rfl (fun h => absurd rfl h) (fun _ => ?_)
      exact x_ret rfl rfl rfl rfl (hp D h (fun _ _ => rfl))
    | some k =>
      rw [hy] at hp
      dsimp only at hp
      obtain ⟨f1, f2, f3, f4⟩ := gI_some (by decide) hy
      subst f1
      refine x0_ne rfl rfl (fun _ => ?_) (fun h => absurd h (by simp))
      refine x_scall [xL z.toInt64, xL (Int64.ofNat 0), xL (Int64.ofNat 60)] rfl rfl rfl rfl rfl rfl rfl (c_inI (lo := 0) (hi := 60) (by decide) (by decide) ?_)
      cases hz : gI z 0 60 with
      | none =>
        rw [hz] at hp
        refine x0_ne rfl rfl (fun h => absurd rfl h) (fun _ => ?_)
        exact x_ret rfl rfl rfl rfl (hp D h (fun _ _ => rfl))
      | some e =>
        rw [hz] at hp
        dsimp only at hp
        obtain ⟨i1, i2, i3, i4⟩ := gI_some (by decide) hz
        subst i1
        refine x0_ne rfl rfl (fun _ => ?_) (fun h => absurd h (by simp))
        refine x_call [] rfl rfl rfl rfl rfl rfl rfl (c_layTried hr h8 ho.2.1 (fun D1 hr1 hs1 => ?_))
        obtain ⟨sp0, hP0, hl0⟩ := h.2.2.2.2.2.2.2
        refine x_call [xI (nI e)] rfl rfl rfl rfl rfl rfl rfl (c_passTried (by omega) hr1 (rP_outM hP0 hs1) hl0 ho (by omega) (fun D2 hr2 hsp hs2 => ?_))
        refine x_aldN (1296 + 20 + (b * 10 + k)) rfl rfl (by
          show nI 1316 + nI 10 * nI b + nI k = _
          rw [pk_mul, nI_add, nI_add]
          exact congrArg nI (by omega)) (by omega) rfl ?_
        refine x_ret rfl rfl rfl rfl ?_
        rw [hr2.2.2.2.2.2.2.1 b k (by rw [(passN_B G.now e).1]; exact hb) (by omega)]
        obtain ⟨sp, q1, q2, -⟩ := hsp
        refine hp D2 (RelM_out h hg (fun a j g1 g2 g3 _ => by rw [hs2 a j (by omega) g2 g3, hs1 a j (by omega)]) ⟨sp, q1, q2⟩) (fun a ha => funext fun j => by rw [hs2 a j (by omega) (by omega) (by omega), hs1 a j (by omega)])
end A2
end
section
/-! ===== calls that are done: evening, teach, moult ===== -/
theorem RelC_set {D D' : xM} {G : gS} {S' : wS} {past' : List wS} {kept' : Nat → Option wS} (h : RelC D G) (hh : cHi D' past' kept') (hr : rW D' 21 S') (e : ∀ a, (a < 21 ∨ 35 < a) → (a < 36 ∨ 98 < a) → D' a = D a) : RelC D' (gmk G.tx G.tg G.told S' past' kept' G.seen G.reel) := by
  obtain ⟨h1, h2, h3, h4, h5, h6, h7⟩ := h
  exact ⟨rW_out h1 (fun a ha hb => e a (by omega) (by omega)), hr, cTx_out h3 (by rw [e 1 (by omega) (by omega)]) (e 2 (by omega) (by omega)), hh, cSe_out h5 (fun a ha hb => e a (by omega) (by omega)), cRe_out h6 (fun a ha hb => e a (by omega) (by omega)), cTg_out h7 (by rw [e 10 (by omega) (by omega)]) (e 11 (by omega) (by omega)) (e 12 (by omega) (by omega))⟩
theorem RelM_set {D D' : xM} {G : gS} {S' : wS} {past' : List wS} {kept' : Nat → Option wS} (h : RelM D G) (hg : gok G) (hh : mHi D' past' kept') (hr : rM D' 0 S') (e : ∀ a j, ¬ (a = 112 ∧ (j < 108 ∨ 216 ≤ j)) → ¬ (a = 111 ∧ j = 1) → a ≠ 113 → a ≠ 138 → a ≠ 139 → D' a j = D a j) (hs : mSp D') : RelM D' (gmk G.tx G.tg G.told S' past' kept' G.seen G.reel) := by
  obtain ⟨⟨h1, h1z⟩, h2, h3, h4, h5, h6, h7, h8⟩ := h
  obtain ⟨g1, g2, g3, g4, g5, g6, g7⟩ := hg
  have ef : ∀ a, 114 ≤ a → a ≤ 123 → D' a = D a := fun a ha hb => funext fun j => e a j (by omega) (by omega) (by omega) (by omega) (by omega)
  have er : ∀ j, 108 ≤ j → j < 216 → D' 112 j = D 112 j := fun j ha hb => e 112 j (by omega) (by omega) (by omega) (by omega) (by omega)
  have e1 : ∀ j, j ≠ 1 → D' 111 j = D 111 j := fun j hj => e 111 j (by omega) (by omega) (by omega) (by omega) (by omega)
  exact ⟨⟨rM_out h1 g2.1 g2.2.1 (fun j q1 q2 => er j (by omega) (by omega)), mZ_out h1z er⟩, hr, mTx_out h3 (e1 4 (by omega)) (ef 114 (by omega) (by omega)), hh, mSe_out h5 (e1 5 (by omega)) (fun a ha hb => ef a (by omega) (by omega)), mRe_out h6 (fun a ha hb => ef a (by omega) (by omega)), mTg_out h7 (e1 9 (by omega)) (ef 118 (by omega) (by omega)) (ef 119 (by omega) (by omega)) (ef 120 (by omega) (by omega)), hs⟩
/-- a new now, the old one to be taken back -/
def gNow (G : gS) (S : wS) : gS := gmk G.tx G.tg G.told S ((G.now :: G.past).take 8) G.kept G.seen G.reel
theorem g_now {G : gS} {S : wS} (hg : gok G) (ho : wok S) (hE : S.E ≤ 999) : gok (gNow G S) := by
  obtain ⟨g1, g2, g3, g4, g5, g6, g7⟩ := hg
  refine ⟨g1, g2, ⟨ho, hE⟩, ⟨by show ((G.now :: G.past).take 8).length ≤ 8; rw [List.length_take]; omega, fun T hT => ?_⟩, g5, g6, g7⟩
  rcases List.mem_cons.mp (List.mem_of_mem_take hT) with q | q
  · rw [q]; exact g3
  · exact g4.2 T q
theorem RelC_now {D D1 D2 : xM} {G : gS} {S : wS} (h : RelC D G) (hh : cHi D1 ((G.now :: G.past).take 8) G.kept) (e1 : ∀ a, (a < 36 ∨ 98 < a) → D1 a = D a) (hr : rW D2 21 S) (e2 : ∀ a, (a < 21 ∨ 35 < a) → D2 a = D1 a) : RelC D2 (gNow G S) :=
  RelC_set h (cHi_out hh (fun a ha hb => e2 a (by omega))) hr (fun a ha hb => by rw [e2 a ha, e1 a hb])
theorem RelM_now {D D1 D2 : xM} {G : gS} {S : wS} (h : RelM D G) (hg : gok G) (hh : mHi D1 ((G.now :: G.past).take 8) G.kept) (e1 : ∀ a j, ¬ (a = 112 ∧ 216 ≤ j ∧ j < 1080) → ¬ (a = 111 ∧ j = 1) → D1 a j = D a j) (hr : rM D2 0 S) (e2 : sameMP 0 D1 D2) (hs : mSp D2) : RelM D2 (gNow G S) := by
  obtain ⟨g1, g2, g3, g4, g5, g6, g7⟩ := id hg
  refine RelM_set h hg (mHi_out hh (by rw [List.length_take]; omega) (fun T hT => ?_) (fun k T hk hT => (g5 k T hk hT).1) (e2 111 1 (by omega) (by omega) (by omega)) (fun j _ _ => e2 112 j (by omega) (by omega) (by omega)) (funext fun j => e2 113 j (by omega) (by omega) (by omega))) hr (fun a j q1 q2 q3 q4 q5 => by rw [e2 a j (by omega) q4 q5, e1 a j (by omega) q2]) hs
  rcases List.mem_cons.mp (List.mem_of_mem_take hT) with q | q
  · rw [q]; exact g3.1
  · exact (g4.2 T q).1
theorem mSp_sameM {D D' : xM} {o : Nat} (h : mSp D) (e : sameM o D D') : mSp D' := mSp_out h (funext fun j => e 138 j (by omega)) (funext fun j => e 139 j (by omega))
def aEvening (G : gS) (x : Int32) : Int32 × gS := match gI x 1 12 with
  | none => (-3, G)
  | some e => if 999 < G.now.E + e then (-5, G) else (nI (G.now.E + e), gNow G (wPassN G.now e))
def aTeach (G : gS) (x y : Int32) : Int32 × gS := match gI x 0 ((G.now.B : Int) - 1) with
  | none => (-2, G)
  | some b => match gI y 0 9 with
    | none => (-2, G)
    | some k => (nI (min 9 (G.now.K b k + 3)), gNow G (wLearn G.now b k 3))
def aMoult (G : gS) (x : Int32) : Int32 × gS := match gI x 0 ((G.now.B : Int) - 1) with
  | none => (-2, G)
  | some b => (nI (wSum (fun k => G.now.K b k / 2) 10), gNow G (wHalve G.now b 10))
theorem wHalve_lo (S : wS) (b : Nat) : ∀ k j, j < k → (wHalve S b k).K b j = S.K b j / 2
  | 0, _, h => absurd h (by omega)
  | k + 1, j, h => by
    show wup (wHalve S b k).K b k (S.K b k / 2) b j = _
    by_cases e : j = k
    · simp [wup, e]
    · simp only [wup, e, and_false, if_false]
      exact wHalve_lo S b k j (by omega)
theorem wSum_cong {f g : Nat → Nat} : ∀ k, (∀ i, i < k → f i = g i) → wSum f k = wSum g k
  | 0, _ => rfl
  | k + 1, h => by rw [wSum, wSum, wSum_cong k (fun i hi => h i (by omega)), h k (by omega)]
theorem wok_halve {S : wS} (ho : wok S) (b : Nat) : ∀ k, wok (wHalve S b k) ∧ (wHalve S b k).E = S.E
  | 0 => ⟨ho, rfl⟩
  | k + 1 => by
    have ih := (wok_halve ho b k).1
    refine ⟨?_, rfl⟩
    refine wok_K (K := wup (wHalve S b k).K b k (S.K b k / 2)) ho (fun c j hc hj => ?_)
    have h9 := ho.2.2.2.2.2.2.1 c j hc hj
    have := wok_kok ih c j (by rw [wHalve_eq]; exact hc) hj
    simp only [wup]
    split
    · rename_i hq
      rw [← hq.1, ← hq.2]
      omega
    · exact this
theorem wok_learn {S : wS} (ho : wok S) (b k v : Nat) : wok (wLearn S b k v) := wok_K ho (kok_learn (wok_kok ho) b k v)
section A3
variable {Γ : xG} {n : Nat} {D : xM} {post : Option Int32 → xM → Prop} {G : gS}
theorem g_evening {x : Int32} (hg : gok G) : gok (aEvening G x).2 := by
  rw [aEvening]
  split
  · exact hg
  · rename_i e hx
    have h := gI_some (by decide) hx
    split
    · exact hg
    · have hE := hg.2.2.1.2
      exact g_now hg (wok_passN hg.2.2.1.1 e (by omega)) (by rw [(passN_B G.now e).2.2]; omega)
theorem g_teach {x y : Int32} (hg : gok G) : gok (aTeach G x y).2 := by
  rw [aTeach]
  split
  · exact hg
  · split
    · exact hg
    · exact g_now hg (wok_learn hg.2.2.1.1 _ _ _) hg.2.2.1.2
theorem g_moult {x : Int32} (hg : gok G) : gok (aMoult G x).2 := by
  rw [aMoult]
  split
  · exact hg
  · rename_i b hx
    have h := wok_halve hg.2.2.1.1 b 10
    exact g_now hg h.1 (by rw [h.2]; exact hg.2.2.1.2)
theorem a_evening {x : Int32} (h : RelC D G) (hg : gok G) (hp : ∀ D', RelC D' (aEvening G x).2 → (∀ a, 111 ≤ a → D' a = D a) → post (some (aEvening G x).1) D') : xRuns Γ (n + 5) hX8_evening [xR 0 8 0, xI x] D post := by
  have ho := hg.2.2.1.1
  have hE := hg.2.2.1.2
  have h8 := ho.1
  have h4 := ho.2.1
  have hr := h.2.1
  refine x_runs kX8_evening (by decide +kernel) rfl ?_
  rw [aEvening] at hp
  refine x_scall [xI x, xI (nI 1), xI (nI 12)] rfl rfl rfl rfl rfl rfl rfl (c_isNot (lo := 1) (hi := 12) (by decide) (by decide) ?_)
  rcases hx_e : gI x 1 12 with _ | e
  · rw [hx_e] at hp
    refine x0_eq rfl rfl (fun h => absurd h (by decide)) (fun _ => ?_)
    exact x_ret rfl rfl rfl rfl (hp D h (fun _ _ => rfl))
  rw [hx_e] at hp
  dsimp only at hp
  obtain ⟨e1_e, e2_e, e3_e, e4_e⟩ := gI_some (by decide) hx_e
  subst e1_e
  have h_e : e < 13 := by omega
  refine x0_eq rfl rfl (fun _ => ?_) (fun h => absurd rfl h)
  refine xi_leN (G.now.E + e) 999 rfl rfl (by rw [hr.2.2.1]; exact nI_add _ _) rfl (by omega) (by omega) (fun h2 => ?_) (fun h2 => ?_)
  · rw [if_neg (by omega)] at hp
    refine x_call [xR 0 7 21] rfl rfl rfl rfl rfl rfl rfl (c_remember h.2.2.2.1 hr h8 h4 hg.2.2.2.1.1 (fun D1 hh1 hs1 => ?_))
    refine x_to 44 rfl ?_
    have loop : ∀ (f i : Nat) (D2 : xM), i + f = e → rW D2 21 (wPassN G.now i) → (∀ a, (a < 21 ∨ 26 < a) → a ≠ 34 → a ≠ 35 → D2 a = D1 a) → xW Γ (n + 5) hX8_evening rX8_evening 44 [some (xR 0 8 0), some (xI (nI e)), some (xI (nI i))] [] D2 post := by
      intro f
      induction f with
      | zero =>
        intro i D2 hi hr2 hs2
        obtain rfl : i = e := by omega
        refine xi_geN i i rfl rfl rfl rfl (by omega) (by omega) (fun _ => ?_) (fun h => absurd h (by omega))
        refine x_ret rfl rfl rfl rfl ?_
        rw [hr2.2.2.1, (passN_B G.now i).2.2]
        exact hp D2 (RelC_now h hh1 hs1 hr2 (fun a ha => hs2 a (by omega) (by omega) (by omega))) (fun a ha => by rw [hs2 a (by omega) (by omega) (by omega), hs1 a (by omega)])
      | succ f ih =>
        intro i D2 hi hr2 hs2
        have ho2 := wok_passN ho i (by omega)
        refine xi_geN i e rfl rfl rfl rfl (by omega) (by omega) (fun h => absurd h (by omega)) (fun h => ?_)
        refine x_call [xR 0 4 33] rfl rfl rfl rfl rfl rfl rfl (c_passEvening (by omega) hr2 ho2 (by rw [(passN_B G.now i).2.2]; omega) (fun D3 hr3 hP3 hs3 => ?_))
        have IH := ih (i + 1) D3 (by omega) hr3 (fun a ha hb hc => by rw [hs3 a (by omega) hb hc]; exact hs2 a ha hb hc)
        rw [← nI_1] at IH
        exact x_goto rfl rfl IH
    exact loop e 0 D1 (by omega) (rW_out hr (fun a ha hb => hs1 a (by omega))) (fun _ _ _ _ => rfl)
  · rw [if_pos (by omega)] at hp
    exact x_ret rfl rfl rfl rfl (hp D h (fun _ _ => rfl))
theorem am_evening {x : Int32} (h : RelM D G) (hg : gok G) (hp : ∀ D', RelM D' (aEvening G x).2 → (∀ a, a < 111 → D' a = D a) → post (some (aEvening G x).1) D') : xRuns Γ (n + 5) hX9_evening [xR 0 9 111, xI x] D post := by
  have ho := hg.2.2.1.1
  have hE := hg.2.2.1.2
  have h8 := ho.1
  have h4 := ho.2.1
  have hr := h.2.1
  refine x_runs kX9_evening (by decide +kernel) rfl ?_
  rw [aEvening] at hp
  refine x_scall [xL x.toInt64, xL (Int64.ofNat 1), xL (Int64.ofNat 12)] rfl rfl rfl rfl rfl rfl rfl (c_inI (lo := 1) (hi := 12) (by decide) (by decide) ?_)
  rcases hx_e : gI x 1 12 with _ | e
  · rw [hx_e] at hp
    refine x0_ne rfl rfl (fun h => absurd rfl h) (fun _ => ?_)
    exact x_ret rfl rfl rfl rfl (hp D h (fun _ _ => rfl))
  rw [hx_e] at hp
  dsimp only at hp
  obtain ⟨e1_e, e2_e, e3_e, e4_e⟩ := gI_some (by decide) hx_e
  subst e1_e
  have h_e : e < 13 := by omega
  refine x0_ne rfl rfl (fun _ => ?_) (fun h => absurd h (by simp))
  refine x_aldN (0 + 2) rfl rfl rfl (by omega) rfl ?_
  refine xi_leN (G.now.E + e) 999 rfl rfl (by rw [hr.2.2.1]; exact nI_add _ _) rfl (by omega) (by omega) (fun h2 => ?_) (fun h2 => ?_)
  · rw [if_neg (by omega)] at hp
    refine x_call [] rfl rfl rfl rfl rfl rfl rfl (c_keepPast h.2.2.2.1 hg.2.2.2.1.1 (fun S hS => (hg.2.2.2.1.2 S hS).1) (fun k S hk hS => (hg.2.2.2.2.1 k S hk hS).1) hr h8 h4 (fun D1 hh1 hs1 => ?_))
    refine x_to 38 rfl ?_
    have loop : ∀ (f i : Nat) (D2 : xM) (sp : Nat → List Nat), i + f = e → rM D2 0 (wPassN G.now i) → rP D2 138 139 sp → (∀ z, z < 4 → (sp z).length ≤ 16) → sameMP 0 D1 D2 → xW Γ (n + 5) hX9_evening rX9_evening 38 [some (xR 0 9 111), some (xI (nI e)), some (xI (nI i))] [] D2 post := by
      intro f
      induction f with
      | zero =>
        intro i D2 sp hi hr2 hP2 hl2 hs2
        obtain rfl : i = e := by omega
        refine xi_geN i i rfl rfl rfl rfl (by omega) (by omega) (fun _ => ?_) (fun h => absurd h (by omega))
        refine x_aldN (0 + 2) rfl rfl rfl (by omega) rfl ?_
        refine x_ret rfl rfl rfl rfl ?_
        rw [hr2.2.2.1, (passN_B G.now i).2.2]
        exact hp D2 (RelM_now h hg hh1 hs1 hr2 hs2 ⟨sp, hP2, hl2⟩) (fun a ha => funext fun j => by rw [hs2 a j (by omega) (by omega) (by omega), hs1 a j (by omega) (by omega)])
      | succ f ih =>
        intro i D2 sp hi hr2 hP2 hl2 hs2
        have ho2 := wok_passN ho i (by omega)
        refine xi_geN i e rfl rfl rfl rfl (by omega) (by omega) (fun h => absurd h (by omega)) (fun h => ?_)
        refine x_call [xI (nI 0)] rfl rfl rfl rfl rfl rfl rfl (c_passes hr2 hP2 hl2 ho2 (by omega) (by rw [(passN_B G.now i).2.2]; omega) (fun D3 hr3 hP3 hs3 => ?_))
        have IH := ih (i + 1) D3 _ (by omega) hr3 hP3 (len_said ho2) (hs2.tr hs3)
        rw [← nI_1] at IH
        exact x_goto rfl rfl IH
    obtain ⟨sp0, hP0, hl0⟩ := h.2.2.2.2.2.2.2
    exact loop e 0 D1 sp0 (by omega) (rM_out hr h8 h4 (fun j _ _ => hs1 112 j (by omega) (by omega))) (rP_out hP0 (funext fun j => hs1 138 j (by omega) (by omega)) (funext fun j => hs1 139 j (by omega) (by omega))) hl0 sameMP.rf
  · rw [if_pos (by omega)] at hp
    exact x_ret rfl rfl rfl rfl (hp D h (fun _ _ => rfl))
theorem a_teach {x y : Int32} (h : RelC D G) (hg : gok G) (hp : ∀ D', RelC D' (aTeach G x y).2 → (∀ a, 111 ≤ a → D' a = D a) → post (some (aTeach G x y).1) D') : xRuns Γ (n + 3) hX8_teach [xR 0 8 0, xI x, xI y] D post := by
  have ho := hg.2.2.1.1
  have h8 := ho.1
  have h4 := ho.2.1
  have hr := h.2.1
  refine x_runs kX8_teach (by decide +kernel) rfl ?_
  rw [aTeach] at hp
  refine x_call [xI x] rfl rfl rfl rfl rfl rfl rfl (c_noBird hr ho ?_)
  rcases hx_b : gI x 0 ((G.now.B : Int) - 1) with _ | b
  · rw [hx_b] at hp
    refine x0_ne rfl rfl (fun _ => ?_) (fun h => absurd h (by decide))
    exact x_ret rfl rfl rfl rfl (hp D h (fun _ _ => rfl))
  rw [hx_b] at hp
  dsimp only at hp
  obtain ⟨e1_b, e2_b, e3_b, e4_b⟩ := gI_some (by decide) hx_b
  subst e1_b
  have h_b : b < G.now.B := by omega
  refine x0_ne rfl rfl (fun h => absurd rfl h) (fun _ => ?_)
  refine x_scall [xI y] rfl rfl rfl rfl rfl rfl rfl (c_noWord ?_)
  rcases hx_k : gI y 0 9 with _ | k
  · rw [hx_k] at hp
    refine x0_eq rfl rfl (fun h => absurd h (by decide)) (fun _ => ?_)
    exact x_ret rfl rfl rfl rfl (hp D h (fun _ _ => rfl))
  rw [hx_k] at hp
  dsimp only at hp
  obtain ⟨e1_k, e2_k, e3_k, e4_k⟩ := gI_some (by decide) hx_k
  subst e1_k
  have h_k : k < 10 := by omega
  refine x0_eq rfl rfl (fun _ => ?_) (fun h => absurd rfl h)
  refine x_call [xR 0 7 21] rfl rfl rfl rfl rfl rfl rfl (c_remember h.2.2.2.1 hr h8 h4 hg.2.2.2.1.1 (fun D1 hh1 hs1 => ?_))
  have hr1 : rW D1 21 G.now := rW_out hr (fun a ha hb => hs1 a (by omega))
  refine x_call [xI (nI b), xI (nI k), xI (nI 3)] rfl rfl rfl rfl rfl rfl rfl (c_learn hr1 ho h_b (by omega) (by omega) ?_)
  have hr2 := rW_K (b := b) (k := k) (v := min 9 (G.now.K b k + 3)) hr1 (by omega)
  refine x_call [xI (nI b), xI (nI k)] rfl rfl rfl rfl rfl rfl rfl (c_knowledge hr2 (wok_learn ho b k 3) h_b (by omega) ?_)
  refine x_ret rfl rfl rfl rfl ?_
  have e : wup G.now.K b k (min 9 (G.now.K b k + 3)) b k = min 9 (G.now.K b k + 3) := by simp [wup]
  show post (some (nI (wup G.now.K b k (min 9 (G.now.K b k + 3)) b k))) _
  rw [e]
  exact hp _ (RelC_now h hh1 hs1 hr2 (fun a ha => xup_ne a (by omega))) (fun a ha => by rw [xup_ne a (by omega), hs1 a (by omega)])
theorem am_teach {x y : Int32} (h : RelM D G) (hg : gok G) (hp : ∀ D', RelM D' (aTeach G x y).2 → (∀ a, a < 111 → D' a = D a) → post (some (aTeach G x y).1) D') : xRuns Γ (n + 3) hX9_teach [xR 0 9 111, xI x, xI y] D post := by
  have ho := hg.2.2.1.1
  have h8 := ho.1
  have h4 := ho.2.1
  have hr := h.2.1
  refine x_runs kX9_teach (by decide +kernel) rfl ?_
  rw [aTeach] at hp
  refine x_call [xI x] rfl rfl rfl rfl rfl rfl rfl (c_isBird hr ho ?_)
  rcases hx_b : gI x 0 ((G.now.B : Int) - 1) with _ | b
  · rw [hx_b] at hp
    refine x0_eq rfl rfl (fun _ => ?_) (fun h => absurd rfl h)
    exact x_ret rfl rfl rfl rfl (hp D h (fun _ _ => rfl))
  rw [hx_b] at hp
  dsimp only at hp
  obtain ⟨e1_b, e2_b, e3_b, e4_b⟩ := gI_some (by decide) hx_b
  subst e1_b
  have h_b : b < G.now.B := by omega
  refine x0_eq rfl rfl (fun h => absurd h (by simp)) (fun _ => ?_)
  refine x_scall [xI y] rfl rfl rfl rfl rfl rfl rfl (c_isWordN ?_)
  rcases hx_k : gI y 0 9 with _ | k
  · rw [hx_k] at hp
    refine x0_ne rfl rfl (fun h => absurd rfl h) (fun _ => ?_)
    exact x_ret rfl rfl rfl rfl (hp D h (fun _ _ => rfl))
  rw [hx_k] at hp
  dsimp only at hp
  obtain ⟨e1_k, e2_k, e3_k, e4_k⟩ := gI_some (by decide) hx_k
  subst e1_k
  have h_k : k < 10 := by omega
  refine x0_ne rfl rfl (fun _ => ?_) (fun h => absurd h (by simp))
  refine x_call [] rfl rfl rfl rfl rfl rfl rfl (c_keepPast h.2.2.2.1 hg.2.2.2.1.1 (fun S hS => (hg.2.2.2.1.2 S hS).1) (fun k S hk hS => (hg.2.2.2.2.1 k S hk hS).1) hr h8 h4 (fun D1 hh1 hs1 => ?_))
  have hr1 : rM D1 0 G.now := rM_out hr h8 h4 (fun j _ _ => hs1 112 j (by omega) (by omega))
  refine x_call [xI (nI 0), xI (nI b), xI (nI k), xI (nI 3)] rfl rfl rfl rfl rfl rfl rfl (c_learns hr1 ho (by omega) h_b (by omega) (by omega) ?_)
  have hr2 := rM_K (b := b) (k := k) (v := min 9 (G.now.K b k + 3)) hr1 h8 h4 h_b (by omega)
  refine x_aldN (0 + 20 + (b * 10 + k)) rfl rfl (by
    show nI 20 + nI 10 * nI b + nI k = _
    rw [pk_mul, nI_add, nI_add]
    exact congrArg nI (by omega)) (by omega) rfl ?_
  refine x_ret rfl rfl rfl rfl ?_
  rw [xup_at]
  have hs2 : sameM 0 D1 (xup D1 112 (0 + 20 + (b * 10 + k)) (nI (min 9 (G.now.K b k + 3)))) := sameM.rf.up (by omega) (by omega)
  exact hp _ (RelM_now h hg hh1 hs1 hr2 (sameMP.ofM hs2) (mSp_sameM (mSp_out h.2.2.2.2.2.2.2 (funext fun j => hs1 138 j (by omega) (by omega)) (funext fun j => hs1 139 j (by omega) (by omega))) hs2)) (fun a ha => funext fun j => by rw [hs2 a j (by omega), hs1 a j (by omega) (by omega)])
theorem a_moult {x : Int32} (h : RelC D G) (hg : gok G) (hp : ∀ D', RelC D' (aMoult G x).2 → (∀ a, 111 ≤ a → D' a = D a) → post (some (aMoult G x).1) D') : xRuns Γ (n + 3) hX8_moult [xR 0 8 0, xI x] D post := by
  have ho := hg.2.2.1.1
  have h8 := ho.1
  have h4 := ho.2.1
  have hr := h.2.1
  refine x_runs kX8_moult (by decide +kernel) rfl ?_
  rw [aMoult] at hp
  refine x_call [xI x] rfl rfl rfl rfl rfl rfl rfl (c_noBird hr ho ?_)
  rcases hx_b : gI x 0 ((G.now.B : Int) - 1) with _ | b
  · rw [hx_b] at hp
    refine x0_eq rfl rfl (fun h => absurd h (by decide)) (fun _ => ?_)
    exact x_ret rfl rfl rfl rfl (hp D h (fun _ _ => rfl))
  rw [hx_b] at hp
  dsimp only at hp
  obtain ⟨e1_b, e2_b, e3_b, e4_b⟩ := gI_some (by decide) hx_b
  subst e1_b
  have h_b : b < G.now.B := by omega
  refine x0_eq rfl rfl (fun _ => ?_) (fun h => absurd rfl h)
  refine x_call [xR 0 7 21] rfl rfl rfl rfl rfl rfl rfl (c_remember h.2.2.2.1 hr h8 h4 hg.2.2.2.1.1 (fun D1 hh1 hs1 => ?_))
  have hr1 : rW D1 21 G.now := rW_out hr (fun a ha hb => hs1 a (by omega))
  refine x_call [xI (nI b)] rfl rfl rfl rfl rfl rfl rfl (c_halve hr1 ho h_b (fun D2 hr2 hs2 => ?_))
  refine x_call [xI (nI b)] rfl rfl rfl rfl rfl rfl rfl (c_allKnowledge hr2 (wok_halve ho b 10).1 (by rw [wHalve_eq]; exact h_b) ?_)
  refine x_ret rfl rfl rfl rfl ?_
  have e : wSum ((wHalve G.now b 10).K b) 10 = wSum (fun k => G.now.K b k / 2) 10 := wSum_cong 10 (fun i hi => wHalve_lo G.now b 10 i hi)
  rw [e]
  exact hp D2 (RelC_now h hh1 hs1 hr2 (fun a ha => hs2 a (by omega))) (fun a ha => by rw [hs2 a (by omega), hs1 a (by omega)])
theorem am_moult {x : Int32} (h : RelM D G) (hg : gok G) (hp : ∀ D', RelM D' (aMoult G x).2 → (∀ a, a < 111 → D' a = D a) → post (some (aMoult G x).1) D') : xRuns Γ (n + 3) hX9_moult [xR 0 9 111, xI x] D post := by
  have ho := hg.2.2.1.1
  have h8 := ho.1
  have h4 := ho.2.1
  have hr := h.2.1
  refine x_runs kX9_moult (by decide +kernel) rfl ?_
  rw [aMoult] at hp
  refine x_call [xI x] rfl rfl rfl rfl rfl rfl rfl (c_isBird hr ho ?_)
  rcases hx_b : gI x 0 ((G.now.B : Int) - 1) with _ | b
  · rw [hx_b] at hp
    refine x0_ne rfl rfl (fun h => absurd rfl h) (fun _ => ?_)
    exact x_ret rfl rfl rfl rfl (hp D h (fun _ _ => rfl))
  rw [hx_b] at hp
  dsimp only at hp
  obtain ⟨e1_b, e2_b, e3_b, e4_b⟩ := gI_some (by decide) hx_b
  subst e1_b
  have h_b : b < G.now.B := by omega
  refine x0_ne rfl rfl (fun _ => ?_) (fun h => absurd h (by simp))
  refine x_call [] rfl rfl rfl rfl rfl rfl rfl (c_keepPast h.2.2.2.1 hg.2.2.2.1.1 (fun S hS => (hg.2.2.2.1.2 S hS).1) (fun k S hk hS => (hg.2.2.2.2.1 k S hk hS).1) hr h8 h4 (fun D1 hh1 hs1 => ?_))
  have hr1 : rM D1 0 G.now := rM_out hr h8 h4 (fun j _ _ => hs1 112 j (by omega) (by omega))
  refine x_to 19 rfl ?_
  have ix : ∀ i, xnum 20 + xnum 10 * nI b + nI i = nI (0 + 20 + (b * 10 + i)) := fun i => by
    show nI 20 + nI 10 * nI b + nI i = _
    rw [pk_mul, nI_add, nI_add]
    exact congrArg nI (by omega)
  have loop : ∀ (f i : Nat) (D2 : xM), i + f = 10 → rM D2 0 (wHalve G.now b i) → sameM 0 D1 D2 → xW Γ (n + 3) hX9_moult rX9_moult 19 [some (xR 0 9 111), some (xI (nI b)), some (xI (nI (wSum (fun k => G.now.K b k / 2) i))), some (xI (nI i))] [] D2 post := by
    intro f
    induction f with
    | zero =>
      intro i D2 hi hr2 hs2
      obtain rfl : i = 10 := by omega
      refine xi_geN 10 10 rfl rfl rfl rfl (by omega) (by omega) (fun _ => ?_) (fun h => absurd h (by omega))
      refine x_ret rfl rfl rfl rfl ?_
      exact hp D2 (RelM_now h hg hh1 hs1 hr2 (sameMP.ofM hs2) (mSp_sameM (mSp_out h.2.2.2.2.2.2.2 (funext fun j => hs1 138 j (by omega) (by omega)) (funext fun j => hs1 139 j (by omega) (by omega))) hs2)) (fun a ha => funext fun j => by rw [hs2 a j (by omega), hs1 a j (by omega) (by omega)])
    | succ f ih =>
      intro i D2 hi hr2 hs2
      have h9 := ho.2.2.2.2.2.2.1 b i h_b (by omega)
      refine xi_geN i 10 rfl rfl rfl rfl (by omega) (by omega) (fun h => absurd h (by omega)) (fun h => ?_)
      refine x_aldN (0 + 20 + (b * 10 + i)) rfl rfl (ix i) (by omega) rfl ?_
      have e1 : D2 112 (0 + 20 + (b * 10 + i)) = nI (G.now.K b i) := by
        rw [hr2.2.2.2.2.2.2.1 b i (by rw [wHalve_eq]; exact h_b) (by omega), wHalve_K G.now b i i (Nat.le_refl i)]
      rw [e1]
      refine x_div rfl rfl (by decide) ?_
      refine x_astN (0 + 20 + (b * 10 + i)) rfl rfl (ix i) (by omega) rfl ?_
      have e2 : nI (G.now.K b i) / xnum 2 = nI (G.now.K b i / 2) := pk_div (d := 2) (by omega) (by decide) (by decide)
      rw [e2]
      refine x_aldN (0 + 20 + (b * 10 + i)) rfl rfl (ix i) (by omega) rfl ?_
      rw [xup_at]
      have IH := ih (i + 1) (xup D2 112 (0 + 20 + (b * 10 + i)) (nI (G.now.K b i / 2))) (by omega) (by
        have := rM_K (b := b) (k := i) (v := G.now.K b i / 2) hr2 (by rw [wHalve_eq]; exact h8) (by rw [wHalve_eq]; exact h4) (by rw [wHalve_eq]; exact h_b) (by omega)
        rw [wHalve_eq] at this
        exact this) (hs2.up (by omega) (by omega))
      rw [wSum, ← nI_add, ← nI_1] at IH
      exact x_goto rfl rfl IH
  exact loop 10 0 D1 rfl hr1 sameM.rf
end A3
end
section
/-! ===== perch, cover, sit, undo, keep, back ===== -/
abbrev wPe (S : wS) (b p : Nat) : wS := wmk S.B S.M S.E S.C S.kd (wuf S.pe b p) S.K S.ha S.bi
abbrev wCo (S : wS) (c : Nat) : wS := wmk S.B S.M S.E c S.kd S.pe S.K S.ha S.bi
theorem wok_pe {S : wS} {b p : Nat} (ho : wok S) (hp : p < 4) : wok (wPe S b p) := by
  obtain ⟨o1, o2, o3, o4, o5, o6, o7, o8, o9, o10⟩ := ho
  refine ⟨o1, o2, o3, o4, o5, fun c hc => ?_, o7, o8, o9, o10⟩
  show wuf S.pe b p c < 4
  simp only [wuf]
  split
  · exact hp
  · exact o6 c hc
theorem wok_co {S : wS} {c : Nat} (ho : wok S) (hc : c < 256) : wok (wCo S c) := by
  obtain ⟨o1, o2, o3, o4, o5, o6, o7, o8, o9, o10⟩ := ho
  exact ⟨o1, o2, o3, hc, o5, o6, o7, o8, o9, o10⟩
theorem wok_seat {S : wS} {m : Nat} {o : Option Nat} (ho : wok S) (hb : ∀ b, o = some b → b < S.B) : wok (wSeat S m o) := by
  obtain ⟨o1, o2, o3, o4, o5, o6, o7, o8, o9, o10⟩ := ho
  refine ⟨o1, o2, o3, o4, o5, o6, o7, o8, fun m' b hm' h => ?_, fun m' m2 b hm' hm2 h h2 => ?_⟩
  · change (if m' = m then o else if o ≠ none ∧ S.bi m' = o then none else S.bi m') = some b at h
    split at h
    · exact hb b h
    · split at h
      · cases h
      · exact o9 m' b hm' h
  · change (if m' = m then o else if o ≠ none ∧ S.bi m' = o then none else S.bi m') = some b at h
    change (if m2 = m then o else if o ≠ none ∧ S.bi m2 = o then none else S.bi m2) = some b at h2
    by_cases q1 : m' = m
    · by_cases q2 : m2 = m
      · omega
      · rw [if_pos q1] at h
        rw [if_neg q2, h] at h2
        split at h2
        · cases h2
        · rename_i hq
          exact absurd ⟨by simp, h2⟩ hq
    · rw [if_neg q1] at h
      by_cases q2 : m2 = m
      · rw [if_pos q2] at h2
        rw [h2] at h
        split at h
        · cases h
        · rename_i hq
          exact absurd ⟨by simp, h⟩ hq
      · rw [if_neg q2] at h2
        split at h
        · cases h
        · split at h2
          · cases h2
          · exact o10 m' m2 b hm' hm2 h h2
def gO (y : Int32) (hi : Int) : Option (Option Nat) := if y = -1 then some none else match gI y 0 hi with
  | none => none
  | some b => some (some b)
def aPerch (G : gS) (x y : Int32) : Int32 × gS := match gI x 0 ((G.now.B : Int) - 1) with
  | none => (-2, G)
  | some b => match gI y 0 3 with
    | none => (-2, G)
    | some p => if G.now.pe b = p then (-4, G) else (nI (G.now.pe b), gNow G (wPe G.now b p))
def aCover (G : gS) (x : Int32) : Int32 × gS := match gI x 0 ((G.now.B : Int) - 1) with
  | none => (-2, G)
  | some b => (if (G.now.C ^^^ 2 ^ b).testBit b then 1 else 0, gNow G (wCo G.now (G.now.C ^^^ 2 ^ b)))
def aSit (G : gS) (x y : Int32) : Int32 × gS := match gI x 0 ((G.now.M : Int) - 1) with
  | none => (-2, G)
  | some m => match gO y ((G.now.B : Int) - 1) with
    | none => (-2, G)
    | some o => if G.now.bi m = o then (-4, G) else (xby (G.now.bi m), gNow G (wSeat G.now m o))
def aUndo (G : gS) : Int32 × gS := match G.past with
  | [] => (-4, G)
  | S :: past => (nI past.length, gmk G.tx G.tg G.told S past G.kept G.seen G.reel)
def aKeep (G : gS) (x : Int32) : Int32 × gS := match gI x 0 1 with
  | none => (-2, G)
  | some k => (nI G.now.E, gmk G.tx G.tg G.told G.now G.past (wuf G.kept k (some G.now)) G.seen G.reel)
def aBack (G : gS) (x : Int32) : Int32 × gS := match gI x 0 1 with
  | none => (-2, G)
  | some k => match G.kept k with
    | none => (-4, G)
    | some S => (nI S.E, gmk G.tx G.tg G.told S [] G.kept G.seen G.reel)
theorem xor_lt {a b : Nat} (ha : a < 256) (hb : b < 8) : a ^^^ 2 ^ b < 256 := Nat.xor_lt_two_pow (n := 8) ha (Nat.pow_lt_pow_right (by decide) hb)
section A4
variable {Γ : xG} {n : Nat} {D : xM} {post : Option Int32 → xM → Prop} {G : gS}
theorem g_perch {x y : Int32} (hg : gok G) : gok (aPerch G x y).2 := by
  rw [aPerch]
  split
  · exact hg
  · split
    · exact hg
    · rename_i p hy
      have h := gI_some (by decide) hy
      split
      · exact hg
      · exact g_now hg (wok_pe hg.2.2.1.1 (by omega)) hg.2.2.1.2
theorem g_cover {x : Int32} (hg : gok G) : gok (aCover G x).2 := by
  have ho := hg.2.2.1.1
  have h8 := ho.1
  rw [aCover]
  split
  · exact hg
  · rename_i b hx
    have h := gI_some (by decide) hx
    exact g_now hg (wok_co ho (xor_lt ho.2.2.2.1 (by omega))) hg.2.2.1.2
theorem gO_b {y : Int32} {hi : Int} {o : Option Nat} (h : gO y hi = some o) : y = xby o ∧ ∀ b, o = some b → (b : Int) ≤ hi := by
  rw [gO] at h
  split at h
  · rename_i e
    cases h
    exact ⟨e, fun b hb => by cases hb⟩
  · split at h
    · cases h
    · rename_i b hb
      cases h
      have := gI_some (by decide) hb
      exact ⟨this.1, fun c hc => by cases hc; exact this.2.2.1⟩
theorem g_sit {x y : Int32} (hg : gok G) : gok (aSit G x y).2 := by
  have ho := hg.2.2.1.1
  rw [aSit]
  split
  · exact hg
  · split
    · exact hg
    · rename_i o hy
      have h := gO_b hy
      split
      · exact hg
      · exact g_now hg (wok_seat ho (fun b hb => by have := h.2 b hb; omega)) hg.2.2.1.2
theorem g_undo (hg : gok G) : gok (aUndo G).2 := by
  obtain ⟨g1, g2, g3, g4, g5, g6, g7⟩ := id hg
  rw [aUndo]
  split
  · exact hg
  · rename_i S past hq
    rw [hq] at g4
    refine ⟨g1, g2, g4.2 S (List.mem_cons_self ..), ⟨?_, fun T hT => g4.2 T (List.mem_cons_of_mem _ hT)⟩, g5, g6, g7⟩
    have := g4.1
    rw [List.length_cons] at this
    show past.length ≤ 8
    omega
theorem g_keep {x : Int32} (hg : gok G) : gok (aKeep G x).2 := by
  obtain ⟨g1, g2, g3, g4, g5, g6, g7⟩ := id hg
  rw [aKeep]
  split
  · exact hg
  · rename_i k hk
    refine ⟨g1, g2, g3, g4, fun j S hj hS => ?_, g6, g7⟩
    change wuf G.kept k (some G.now) j = some S at hS
    simp only [wuf] at hS
    split at hS
    · cases hS; exact g3
    · exact g5 j S hj hS
theorem g_back {x : Int32} (hg : gok G) : gok (aBack G x).2 := by
  obtain ⟨g1, g2, g3, g4, g5, g6, g7⟩ := id hg
  rw [aBack]
  split
  · exact hg
  · rename_i k hk
    have h := gI_some (by decide) hk
    split
    · exact hg
    · rename_i S hS
      exact ⟨g1, g2, g5 k S (by omega) hS, ⟨Nat.zero_le _, fun T hT => absurd hT (by intro z; cases z)⟩, g5, g6, g7⟩
theorem a_perch {x y : Int32} (h : RelC D G) (hg : gok G) (hp : ∀ D', RelC D' (aPerch G x y).2 → (∀ a, 111 ≤ a → D' a = D a) → post (some (aPerch G x y).1) D') : xRuns Γ (n + 3) hX8_perch [xR 0 8 0, xI x, xI y] D post := by
  have ho := hg.2.2.1.1
  have h8 := ho.1
  have h4 := ho.2.1
  have hr := h.2.1
  refine x_runs kX8_perch (by decide +kernel) rfl ?_
  rw [aPerch] at hp
  refine x_call [xI x] rfl rfl rfl rfl rfl rfl rfl (c_noBird hr ho ?_)
  rcases hx_b : gI x 0 ((G.now.B : Int) - 1) with _ | b
  · rw [hx_b] at hp
    refine x0_ne rfl rfl (fun _ => ?_) (fun h => absurd h (by decide))
    exact x_ret rfl rfl rfl rfl (hp D h (fun _ _ => rfl))
  rw [hx_b] at hp
  dsimp only at hp
  obtain ⟨e1_b, e2_b, e3_b, e4_b⟩ := gI_some (by decide) hx_b
  subst e1_b
  have h_b : b < G.now.B := by omega
  refine x0_ne rfl rfl (fun h => absurd rfl h) (fun _ => ?_)
  refine x_scall [xI y] rfl rfl rfl rfl rfl rfl rfl (c_noPerch ?_)
  rcases hx_p : gI y 0 3 with _ | p
  · rw [hx_p] at hp
    refine x0_eq rfl rfl (fun h => absurd h (by decide)) (fun _ => ?_)
    exact x_ret rfl rfl rfl rfl (hp D h (fun _ _ => rfl))
  rw [hx_p] at hp
  dsimp only at hp
  obtain ⟨e1_p, e2_p, e3_p, e4_p⟩ := gI_some (by decide) hx_p
  subst e1_p
  have h_p : p < 4 := by omega
  refine x0_eq rfl rfl (fun _ => ?_) (fun h => absurd rfl h)
  have hpe := ho.2.2.2.2.2.1 b h_b
  refine x_aldN b rfl rfl rfl (by omega) rfl ?_
  rw [hr.2.2.2.2.2.1 b h_b]
  refine xi_neN (G.now.pe b) p rfl rfl rfl rfl (by omega) (by omega) (fun h2 => ?_) (fun h2 => ?_)
  · rw [if_neg h2] at hp
    refine x_call [xR 0 7 21] rfl rfl rfl rfl rfl rfl rfl (c_remember h.2.2.2.1 hr h8 h4 hg.2.2.2.1.1 (fun D1 hh1 hs1 => ?_))
    have hr1 : rW D1 21 G.now := rW_out hr (fun a ha hb => hs1 a (by omega))
    refine x_astN b rfl rfl rfl (by omega) rfl ?_
    refine x_ret rfl rfl rfl rfl ?_
    exact hp _ (RelC_now h hh1 hs1 (rW_pe (i := b) (v := p) hr1) (fun a ha => xup_ne a (by omega))) (fun a ha => by rw [xup_ne a (by omega), hs1 a (by omega)])
  · rw [if_pos h2] at hp
    exact x_ret rfl rfl rfl rfl (hp D h (fun _ _ => rfl))
theorem rM_pe {D : xM} {o : Nat} {S : wS} {i v : Nat} (h : rM D o S) (hB : S.B ≤ 8) (hM : S.M ≤ 4) (hi : i < S.B) : rM (xup D 112 (o + 12 + i) (nI v)) o (wPe S i v) := by
  obtain ⟨h1, h2, h3, h4, h5, h6, h7, h8, h9⟩ := h
  refine ⟨by rw [xup_o (by omega)]; exact h1, by rw [xup_o (by omega)]; exact h2, by rw [xup_o (by omega)]; exact h3, by rw [xup_o (by omega)]; exact h4, fun b hb => ?_, fun b hb => ?_, fun b k hb hk => ?_, fun m hm => ?_, fun m hm => ?_⟩
  · have : b < S.B := hb
    rw [xup_o (by omega)]; exact h5 b hb
  · have hb' : b < S.B := hb
    show _ = nI (wuf S.pe i v b)
    by_cases e : b = i
    · subst e; rw [xup_at]; simp [wuf]
    · rw [xup_o (by omega), h6 b hb]; simp [wuf, e]
  · have : b < S.B := hb
    rw [xup_o (by omega)]; exact h7 b k hb hk
  · have : m < S.M := hm
    rw [xup_o (by omega)]; exact h8 m hm
  · have : m < S.M := hm
    rw [xup_o (by omega)]; exact h9 m hm
theorem rM_C {D : xM} {o : Nat} {S : wS} {v : Nat} (h : rM D o S) (hB : S.B ≤ 8) (hM : S.M ≤ 4) : rM (xup D 112 (o + 3) (nI v)) o (wCo S v) := by
  obtain ⟨h1, h2, h3, h4, h5, h6, h7, h8, h9⟩ := h
  exact ⟨by rw [xup_o (by omega)]; exact h1, by rw [xup_o (by omega)]; exact h2, by rw [xup_o (by omega)]; exact h3, by rw [xup_at], fun b hb => by rw [xup_o (by omega)]; exact h5 b hb, fun b hb => by rw [xup_o (by omega)]; exact h6 b hb, fun b k hb hk => by rw [xup_o (by omega)]; exact h7 b k hb hk, fun m hm => by rw [xup_o (by omega)]; exact h8 m hm, fun m hm => by rw [xup_o (by omega)]; exact h9 m hm⟩
/-- the reference's push, then a change of now -/
theorem x_push (h : RelM D G) (hg : gok G) (hp : ∀ D1, mHi D1 ((G.now :: G.past).take 8) G.kept → (∀ a j, ¬ (a = 112 ∧ 216 ≤ j ∧ j < 1080) → ¬ (a = 111 ∧ j = 1) → D1 a j = D a j) → rM D1 0 G.now → mSp D1 → post none D1) : xRuns Γ (n + 2) hX9_keepPast [xR 0 9 111] D post :=
  c_keepPast h.2.2.2.1 hg.2.2.2.1.1 (fun S hS => (hg.2.2.2.1.2 S hS).1) (fun k S hk hS => (hg.2.2.2.2.1 k S hk hS).1) h.2.1 hg.2.2.1.1.1 hg.2.2.1.1.2.1 (fun D1 hh1 hs1 => hp D1 hh1 hs1 (rM_out h.2.1 hg.2.2.1.1.1 hg.2.2.1.1.2.1 (fun j _ _ => hs1 112 j (by omega) (by omega))) (mSp_out h.2.2.2.2.2.2.2 (funext fun j => hs1 138 j (by omega) (by omega)) (funext fun j => hs1 139 j (by omega) (by omega))))
theorem am_perch {x y : Int32} (h : RelM D G) (hg : gok G) (hp : ∀ D', RelM D' (aPerch G x y).2 → (∀ a, a < 111 → D' a = D a) → post (some (aPerch G x y).1) D') : xRuns Γ (n + 3) hX9_perch [xR 0 9 111, xI x, xI y] D post := by
  have ho := hg.2.2.1.1
  have h8 := ho.1
  have h4 := ho.2.1
  have hr := h.2.1
  refine x_runs kX9_perch (by decide +kernel) rfl ?_
  rw [aPerch] at hp
  refine x_call [xI x] rfl rfl rfl rfl rfl rfl rfl (c_isBird hr ho ?_)
  rcases hx_b : gI x 0 ((G.now.B : Int) - 1) with _ | b
  · rw [hx_b] at hp
    refine x0_eq rfl rfl (fun _ => ?_) (fun h => absurd rfl h)
    exact x_ret rfl rfl rfl rfl (hp D h (fun _ _ => rfl))
  rw [hx_b] at hp
  dsimp only at hp
  obtain ⟨e1_b, e2_b, e3_b, e4_b⟩ := gI_some (by decide) hx_b
  subst e1_b
  have h_b : b < G.now.B := by omega
  refine x0_eq rfl rfl (fun h => absurd h (by simp)) (fun _ => ?_)
  refine x_scall [xL y.toInt64, xL (Int64.ofNat 0), xL (Int64.ofNat 3)] rfl rfl rfl rfl rfl rfl rfl (c_inI (lo := 0) (hi := 3) (by decide) (by decide) ?_)
  rcases hx_p : gI y 0 3 with _ | p
  · rw [hx_p] at hp
    refine x0_ne rfl rfl (fun h => absurd rfl h) (fun _ => ?_)
    exact x_ret rfl rfl rfl rfl (hp D h (fun _ _ => rfl))
  rw [hx_p] at hp
  dsimp only at hp
  obtain ⟨e1_p, e2_p, e3_p, e4_p⟩ := gI_some (by decide) hx_p
  subst e1_p
  have h_p : p < 4 := by omega
  refine x0_ne rfl rfl (fun _ => ?_) (fun h => absurd h (by simp))
  have hpe := ho.2.2.2.2.2.1 b h_b
  refine x_aldN (0 + 12 + b) rfl rfl (by rw [Nat.zero_add]; exact nI_add 12 b) (by omega) rfl ?_
  rw [hr.2.2.2.2.2.1 b h_b]
  refine xi_neN (G.now.pe b) p rfl rfl rfl rfl (by omega) (by omega) (fun h2 => ?_) (fun h2 => ?_)
  · rw [if_neg h2] at hp
    refine x_call [] rfl rfl rfl rfl rfl rfl rfl (x_push h hg (fun D1 hh1 hs1 hr1 hsp1 => ?_))
    refine x_astN (0 + 12 + b) rfl rfl (by rw [Nat.zero_add]; exact nI_add 12 b) (by omega) rfl ?_
    refine x_ret rfl rfl rfl rfl ?_
    have hs2 : sameM 0 D1 (xup D1 112 (0 + 12 + b) (nI p)) := sameM.rf.up (by omega) (by omega)
    exact hp _ (RelM_now h hg hh1 hs1 (rM_pe hr1 h8 h4 h_b) (sameMP.ofM hs2) (mSp_sameM hsp1 hs2)) (fun a ha => funext fun j => by rw [hs2 a j (by omega), hs1 a j (by omega) (by omega)])
  · rw [if_pos h2] at hp
    exact x_ret rfl rfl rfl rfl (hp D h (fun _ _ => rfl))
theorem a_cover {x : Int32} (h : RelC D G) (hg : gok G) (hp : ∀ D', RelC D' (aCover G x).2 → (∀ a, 111 ≤ a → D' a = D a) → post (some (aCover G x).1) D') : xRuns Γ (n + 3) hX8_cover [xR 0 8 0, xI x] D post := by
  have ho := hg.2.2.1.1
  have h8 := ho.1
  have h4 := ho.2.1
  have hr := h.2.1
  refine x_runs kX8_cover (by decide +kernel) rfl ?_
  rw [aCover] at hp
  refine x_call [xI x] rfl rfl rfl rfl rfl rfl rfl (c_noBird hr ho ?_)
  rcases hx_b : gI x 0 ((G.now.B : Int) - 1) with _ | b
  · rw [hx_b] at hp
    refine x0_eq rfl rfl (fun h => absurd h (by decide)) (fun _ => ?_)
    exact x_ret rfl rfl rfl rfl (hp D h (fun _ _ => rfl))
  rw [hx_b] at hp
  dsimp only at hp
  obtain ⟨e1_b, e2_b, e3_b, e4_b⟩ := gI_some (by decide) hx_b
  subst e1_b
  have h_b : b < G.now.B := by omega
  refine x0_eq rfl rfl (fun _ => ?_) (fun h => absurd rfl h)
  have hc := xor_lt ho.2.2.2.1 (show b < 8 by omega)
  refine x_call [xR 0 7 21] rfl rfl rfl rfl rfl rfl rfl (c_remember h.2.2.2.1 hr h8 h4 hg.2.2.2.1.1 (fun D1 hh1 hs1 => ?_))
  have hr1 : rW D1 21 G.now := rW_out hr (fun a ha hb => hs1 a (by omega))
  refine x_to 37 rfl ?_
  have e : D1 21 3 ^^^ (xnum 1 <<< (nI b &&& 31)) = nI (G.now.C ^^^ 2 ^ b) := by
    rw [hr1.2.2.2.1, ← xb_xor, ← xb_sh1 (by omega)]
    rfl
  rw [e]
  have hr2 := rW_C (v := G.now.C ^^^ 2 ^ b) hr1
  refine x_call [xI (nI b)] rfl rfl rfl rfl rfl rfl rfl (c_isCovered hr2 (wok_co ho hc) (by omega) ?_)
  have fin := hp _ (RelC_now h hh1 hs1 hr2 (fun a ha => xup_ne a (by omega))) (fun a ha => by rw [xup_ne a (by omega), hs1 a (by omega)])
  change post (some (if (G.now.C ^^^ 2 ^ b).testBit b then 1 else 0)) _ at fin
  show xW Γ _ _ _ _ _ [xI (if (G.now.C ^^^ 2 ^ b).testBit b then 1 else 0)] _ _
  cases hq : (G.now.C ^^^ 2 ^ b).testBit b with
  | true =>
    rw [hq] at fin
    refine x0_eq rfl rfl (fun h => absurd h (by decide)) (fun _ => ?_)
    exact x_goto rfl rfl (x_ret rfl rfl rfl rfl fin)
  | false =>
    rw [hq] at fin
    refine x0_eq rfl rfl (fun _ => ?_) (fun h => absurd rfl h)
    exact x_ret rfl rfl rfl rfl fin
theorem am_cover {x : Int32} (h : RelM D G) (hg : gok G) (hp : ∀ D', RelM D' (aCover G x).2 → (∀ a, a < 111 → D' a = D a) → post (some (aCover G x).1) D') : xRuns Γ (n + 3) hX9_cover [xR 0 9 111, xI x] D post := by
  have ho := hg.2.2.1.1
  have h8 := ho.1
  have h4 := ho.2.1
  have hr := h.2.1
  refine x_runs kX9_cover (by decide +kernel) rfl ?_
  rw [aCover] at hp
  refine x_call [xI x] rfl rfl rfl rfl rfl rfl rfl (c_isBird hr ho ?_)
  rcases hx_b : gI x 0 ((G.now.B : Int) - 1) with _ | b
  · rw [hx_b] at hp
    refine x0_ne rfl rfl (fun h => absurd rfl h) (fun _ => ?_)
    exact x_ret rfl rfl rfl rfl (hp D h (fun _ _ => rfl))
  rw [hx_b] at hp
  dsimp only at hp
  obtain ⟨e1_b, e2_b, e3_b, e4_b⟩ := gI_some (by decide) hx_b
  subst e1_b
  have h_b : b < G.now.B := by omega
  refine x0_ne rfl rfl (fun _ => ?_) (fun h => absurd h (by simp))
  have hc := xor_lt ho.2.2.2.1 (show b < 8 by omega)
  refine x_call [] rfl rfl rfl rfl rfl rfl rfl (x_push h hg (fun D1 hh1 hs1 hr1 hsp1 => ?_))
  refine x_aldN (0 + 3) rfl rfl rfl (by omega) rfl ?_
  refine x_astN (0 + 3) rfl rfl rfl (by omega) rfl ?_
  have e : D1 112 (0 + 3) ^^^ (xnum 1 <<< (nI b &&& 31)) = nI (G.now.C ^^^ 2 ^ b) := by
    rw [hr1.2.2.2.1, ← xb_xor, ← xb_sh1 (by omega)]
    rfl
  rw [e]
  refine x_aldN (0 + 3) rfl rfl rfl (by omega) rfl ?_
  refine x_ret rfl rfl rfl rfl ?_
  rw [xup_at]
  have e2 : (nI (G.now.C ^^^ 2 ^ b) >>> (nI b &&& 31)) &&& xnum 1 = nI ((G.now.C ^^^ 2 ^ b) / 2 ^ b % 2) := xb_bit (by omega) (by omega)
  rw [e2]
  have hs2 : sameM 0 D1 (xup D1 112 (0 + 3) (nI (G.now.C ^^^ 2 ^ b))) := sameM.rf.up (by omega) (by omega)
  have fin := hp _ (RelM_now h hg hh1 hs1 (rM_C hr1 h8 h4) (sameMP.ofM hs2) (mSp_sameM hsp1 hs2)) (fun a ha => funext fun j => by rw [hs2 a j (by omega), hs1 a j (by omega) (by omega)])
  change post (some (if (G.now.C ^^^ 2 ^ b).testBit b then 1 else 0)) _ at fin
  cases hq : (G.now.C ^^^ 2 ^ b).testBit b with
  | true =>
    rw [hq] at fin
    rw [(xb_tb _ _).mpr hq]
    exact fin
  | false =>
    rw [hq] at fin
    have q : ¬ (G.now.C ^^^ 2 ^ b) / 2 ^ b % 2 = 1 := fun z => by rw [(xb_tb _ _).mp z] at hq; cases hq
    have : (G.now.C ^^^ 2 ^ b) / 2 ^ b % 2 = 0 := by omega
    rw [this]
    exact fin
theorem a_sit {x y : Int32} (h : RelC D G) (hg : gok G) (hp : ∀ D', RelC D' (aSit G x y).2 → (∀ a, 111 ≤ a → D' a = D a) → post (some (aSit G x y).1) D') : xRuns Γ (n + 3) hX8_sit [xR 0 8 0, xI x, xI y] D post := by
  have ho := hg.2.2.1.1
  have h8 := ho.1
  have h4 := ho.2.1
  have hr := h.2.1
  refine x_runs kX8_sit (by decide +kernel) rfl ?_
  rw [aSit] at hp
  refine x_call [xI x] rfl rfl rfl rfl rfl rfl rfl (c_noMan hr ho ?_)
  rcases hx_m : gI x 0 ((G.now.M : Int) - 1) with _ | m
  · rw [hx_m] at hp
    refine x0_ne rfl rfl (fun _ => ?_) (fun h => absurd h (by decide))
    exact x_ret rfl rfl rfl rfl (hp D h (fun _ _ => rfl))
  rw [hx_m] at hp
  dsimp only at hp
  obtain ⟨e1_m, e2_m, e3_m, e4_m⟩ := gI_some (by decide) hx_m
  subst e1_m
  have h_m : m < G.now.M := by omega
  refine x0_ne rfl rfl (fun h => absurd rfl h) (fun _ => ?_)
  have go : ∀ o, gO y ((G.now.B : Int) - 1) = some o → xW Γ (n + 3) hX8_sit rX8_sit 24 [some (xR 0 8 0), some (xI (nI m)), some (xI y), none] [] D post := by
    intro o hq
    rw [hq] at hp
    dsimp only at hp
    obtain ⟨ey, hb⟩ := gO_b hq
    subst ey
    have hob : ∀ c, o = some c → c < 2 ^ 31 := fun c hc => by have := hb c hc; omega
    refine x_aldN m rfl rfl rfl (by omega) rfl ?_
    rw [hr.2.2.2.2.2.2.2.2 m h_m]
    have key : xby (G.now.bi m) = xby o ↔ G.now.bi m = o := by
      cases o with
      | none => exact xby_m1 (wok_bi ho h_m)
      | some b => exact xby_eq (hob b rfl) (wok_bi ho h_m)
    refine xi_ne rfl rfl (fun h2 => ?_) (fun h2 => ?_)
    · rw [if_neg (fun z => h2 (key.mpr z))] at hp
      refine x_call [xR 0 7 21] rfl rfl rfl rfl rfl rfl rfl (c_remember h.2.2.2.1 hr h8 h4 hg.2.2.2.1.1 (fun D1 hh1 hs1 => ?_))
      have hr1 : rW D1 21 G.now := rW_out hr (fun a ha hb => hs1 a (by omega))
      refine x_call [xI (nI m), xI (xby o)] rfl rfl rfl rfl rfl rfl rfl (c_seat hr1 ho h_m (fun b hq => by have := hb b hq; omega) (fun D2 hr2 hs2 => ?_))
      refine x_ret rfl rfl rfl rfl ?_
      exact hp _ (RelC_now h hh1 hs1 hr2 (fun a ha => hs2 a (by omega))) (fun a ha => by rw [hs2 a (by omega), hs1 a (by omega)])
    · rw [if_pos (key.mp h2)] at hp
      exact x_ret rfl rfl rfl rfl (hp D h (fun _ _ => rfl))
  refine xi_eq rfl rfl (fun (h2 : y = -1) => go none (by rw [gO, if_pos h2])) (fun (h2 : ¬ y = -1) => ?_)
  refine x_call [xI y] rfl rfl rfl rfl rfl rfl rfl (c_noBird hr ho ?_)
  rcases hy : gI y 0 ((G.now.B : Int) - 1) with _ | b
  · have e : gO y ((G.now.B : Int) - 1) = none := by rw [gO, if_neg h2, hy]
    rw [e] at hp
    refine x0_eq rfl rfl (fun h => absurd h (by decide)) (fun _ => ?_)
    exact x_ret rfl rfl rfl rfl (hp D h (fun _ _ => rfl))
  · refine x0_eq rfl rfl (fun _ => ?_) (fun h => absurd rfl h)
    exact go (some b) (by rw [gO, if_neg h2, hy])
theorem am_sit {x y : Int32} (h : RelM D G) (hg : gok G) (hp : ∀ D', RelM D' (aSit G x y).2 → (∀ a, a < 111 → D' a = D a) → post (some (aSit G x y).1) D') : xRuns Γ (n + 3) hX9_sit [xR 0 9 111, xI x, xI y] D post := by
  have ho := hg.2.2.1.1
  have h8 := ho.1
  have h4 := ho.2.1
  have hr := h.2.1
  refine x_runs kX9_sit (by decide +kernel) rfl ?_
  rw [aSit] at hp
  refine x_call [xI x] rfl rfl rfl rfl rfl rfl rfl (c_isMan hr ho ?_)
  rcases hx_m : gI x 0 ((G.now.M : Int) - 1) with _ | m
  · rw [hx_m] at hp
    refine x0_eq rfl rfl (fun _ => ?_) (fun h => absurd rfl h)
    exact x_ret rfl rfl rfl rfl (hp D h (fun _ _ => rfl))
  rw [hx_m] at hp
  dsimp only at hp
  obtain ⟨e1_m, e2_m, e3_m, e4_m⟩ := gI_some (by decide) hx_m
  subst e1_m
  have h_m : m < G.now.M := by omega
  refine x0_eq rfl rfl (fun h => absurd h (by simp)) (fun _ => ?_)
  have go : ∀ o, gO y ((G.now.B : Int) - 1) = some o → xW Γ (n + 3) hX9_sit rX9_sit 24 [some (xR 0 9 111), some (xI (nI m)), some (xI y), none] [] D post := by
    intro o hq
    rw [hq] at hp
    dsimp only at hp
    obtain ⟨ey, hb⟩ := gO_b hq
    subst ey
    have hob : ∀ c, o = some c → c < 2 ^ 31 := fun c hc => by have := hb c hc; omega
    refine x_aldN (0 + 104 + m) rfl rfl (by rw [Nat.zero_add]; exact nI_add 104 m) (by omega) rfl ?_
    rw [hr.2.2.2.2.2.2.2.2 m h_m]
    have key : xby (G.now.bi m) = xby o ↔ G.now.bi m = o := by
      cases o with
      | none => exact xby_m1 (wok_bi ho h_m)
      | some b => exact xby_eq (hob b rfl) (wok_bi ho h_m)
    refine xi_ne rfl rfl (fun h2 => ?_) (fun h2 => ?_)
    · rw [if_neg (fun z => h2 (key.mpr z))] at hp
      refine x_call [] rfl rfl rfl rfl rfl rfl rfl (x_push h hg (fun D1 hh1 hs1 hr1 hsp1 => ?_))
      refine x_call [xI (nI 0), xI (nI m), xI (xby o)] rfl rfl rfl rfl rfl rfl rfl (c_sets hr1 ho (by omega) h_m (fun b hq => by have := hb b hq; omega) (fun D2 hr2 hs2 => ?_))
      refine x_ret rfl rfl rfl rfl ?_
      exact hp _ (RelM_now h hg hh1 hs1 hr2 (sameMP.ofM hs2) (mSp_sameM hsp1 hs2)) (fun a ha => funext fun j => by rw [hs2 a j (by omega), hs1 a j (by omega) (by omega)])
    · rw [if_pos (key.mp h2)] at hp
      exact x_ret rfl rfl rfl rfl (hp D h (fun _ _ => rfl))
  refine xi_eq rfl rfl (fun (h2 : y = -1) => go none (by rw [gO, if_pos h2])) (fun (h2 : ¬ y = -1) => ?_)
  refine x_call [xI y] rfl rfl rfl rfl rfl rfl rfl (c_isBird hr ho ?_)
  rcases hy : gI y 0 ((G.now.B : Int) - 1) with _ | b
  · have e : gO y ((G.now.B : Int) - 1) = none := by rw [gO, if_neg h2, hy]
    rw [e] at hp
    refine x0_ne rfl rfl (fun h => absurd rfl h) (fun _ => ?_)
    exact x_ret rfl rfl rfl rfl (hp D h (fun _ _ => rfl))
  · refine x0_ne rfl rfl (fun _ => ?_) (fun h => absurd h (by simp))
    exact go (some b) (by rw [gO, if_neg h2, hy])
theorem a_undo (h : RelC D G) (hg : gok G) (hp : ∀ D', RelC D' (aUndo G).2 → (∀ a, 111 ≤ a → D' a = D a) → post (some (aUndo G).1) D') : xRuns Γ (n + 3) hX8_undo [xR 0 8 0] D post := by
  have g4 := hg.2.2.2.1
  have hh := h.2.2.2.1
  have hsz : D 36 4 = nI G.past.length := by obtain ⟨nx, sb, q⟩ := hh; exact q.2.2.2.2.1
  refine x_runs kX8_undo (by decide +kernel) rfl ?_
  rw [aUndo] at hp
  rcases hq : G.past with _ | ⟨S, past⟩
  · rw [hq] at hp hsz
    refine x0_ne rfl rfl (fun h2 => absurd hsz h2) (fun _ => ?_)
    exact x_ret rfl rfl rfl rfl (hp D h (fun _ _ => rfl))
  · rw [hq] at hp hsz hh g4
    dsimp only at hp
    rw [List.length_cons] at hsz
    have hl := g4.1
    rw [List.length_cons] at hl
    have hS := (g4.2 S (List.mem_cons_self ..)).1
    refine x0_ne rfl rfl (fun _ => ?_) (fun h2 => absurd (hsz.symm.trans h2) (nI_ne0 (by omega) (by omega)))
    refine x_call [xR 0 7 21] rfl rfl rfl rfl rfl rfl rfl (c_takeBack hh (by omega) hS.1 hS.2.1 (fun D1 hh1 hr1 hs1 => ?_))
    refine x_ret rfl rfl rfl rfl ?_
    have hz : D1 36 4 = nI past.length := by obtain ⟨nx, sb, q⟩ := hh1; exact q.2.2.2.2.1
    rw [hz]
    exact hp D1 (RelC_set h hh1 hr1 (fun a ha hb => hs1 a (by omega) (by omega))) (fun a ha => hs1 a (by omega) (by omega))
theorem am_undo (h : RelM D G) (hg : gok G) (hp : ∀ D', RelM D' (aUndo G).2 → (∀ a, a < 111 → D' a = D a) → post (some (aUndo G).1) D') : xRuns Γ (n + 3) hX9_undo [xR 0 9 111] D post := by
  have g4 := hg.2.2.2.1
  have hh := h.2.2.2.1
  have hsz := hh.1
  refine x_runs kX9_undo (by decide +kernel) rfl ?_
  rw [aUndo] at hp
  rcases hq : G.past with _ | ⟨S, past⟩
  · rw [hq] at hp hsz
    refine x0_ne rfl rfl (fun h2 => absurd hsz h2) (fun _ => ?_)
    exact x_ret rfl rfl rfl rfl (hp D h (fun _ _ => rfl))
  · rw [hq] at hp hsz hh g4
    dsimp only at hp
    rw [List.length_cons] at hsz
    have hl := g4.1
    rw [List.length_cons] at hl
    have hS := (g4.2 S (List.mem_cons_self ..)).1
    refine x0_ne rfl rfl (fun _ => ?_) (fun h2 => absurd (hsz.symm.trans h2) (nI_ne0 (by omega) (by omega)))
    refine x_to 20 rfl ?_
    have e : D 111 1 - xnum 1 = nI past.length := by rw [hsz]; exact nI_pred _
    rw [e]
    have e2 : xnum 216 + xnum 108 * xup D 111 1 (nI past.length) 111 1 = nI (216 + 108 * past.length) := by
      rw [xup_at]
      show nI 216 + nI 108 * nI past.length = _
      rw [pk_mul, nI_add]
    refine x_to 33 rfl ?_
    rw [e2]
    refine x_call [xI (nI (216 + 108 * past.length)), xI (nI 0)] rfl rfl rfl rfl rfl rfl rfl (c_copyHarbour (by omega) (by omega) (by omega) (fun D1 hc1 hs1 => ?_))
    refine x_ret rfl rfl rfl rfl ?_
    have hz : D1 111 1 = nI past.length := by rw [hs1 111 1 (by omega), xup_at]
    rw [hz]
    have ea : ∀ a j, ¬ (a = 112 ∧ j < 108) → ¬ (a = 111 ∧ j = 1) → D1 a j = D a j := fun a j q1 q2 => by rw [hs1 a j (by omega), xup_o q2]
    have h0 := hh.2.1 0 (by rw [List.length_cons]; omega)
    have e0 : (S :: past).length - 1 - 0 = past.length := by rw [List.length_cons]; omega
    rw [e0] at h0
    have hr1 : rM D1 0 S := rM_copy hS.1 hS.2.1 (rM_out (D' := xup D 111 1 (nI past.length)) h0 hS.1 hS.2.1 (fun j _ _ => xup_o (by omega))) hc1
    refine hp D1 (RelM_set h hg ⟨hz, fun j hj => ?_, fun k hk => ⟨by rw [ea 113 k (by omega) (by omega)]; exact (hh.2.2 k hk).1, fun T hT => ?_⟩⟩ hr1 (fun a j q1 q2 q3 q4 q5 => ea a j (by omega) q2) (mSp_out h.2.2.2.2.2.2.2 (funext fun j => ea 138 j (by omega) (by omega)) (funext fun j => ea 139 j (by omega) (by omega)))) (fun a ha => funext fun j => ea a j (by omega) (by omega))
    · have hj2 := hh.2.1 (j + 1) (by rw [List.length_cons]; omega)
      have hok := (g4.2 past[j] (List.mem_cons_of_mem _ (List.getElem_mem hj))).1
      have ej : (S :: past).length - 1 - (j + 1) = past.length - 1 - j := by rw [List.length_cons]; omega
      rw [ej] at hj2
      exact rM_out hj2 hok.1 hok.2.1 (fun i q1 q2 => ea 112 i (by omega) (by omega))
    · have hok := (hg.2.2.2.2.1 k T hk hT).1
      exact rM_out ((hh.2.2 k hk).2 T hT) hok.1 hok.2.1 (fun i q1 q2 => ea 112 i (by omega) (by omega))
theorem a_keep {x : Int32} (h : RelC D G) (hg : gok G) (hp : ∀ D', RelC D' (aKeep G x).2 → (∀ a, 111 ≤ a → D' a = D a) → post (some (aKeep G x).1) D') : xRuns Γ (n + 3) hX8_keep [xR 0 8 0, xI x] D post := by
  have ho := hg.2.2.1.1
  have hr := h.2.1
  refine x_runs kX8_keep (by decide +kernel) rfl ?_
  rw [aKeep] at hp
  refine x_scall [xI x, xI (nI 0), xI (nI 1)] rfl rfl rfl rfl rfl rfl rfl (c_isNot (lo := 0) (hi := 1) (by decide) (by decide) ?_)
  rcases hx_k : gI x 0 1 with _ | k
  · rw [hx_k] at hp
    refine x0_eq rfl rfl (fun h => absurd h (by decide)) (fun _ => ?_)
    exact x_ret rfl rfl rfl rfl (hp D h (fun _ _ => rfl))
  rw [hx_k] at hp
  dsimp only at hp
  obtain ⟨e1_k, e2_k, e3_k, e4_k⟩ := gI_some (by decide) hx_k
  subst e1_k
  have h_k : k < 2 := by omega
  refine x0_eq rfl rfl (fun _ => ?_) (fun h => absurd rfl h)
  refine x_call [xI (nI k), xR 0 7 21] rfl rfl rfl rfl rfl rfl rfl (c_store h_k h.2.2.2.1 hr ho.1 ho.2.1 (fun D1 hh1 hs1 => ?_))
  refine x_ret rfl rfl rfl rfl ?_
  have hr1 : rW D1 21 G.now := rW_out hr (fun a ha hb => hs1 a (by omega))
  rw [hr1.2.2.1]
  exact hp D1 (RelC_set h hh1 hr1 (fun a ha hb => hs1 a hb)) (fun a ha => hs1 a (by omega))
theorem am_keep {x : Int32} (h : RelM D G) (hg : gok G) (hp : ∀ D', RelM D' (aKeep G x).2 → (∀ a, a < 111 → D' a = D a) → post (some (aKeep G x).1) D') : xRuns Γ (n + 3) hX9_keep [xR 0 9 111, xI x] D post := by
  have ho := hg.2.2.1.1
  have hr := h.2.1
  have hh := h.2.2.2.1
  have g4 := hg.2.2.2.1
  refine x_runs kX9_keep (by decide +kernel) rfl ?_
  rw [aKeep] at hp
  refine x_scall [xL x.toInt64, xL (Int64.ofNat 0), xL (Int64.ofNat 1)] rfl rfl rfl rfl rfl rfl rfl (c_inI (lo := 0) (hi := 1) (by decide) (by decide) ?_)
  rcases hx_k : gI x 0 1 with _ | k
  · rw [hx_k] at hp
    refine x0_ne rfl rfl (fun h => absurd rfl h) (fun _ => ?_)
    exact x_ret rfl rfl rfl rfl (hp D h (fun _ _ => rfl))
  rw [hx_k] at hp
  dsimp only at hp
  obtain ⟨e1_k, e2_k, e3_k, e4_k⟩ := gI_some (by decide) hx_k
  subst e1_k
  have h_k : k < 2 := by omega
  refine x0_ne rfl rfl (fun _ => ?_) (fun h => absurd h (by simp))
  have e2 : xnum 1080 + xnum 108 * nI k = nI (1080 + 108 * k) := by
    show nI 1080 + nI 108 * nI k = _
    rw [pk_mul, nI_add]
  refine x_to 23 rfl ?_
  rw [e2]
  refine x_call [xI (nI 0), xI (nI (1080 + 108 * k))] rfl rfl rfl rfl rfl rfl rfl (c_copyHarbour (by omega) (by omega) (by omega) (fun D1 hc1 hs1 => ?_))
  refine x_bstN k rfl rfl rfl h_k rfl (Or.inr rfl) ?_
  refine x_aldN (0 + 2) rfl rfl rfl (by omega) rfl ?_
  refine x_ret rfl rfl rfl rfl ?_
  have ea : ∀ a j, ¬ (a = 112 ∧ 1080 + 108 * k ≤ j ∧ j < 1080 + 108 * k + 108) → ¬ (a = 113 ∧ j = k) → xup D1 113 k (xnum 1) a j = D a j := fun a j q1 q2 => by rw [xup_o q2, hs1 a j q1]
  have hr2 : rM (xup D1 113 k (xnum 1)) 0 G.now := rM_out hr ho.1 ho.2.1 (fun j _ _ => ea 112 j (by omega) (by omega))
  rw [hr2.2.2.1]
  refine hp _ (RelM_set h hg ⟨by rw [ea 111 1 (by omega) (by omega)]; exact hh.1, fun j hj => ?_, fun i hi => ?_⟩ hr2 (fun a j q1 q2 q3 q4 q5 => ea a j (by omega) (by omega)) (mSp_out h.2.2.2.2.2.2.2 (funext fun j => ea 138 j (by omega) (by omega)) (funext fun j => ea 139 j (by omega) (by omega)))) (fun a ha => funext fun j => ea a j (by omega) (by omega))
  · have hok := (g4.2 G.past[j] (List.getElem_mem hj)).1
    have := g4.1
    exact rM_out (hh.2.1 j hj) hok.1 hok.2.1 (fun i q1 q2 => ea 112 i (by omega) (by omega))
  · by_cases e : i = k
    · subst e
      refine ⟨by rw [xup_at]; simp [wuf]; rfl, fun T hT => ?_⟩
      have : G.now = T := by simpa [wuf] using hT
      subst this
      refine rM_copy ho.1 ho.2.1 hr (fun j hj => ?_)
      rw [xup_o (by omega)]
      exact hc1 j hj
    · have ew : wuf G.kept k (some G.now) i = G.kept i := by simp [wuf, e]
      rw [ew, ea 113 i (by omega) (by omega)]
      refine ⟨(hh.2.2 i hi).1, fun T hT => ?_⟩
      have hok := (hg.2.2.2.2.1 i T hi hT).1
      exact rM_out ((hh.2.2 i hi).2 T hT) hok.1 hok.2.1 (fun j q1 q2 => ea 112 j (by omega) (by omega))
theorem a_back {x : Int32} (h : RelC D G) (hg : gok G) (hp : ∀ D', RelC D' (aBack G x).2 → (∀ a, 111 ≤ a → D' a = D a) → post (some (aBack G x).1) D') : xRuns Γ (n + 3) hX8_back [xR 0 8 0, xI x] D post := by
  refine x_runs kX8_back (by decide +kernel) rfl ?_
  rw [aBack] at hp
  refine x_scall [xI x, xI (nI 0), xI (nI 1)] rfl rfl rfl rfl rfl rfl rfl (c_isNot (lo := 0) (hi := 1) (by decide) (by decide) ?_)
  rcases hx_k : gI x 0 1 with _ | k
  · rw [hx_k] at hp
    refine x0_eq rfl rfl (fun h => absurd h (by decide)) (fun _ => ?_)
    exact x_ret rfl rfl rfl rfl (hp D h (fun _ _ => rfl))
  rw [hx_k] at hp
  dsimp only at hp
  obtain ⟨e1_k, e2_k, e3_k, e4_k⟩ := gI_some (by decide) hx_k
  subst e1_k
  have h_k : k < 2 := by omega
  refine x0_eq rfl rfl (fun _ => ?_) (fun h => absurd rfl h)
  refine x_call [xI (nI k)] rfl rfl rfl rfl rfl rfl rfl (c_isStored h_k h.2.2.2.1 ?_)
  rcases hq : G.kept k with _ | S
  · rw [hq] at hp
    refine x0_ne rfl rfl (fun h => absurd rfl h) (fun _ => ?_)
    exact x_ret rfl rfl rfl rfl (hp D h (fun _ _ => rfl))
  · rw [hq] at hp
    dsimp only at hp
    have hok := (hg.2.2.2.2.1 k S h_k hq).1
    refine x0_ne rfl rfl (fun _ => ?_) (fun h => absurd h (by simp))
    refine x_call [xI (nI k), xR 0 7 21] rfl rfl rfl rfl rfl rfl rfl (c_restore h_k h.2.2.2.1 hq hok.1 hok.2.1 (fun D1 hh1 hr1 hs1 => ?_))
    refine x_ret rfl rfl rfl rfl ?_
    rw [hr1.2.2.1]
    exact hp D1 (RelC_set h hh1 hr1 (fun a ha hb => hs1 a (by omega) (by omega))) (fun a ha => hs1 a (by omega) (by omega))
theorem am_back {x : Int32} (h : RelM D G) (hg : gok G) (hp : ∀ D', RelM D' (aBack G x).2 → (∀ a, a < 111 → D' a = D a) → post (some (aBack G x).1) D') : xRuns Γ (n + 3) hX9_back [xR 0 9 111, xI x] D post := by
  have hh := h.2.2.2.1
  refine x_runs kX9_back (by decide +kernel) rfl ?_
  rw [aBack] at hp
  refine x_scall [xL x.toInt64, xL (Int64.ofNat 0), xL (Int64.ofNat 1)] rfl rfl rfl rfl rfl rfl rfl (c_inI (lo := 0) (hi := 1) (by decide) (by decide) ?_)
  rcases hx_k : gI x 0 1 with _ | k
  · rw [hx_k] at hp
    refine x0_ne rfl rfl (fun h => absurd rfl h) (fun _ => ?_)
    exact x_ret rfl rfl rfl rfl (hp D h (fun _ _ => rfl))
  rw [hx_k] at hp
  dsimp only at hp
  obtain ⟨e1_k, e2_k, e3_k, e4_k⟩ := gI_some (by decide) hx_k
  subst e1_k
  have h_k : k < 2 := by omega
  refine x0_ne rfl rfl (fun _ => ?_) (fun h => absurd h (by simp))
  refine x_bldN k rfl rfl rfl h_k rfl ?_
  rw [(hh.2.2 k h_k).1]
  rcases hq : G.kept k with _ | S
  · rw [hq] at hp
    refine x0_ne rfl rfl (fun h => absurd rfl h) (fun _ => ?_)
    exact x_ret rfl rfl rfl rfl (hp D h (fun _ _ => rfl))
  · rw [hq] at hp
    dsimp only at hp
    have hok := (hg.2.2.2.2.1 k S h_k hq).1
    refine x0_ne rfl rfl (fun _ => ?_) (fun h => absurd h (by simp))
    have e2 : xnum 1080 + xnum 108 * nI k = nI (1080 + 108 * k) := by
      show nI 1080 + nI 108 * nI k = _
      rw [pk_mul, nI_add]
    refine x_to 35 rfl ?_
    rw [e2]
    refine x_call [xI (nI (1080 + 108 * k)), xI (nI 0)] rfl rfl rfl rfl rfl rfl rfl (c_copyHarbour (by omega) (by omega) (by omega) (fun D1 hc1 hs1 => ?_))
    refine x_aldN (0 + 2) rfl rfl rfl (by omega) rfl ?_
    refine x_ret rfl rfl rfl rfl ?_
    have ea : ∀ a j, ¬ (a = 112 ∧ j < 108) → ¬ (a = 111 ∧ j = 1) → xup D1 111 1 (xnum 0) a j = D a j := fun a j q1 q2 => by rw [xup_o q2, hs1 a j (by omega)]
    have hr1 : rM D1 0 S := rM_copy hok.1 hok.2.1 ((hh.2.2 k h_k).2 S hq) hc1
    have hr2 : rM (xup D1 111 1 (xnum 0)) 0 S := rM_out hr1 hok.1 hok.2.1 (fun j _ _ => xup_o (by omega))
    rw [hr2.2.2.1]
    refine hp _ (RelM_set h hg ⟨by rw [xup_at]; rfl, fun j hj => absurd hj (Nat.not_lt_zero j), fun i hi => ⟨by rw [ea 113 i (by omega) (by omega)]; exact (hh.2.2 i hi).1, fun T hT => ?_⟩⟩ hr2 (fun a j q1 q2 q3 q4 q5 => ea a j (by omega) q2) (mSp_out h.2.2.2.2.2.2.2 (funext fun j => ea 138 j (by omega) (by omega)) (funext fun j => ea 139 j (by omega) (by omega)))) (fun a ha => funext fun j => ea a j (by omega) (by omega))
    have hokT := (hg.2.2.2.2.1 i T hi hT).1
    exact rM_out ((hh.2.2 i hi).2 T hT) hokT.1 hokT.2.1 (fun j q1 q2 => ea 112 j (by omega) (by omega))
end A4
end
section
/-! ===== said, when, keeps ===== -/
def sokl (sp : Nat → List Nat) : Prop := ∀ z w, w ∈ sp z → w < 10
theorem sok_spk {B : Nat} {kd : Nat → Nat} {b p hs : Nat} : ∀ (t said : Nat) (q : wKf × (Nat → List Nat)), sokl q.2 → sokl (kSpk kd b p hs B t said q).2
  | 0, _, _, h => h
  | t + 1, said, q, h => by
    rw [kSpk]
    split
    · exact h
    · rename_i k hk
      refine sok_spk t _ _ (fun z w hw => ?_)
      have hw : w ∈ wuf q.2 p (q.2 p ++ [k]) z := hw
      simp only [wuf] at hw
      split at hw
      · rcases List.mem_append.mp hw with e | e
        · exact h p w e
        · rw [List.mem_singleton.mp e]
          exact wBst_lt 10 k hk
      · exact h z w hw
theorem sok_spo {B : Nat} {kd : Nat → Nat} {p aw : Nat} : ∀ (b : Nat) (q : wKf × (Nat → List Nat)), sokl q.2 → sokl (kSpo kd p aw B b q).2
  | 0, _, h => h
  | b + 1, q, h => by
    rw [kSpo]
    split
    · exact sok_spk _ _ _ (sok_spo b q h)
    · exact sok_spo b q h
theorem sok_per {S : wS} : ∀ (p : Nat) (q : wKf × (Nat → List Nat)), sokl q.2 → sokl (kPer S p q).2
  | 0, _, h => h
  | p + 1, q, h => by
    rw [kPer]
    split
    · exact sok_per p q h
    · exact sok_spo _ _ (sok_per p q h)
theorem said_lt (S : wS) : sokl (wSaid S) := sok_per 4 _ (fun _ _ h => by cases h)
theorem said_g {S : wS} {p i w : Nat} (h : (wSaid S p)[i]? = some w) : w < 10 := said_lt S p w (List.mem_of_getElem? h)
def wWhn (S : wS) (b w k : Nat) : Nat → Nat → Option Nat
  | 0, _ => none
  | f + 1, i => if k ≤ (wPassN S i).K b w then some i else wWhn S b w k f (i + 1)
def wKept (S : wS) (m b k : Nat) : Nat := wCnt (S.ha m &&& wWell (wPassN (wSeat S m (some b)) k) b)
def aSaid (G : gS) (x y : Int32) : Int32 := match gI x 0 3 with
  | none => -2
  | some p => match gI y 0 15 with
    | none => -3
    | some i => xby ((wSaid G.now p)[i]?)
def aWhen (G : gS) (x y z : Int32) : Int32 := match gI x 0 ((G.now.B : Int) - 1) with
  | none => -2
  | some b => match gI y 0 9 with
    | none => -2
    | some w => match gI z 1 9 with
      | none => -3
      | some k => xby (wWhn G.now b w k 61 0)
def aKeeps (G : gS) (x y z : Int32) : Int32 := match gI x 0 ((G.now.M : Int) - 1) with
  | none => -2
  | some m => match gI y 0 ((G.now.B : Int) - 1) with
    | none => -2
    | some b => match gI z 1 20 with
      | none => -3
      | some k => nI (wKept G.now m b k)
section A5
variable {Γ : xG} {n : Nat} {D : xM} {post : Option Int32 → xM → Prop} {G : gS} {S : wS}
theorem c_foretell (hr : rW D 21 S) (ho : wok S) (hE : S.E + 1 < 1000000) (hp : ∀ D', rP D' 34 35 (wSaid S) → (∀ a, (a < 27 ∨ 35 < a) → D' a = D a) → post none D') : xRuns Γ (n + 5) hX8_foretellSpeech [xR 0 8 0] D post := by
  refine x_runs kX8_foretellSpeech (by decide +kernel) rfl ?_
  refine x_call [xR 0 7 21] rfl rfl rfl rfl rfl rfl rfl (c_become (by omega) (fun D1 hc hs => ?_))
  refine x_call [xR 0 4 33] rfl rfl rfl rfl rfl rfl rfl (c_passEvening (by omega) (hc S ho.1 ho.2.1 hr) ho hE (fun D2 hr2 hP2 hs2 => ?_))
  exact x_vret rfl rfl rfl (hp D2 hP2 (fun a ha => by rw [hs2 a (by omega) (by omega) (by omega), hs a (by omega)]))
theorem a_said {x y : Int32} (h : RelC D G) (hg : gok G) (hp : ∀ D', RelC D' G → (∀ a, 111 ≤ a → D' a = D a) → post (some (aSaid G x y)) D') : xRuns Γ (n + 6) hX8_said [xR 0 8 0, xI x, xI y] D post := by
  have ho := hg.2.2.1.1
  have hE := hg.2.2.1.2
  have hr := h.2.1
  refine x_runs kX8_said (by decide +kernel) rfl ?_
  rw [aSaid] at hp
  refine x_scall [xI x] rfl rfl rfl rfl rfl rfl rfl (c_noPerch ?_)
  rcases hx_p : gI x 0 3 with _ | p
  · rw [hx_p] at hp
    refine x0_eq rfl rfl (fun h => absurd h (by decide)) (fun _ => ?_)
    exact x_ret rfl rfl rfl rfl (hp D h (fun _ _ => rfl))
  rw [hx_p] at hp
  dsimp only at hp
  obtain ⟨e1_p, e2_p, e3_p, e4_p⟩ := gI_some (by decide) hx_p
  subst e1_p
  have h_p : p < 4 := by omega
  refine x0_eq rfl rfl (fun _ => ?_) (fun h => absurd rfl h)
  refine x_scall [xI y, xI (nI 0), xI (nI 15)] rfl rfl rfl rfl rfl rfl rfl (c_isNot (lo := 0) (hi := 15) (by decide) (by decide) ?_)
  rcases hx_i : gI y 0 15 with _ | i
  · rw [hx_i] at hp
    refine x0_eq rfl rfl (fun h => absurd h (by decide)) (fun _ => ?_)
    exact x_ret rfl rfl rfl rfl (hp D h (fun _ _ => rfl))
  rw [hx_i] at hp
  dsimp only at hp
  obtain ⟨e1_i, e2_i, e3_i, e4_i⟩ := gI_some (by decide) hx_i
  subst e1_i
  have h_i : i < 16 := by omega
  refine x0_eq rfl rfl (fun _ => ?_) (fun h => absurd rfl h)
  refine x_call [] rfl rfl rfl rfl rfl rfl rfl (c_foretell hr ho (by omega) (fun D1 hP1 hs1 => ?_))
  refine x_call [xI (nI p), xI (nI i)] rfl rfl rfl rfl rfl rfl rfl (c_wordAt hP1 (len_said ho) h_p h_i ?_)
  exact x_ret rfl rfl rfl rfl (hp D1 (RelC_out h (fun a ha _ => hs1 a ha)) (fun a ha => hs1 a (by omega)))
theorem c_saidAt {sp : Nat → List Nat} {p i : Nat} (hr : rP D 138 139 sp) (hall : ∀ q, q < 4 → (sp q).length ≤ 16) (hp4 : p < 4) (hi : i < 16) (hp : post (some (xby ((sp p)[i]?))) D) : xRuns Γ n hX9_saidAt [xR 0 9 111, xI (nI p), xI (nI i)] D post := by
  have h16 := hall p hp4
  refine x_runs kX9_saidAt (by decide +kernel) rfl ?_
  refine x_aldN p rfl rfl rfl hp4 rfl ?_
  rw [(hr p hp4).1]
  refine xi_geN i (sp p).length rfl rfl rfl rfl (by omega) (by omega) (fun h2 => ?_) (fun h2 => ?_)
  · rw [List.getElem?_eq_none h2] at hp
    exact x_ret rfl rfl rfl rfl hp
  · refine x_aldN (p * 16 + i) rfl rfl (by
      show nI 16 * nI p + nI i = _
      rw [pk_mul, nI_add]
      exact congrArg nI (by omega)) (by omega) rfl ?_
    refine x_goto rfl rfl (x_ret rfl rfl rfl rfl ?_)
    rw [(hr p hp4).2 i h2]
    rw [List.getElem?_eq_getElem h2] at hp
    rw [List.getD_eq_getElem?_getD, List.getElem?_eq_getElem h2]
    exact hp
theorem am_said {x y : Int32} (h : RelM D G) (hg : gok G) (hp : ∀ D', RelM D' G → (∀ a, a < 111 → D' a = D a) → post (some (aSaid G x y)) D') : xRuns Γ (n + 6) hX9_said [xR 0 9 111, xI x, xI y] D post := by
  have ho := hg.2.2.1.1
  have hE := hg.2.2.1.2
  have hr := h.2.1
  refine x_runs kX9_said (by decide +kernel) rfl ?_
  rw [aSaid] at hp
  refine x_scall [xL x.toInt64, xL (Int64.ofNat 0), xL (Int64.ofNat 3)] rfl rfl rfl rfl rfl rfl rfl (c_inI (lo := 0) (hi := 3) (by decide) (by decide) ?_)
  rcases hx_p : gI x 0 3 with _ | p
  · rw [hx_p] at hp
    refine x0_ne rfl rfl (fun h => absurd rfl h) (fun _ => ?_)
    exact x_ret rfl rfl rfl rfl (hp D h (fun _ _ => rfl))
  rw [hx_p] at hp
  dsimp only at hp
  obtain ⟨e1_p, e2_p, e3_p, e4_p⟩ := gI_some (by decide) hx_p
  subst e1_p
  have h_p : p < 4 := by omega
  refine x0_ne rfl rfl (fun _ => ?_) (fun h => absurd h (by simp))
  refine x_scall [xL y.toInt64, xL (Int64.ofNat 0), xL (Int64.ofNat 15)] rfl rfl rfl rfl rfl rfl rfl (c_inI (lo := 0) (hi := 15) (by decide) (by decide) ?_)
  rcases hx_i : gI y 0 15 with _ | i
  · rw [hx_i] at hp
    refine x0_ne rfl rfl (fun h => absurd rfl h) (fun _ => ?_)
    exact x_ret rfl rfl rfl rfl (hp D h (fun _ _ => rfl))
  rw [hx_i] at hp
  dsimp only at hp
  obtain ⟨e1_i, e2_i, e3_i, e4_i⟩ := gI_some (by decide) hx_i
  subst e1_i
  have h_i : i < 16 := by omega
  refine x0_ne rfl rfl (fun _ => ?_) (fun h => absurd h (by simp))
  refine x_call [] rfl rfl rfl rfl rfl rfl rfl (c_layTried hr ho.1 ho.2.1 (fun D1 hr1 hs1 => ?_))
  obtain ⟨sp0, hP0, hl0⟩ := h.2.2.2.2.2.2.2
  refine x_call [xI (nI 1)] rfl rfl rfl rfl rfl rfl rfl (c_passTried (k := 1) (by omega) hr1 (rP_outM hP0 hs1) hl0 ho (by omega) (fun D2 hr2 hsp hs2 => ?_))
  obtain ⟨sp, q1, q2, q3⟩ := hsp
  have q3 := q3 (by omega)
  subst q3
  refine x_call [xI (nI p), xI (nI i)] rfl rfl rfl rfl rfl rfl rfl (c_saidAt q1 q2 h_p h_i ?_)
  exact x_ret rfl rfl rfl rfl (hp D2 (RelM_out h hg (fun a j g1 g2 g3 _ => by rw [hs2 a j (by omega) g2 g3, hs1 a j (by omega)]) ⟨_, q1, q2⟩) (fun a ha => funext fun j => by rw [hs2 a j (by omega) (by omega) (by omega), hs1 a j (by omega)]))
theorem a_when {x y z : Int32} (h : RelC D G) (hg : gok G) (hp : ∀ D', RelC D' G → (∀ a, 111 ≤ a → D' a = D a) → post (some (aWhen G x y z)) D') : xRuns Γ (n + 5) hX8_when [xR 0 8 0, xI x, xI y, xI z] D post := by
  have ho := hg.2.2.1.1
  have hE := hg.2.2.1.2
  have h8 := ho.1
  have hr := h.2.1
  refine x_runs kX8_when (by decide +kernel) rfl ?_
  rw [aWhen] at hp
  refine x_call [xI x] rfl rfl rfl rfl rfl rfl rfl (c_noBird hr ho ?_)
  rcases hx_b : gI x 0 ((G.now.B : Int) - 1) with _ | b
  · rw [hx_b] at hp
    refine x0_ne rfl rfl (fun _ => ?_) (fun h => absurd h (by decide))
    exact x_ret rfl rfl rfl rfl (hp D h (fun _ _ => rfl))
  rw [hx_b] at hp
  dsimp only at hp
  obtain ⟨e1_b, e2_b, e3_b, e4_b⟩ := gI_some (by decide) hx_b
  subst e1_b
  have h_b : b < G.now.B := by omega
  refine x0_ne rfl rfl (fun h => absurd rfl h) (fun _ => ?_)
  refine x_scall [xI y] rfl rfl rfl rfl rfl rfl rfl (c_noWord ?_)
  rcases hx_w : gI y 0 9 with _ | w
  · rw [hx_w] at hp
    refine x0_eq rfl rfl (fun h => absurd h (by decide)) (fun _ => ?_)
    exact x_ret rfl rfl rfl rfl (hp D h (fun _ _ => rfl))
  rw [hx_w] at hp
  dsimp only at hp
  obtain ⟨e1_w, e2_w, e3_w, e4_w⟩ := gI_some (by decide) hx_w
  subst e1_w
  have h_w : w < 10 := by omega
  refine x0_eq rfl rfl (fun _ => ?_) (fun h => absurd rfl h)
  refine x_scall [xI z, xI (nI 1), xI (nI 9)] rfl rfl rfl rfl rfl rfl rfl (c_isNot (lo := 1) (hi := 9) (by decide) (by decide) ?_)
  rcases hx_k : gI z 1 9 with _ | k
  · rw [hx_k] at hp
    refine x0_eq rfl rfl (fun h => absurd h (by decide)) (fun _ => ?_)
    exact x_ret rfl rfl rfl rfl (hp D h (fun _ _ => rfl))
  rw [hx_k] at hp
  dsimp only at hp
  obtain ⟨e1_k, e2_k, e3_k, e4_k⟩ := gI_some (by decide) hx_k
  subst e1_k
  have h_k : k < 10 := by omega
  refine x0_eq rfl rfl (fun _ => ?_) (fun h => absurd rfl h)
  refine x_call [xR 0 7 21] rfl rfl rfl rfl rfl rfl rfl (c_become (by omega) (fun D1 hc hs => ?_))
  refine x_to 45 rfl ?_
  have loop : ∀ (f i : Nat) (D2 : xM), i + f = 61 → wWhn G.now b w k 61 0 = wWhn G.now b w k f i → rW D2 27 (wPassN G.now i) → (∀ a, (a < 27 ∨ 35 < a) → D2 a = D a) → xW Γ (n + 5) hX8_when rX8_when 45 [some (xR 0 8 0), some (xI (nI b)), some (xI (nI w)), some (xI (nI k)), some (xI (nI i))] [] D2 post := by
    intro f
    induction f with
    | zero =>
      intro i D2 hi hw hr2 hs2
      obtain rfl : i = 61 := by omega
      rw [hw] at hp
      refine xi_gtN 61 60 rfl rfl rfl rfl (by omega) (by omega) (fun _ => ?_) (fun h => absurd h (by omega))
      exact x_ret rfl rfl rfl rfl (hp D2 (RelC_out h (fun a ha _ => hs2 a ha)) (fun a ha => hs2 a (by omega)))
    | succ f ih =>
      intro i D2 hi hw hr2 hs2
      have ho2 := wok_passN ho i (by omega)
      have hb2 : b < (wPassN G.now i).B := by rw [(passN_B G.now i).1]; exact h_b
      have h9 := ho2.2.2.2.2.2.2.1 b w hb2 h_w
      refine xi_gtN i 60 rfl rfl rfl rfl (by omega) (by omega) (fun h => absurd h (by omega)) (fun h2 => ?_)
      refine x_call [xI (nI b), xI (nI w)] rfl rfl rfl rfl rfl rfl rfl (c_knowledge hr2 ho2 hb2 h_w ?_)
      have hw2 : wWhn G.now b w k (f + 1) i = if k ≤ (wPassN G.now i).K b w then some i else wWhn G.now b w k f (i + 1) := rfl
      rw [hw2] at hw
      refine xi_ltN ((wPassN G.now i).K b w) k rfl rfl rfl rfl (by omega) (by omega) (fun h3 => ?_) (fun h3 => ?_)
      · rw [if_neg (by omega)] at hw
        refine x_call [xR 0 4 33] rfl rfl rfl rfl rfl rfl rfl (c_passEvening (by omega) hr2 ho2 (by rw [(passN_B G.now i).2.2]; omega) (fun D3 hr3 hP3 hs3 => ?_))
        have IH := ih (i + 1) D3 (by omega) hw hr3 (fun a ha => by rw [hs3 a (by omega) (by omega) (by omega)]; exact hs2 a ha)
        rw [← nI_1] at IH
        exact x_goto rfl rfl IH
      · rw [if_pos h3] at hw
        rw [hw] at hp
        exact x_ret rfl rfl rfl rfl (hp D2 (RelC_out h (fun a ha _ => hs2 a ha)) (fun a ha => hs2 a (by omega)))
  exact loop 61 0 D1 (by omega) rfl (hc G.now h8 ho.2.1 hr) (fun a ha => hs a (by omega))
theorem am_when {x y z : Int32} (h : RelM D G) (hg : gok G) (hp : ∀ D', RelM D' G → (∀ a, a < 111 → D' a = D a) → post (some (aWhen G x y z)) D') : xRuns Γ (n + 6) hX9_when [xR 0 9 111, xI x, xI y, xI z] D post := by
  have ho := hg.2.2.1.1
  have hE := hg.2.2.1.2
  have h8 := ho.1
  have hr := h.2.1
  refine x_runs kX9_when (by decide +kernel) rfl ?_
  rw [aWhen] at hp
  refine x_call [xI x] rfl rfl rfl rfl rfl rfl rfl (c_isBird hr ho ?_)
  rcases hx_b : gI x 0 ((G.now.B : Int) - 1) with _ | b
  · rw [hx_b] at hp
    refine x0_eq rfl rfl (fun _ => ?_) (fun h => absurd rfl h)
    exact x_ret rfl rfl rfl rfl (hp D h (fun _ _ => rfl))
  rw [hx_b] at hp
  dsimp only at hp
  obtain ⟨e1_b, e2_b, e3_b, e4_b⟩ := gI_some (by decide) hx_b
  subst e1_b
  have h_b : b < G.now.B := by omega
  refine x0_eq rfl rfl (fun h => absurd h (by simp)) (fun _ => ?_)
  refine x_scall [xI y] rfl rfl rfl rfl rfl rfl rfl (c_isWordN ?_)
  rcases hx_w : gI y 0 9 with _ | w
  · rw [hx_w] at hp
    refine x0_ne rfl rfl (fun h => absurd rfl h) (fun _ => ?_)
    exact x_ret rfl rfl rfl rfl (hp D h (fun _ _ => rfl))
  rw [hx_w] at hp
  dsimp only at hp
  obtain ⟨e1_w, e2_w, e3_w, e4_w⟩ := gI_some (by decide) hx_w
  subst e1_w
  have h_w : w < 10 := by omega
  refine x0_ne rfl rfl (fun _ => ?_) (fun h => absurd h (by simp))
  refine x_scall [xL z.toInt64, xL (Int64.ofNat 1), xL (Int64.ofNat 9)] rfl rfl rfl rfl rfl rfl rfl (c_inI (lo := 1) (hi := 9) (by decide) (by decide) ?_)
  rcases hx_k : gI z 1 9 with _ | k
  · rw [hx_k] at hp
    refine x0_ne rfl rfl (fun h => absurd rfl h) (fun _ => ?_)
    exact x_ret rfl rfl rfl rfl (hp D h (fun _ _ => rfl))
  rw [hx_k] at hp
  dsimp only at hp
  obtain ⟨e1_k, e2_k, e3_k, e4_k⟩ := gI_some (by decide) hx_k
  subst e1_k
  have h_k : k < 10 := by omega
  refine x0_ne rfl rfl (fun _ => ?_) (fun h => absurd h (by simp))
  refine x_call [] rfl rfl rfl rfl rfl rfl rfl (c_layTried hr ho.1 ho.2.1 (fun D1 hr1 hs1 => ?_))
  obtain ⟨sp0, hP0, hl0⟩ := h.2.2.2.2.2.2.2
  refine x_to 40 rfl ?_
  have loop : ∀ (f i : Nat) (D2 : xM) (sp : Nat → List Nat), i + f = 61 → wWhn G.now b w k 61 0 = wWhn G.now b w k f i → rM D2 1296 (wPassN G.now i) → rP D2 138 139 sp → (∀ z, z < 4 → (sp z).length ≤ 16) → sameMP 1296 D D2 → xW Γ (n + 6) hX9_when rX9_when 40 [some (xR 0 9 111), some (xI (nI b)), some (xI (nI w)), some (xI (nI k)), some (xI (nI i))] [] D2 post := by
    intro f
    induction f with
    | zero =>
      intro i D2 sp hi hw hr2 hP2 hl2 hs2
      obtain rfl : i = 61 := by omega
      rw [hw] at hp
      refine xi_geN 61 61 rfl rfl rfl rfl (by omega) (by omega) (fun _ => ?_) (fun h => absurd h (by omega))
      exact x_ret rfl rfl rfl rfl (hp D2 (RelM_out h hg (fun a j g1 g2 g3 _ => hs2 a j (by omega) g2 g3) ⟨sp, hP2, hl2⟩) (fun a ha => funext fun j => hs2 a j (by omega) (by omega) (by omega)))
    | succ f ih =>
      intro i D2 sp hi hw hr2 hP2 hl2 hs2
      have ho2 := wok_passN ho i (by omega)
      have hb2 : b < (wPassN G.now i).B := by rw [(passN_B G.now i).1]; exact h_b
      have h9 := ho2.2.2.2.2.2.2.1 b w hb2 h_w
      refine xi_geN i 61 rfl rfl rfl rfl (by omega) (by omega) (fun h => absurd h (by omega)) (fun h2 => ?_)
      refine x_aldN (1296 + 20 + (b * 10 + w)) rfl rfl (by
        show nI 1316 + nI 10 * nI b + nI w = _
        rw [pk_mul, nI_add, nI_add]
        exact congrArg nI (by omega)) (by omega) rfl ?_
      rw [hr2.2.2.2.2.2.2.1 b w hb2 h_w]
      have hw2 : wWhn G.now b w k (f + 1) i = if k ≤ (wPassN G.now i).K b w then some i else wWhn G.now b w k f (i + 1) := rfl
      rw [hw2] at hw
      refine xi_ltN ((wPassN G.now i).K b w) k rfl rfl rfl rfl (by omega) (by omega) (fun h3 => ?_) (fun h3 => ?_)
      · rw [if_neg (by omega)] at hw
        refine x_call [xI (nI 1)] rfl rfl rfl rfl rfl rfl rfl (c_passTried (k := 1) (by omega) hr2 hP2 hl2 ho2 (by rw [(passN_B G.now i).2.2]; omega) (fun D3 hr3 hsp hs3 => ?_))
        obtain ⟨sp3, q1, q2, q3⟩ := hsp
        have IH := ih (i + 1) D3 sp3 (by omega) hw hr3 q1 q2 (hs2.tr hs3)
        rw [← nI_1] at IH
        exact x_goto rfl rfl IH
      · rw [if_pos h3] at hw
        rw [hw] at hp
        exact x_ret rfl rfl rfl rfl (hp D2 (RelM_out h hg (fun a j g1 g2 g3 _ => hs2 a j (by omega) g2 g3) ⟨sp, hP2, hl2⟩) (fun a ha => funext fun j => hs2 a j (by omega) (by omega) (by omega)))
  exact loop 61 0 D1 sp0 (by omega) rfl hr1 (rP_outM hP0 hs1) hl0 (sameMP.ofM hs1)
theorem and_lt' {a b : Nat} (ha : a < 1024) : a &&& b < 1024 := Nat.lt_of_le_of_lt Nat.and_le_left ha
theorem c_keptWords {m b k : Nat} (hr : rW D 21 S) (ho : wok S) (hm : m < S.M) (hb : b < S.B) (hk : k ≤ 20) (hE : S.E ≤ 999) (hp : ∀ D', (∀ a, (a < 27 ∨ 35 < a) → D' a = D a) → post (some (nI (wKept S m b k))) D') : xRuns Γ (n + 5) hX8_keptWords [xR 0 8 0, xI (nI m), xI (nI b), xI (nI k)] D post := by
  have h8 := ho.1
  have h4 := ho.2.1
  have hos : wok (wSeat S m (some b)) := wok_seat ho (fun c hc => by cases hc; exact hb)
  refine x_runs kX8_keptWords (by decide +kernel) rfl ?_
  refine x_call [xR 0 7 21] rfl rfl rfl rfl rfl rfl rfl (c_become (by omega) (fun D1 hc hs => ?_))
  refine x_call [xI (nI m), xI (xby (some b))] rfl rfl rfl rfl rfl rfl rfl (c_seat (hc S h8 h4 hr) ho hm (fun c hc => by cases hc; exact hb) (fun D2 hr2 hs2 => ?_))
  refine x_to 23 rfl ?_
  have loop : ∀ (f i : Nat) (D3 : xM), i + f = k → rW D3 27 (wPassN (wSeat S m (some b)) i) → (∀ a, (a < 27 ∨ 35 < a) → D3 a = D a) → xW Γ (n + 5) hX8_keptWords rX8_keptWords 23 [some (xR 0 8 0), some (xI (nI m)), some (xI (nI b)), some (xI (nI k)), some (xI (nI i))] [] D3 post := by
    intro f
    induction f with
    | zero =>
      intro i D3 hi hr3 hs3
      obtain rfl : i = k := by omega
      have ho3 := wok_passN hos i (by show S.E + i < _; omega)
      have hr21 : rW D3 21 S := rW_out hr (fun a ha hb => hs3 a (by omega))
      refine xi_geN i i rfl rfl rfl rfl (by omega) (by omega) (fun _ => ?_) (fun h => absurd h (by omega))
      refine x_aldN m rfl rfl rfl (by omega) rfl ?_
      rw [hr21.2.2.2.2.2.2.2.1 m hm]
      refine x_call [xI (nI b)] rfl rfl rfl rfl rfl rfl rfl (c_wellKnown hr3 ho3 (by rw [(passN_B _ i).1]; exact hb) ?_)
      refine x_to 64 rfl ?_
      have e : nI (S.ha m) &&& nI (wWell (wPassN (wSeat S m (some b)) i) b) = nI (S.ha m &&& wWell (wPassN (wSeat S m (some b)) i) b) := xb_and _ _
      rw [e]
      refine x_scall [xI (nI (S.ha m &&& wWell (wPassN (wSeat S m (some b)) i) b))] rfl rfl rfl rfl rfl rfl rfl (c_bitCount ?_)
      refine x_ret rfl rfl rfl rfl ?_
      rw [jbc_cnt _ (and_lt' (ho.2.2.2.2.2.2.2.1 m hm))]
      exact hp D3 hs3
    | succ f ih =>
      intro i D3 hi hr3 hs3
      have ho3 := wok_passN hos i (by show S.E + i < _; omega)
      refine xi_geN i k rfl rfl rfl rfl (by omega) (by omega) (fun h => absurd h (by omega)) (fun h => ?_)
      refine x_call [xR 0 4 33] rfl rfl rfl rfl rfl rfl rfl (c_passEvening (by omega) hr3 ho3 (by rw [(passN_B _ i).2.2]; show S.E + i + 1 < _; omega) (fun D4 hr4 hP4 hs4 => ?_))
      have IH := ih (i + 1) D4 (by omega) hr4 (fun a ha => by rw [hs4 a (by omega) (by omega) (by omega)]; exact hs3 a ha)
      rw [← nI_1] at IH
      exact x_goto rfl rfl IH
  exact loop k 0 D2 (by omega) hr2 (fun a ha => by rw [hs2 a (by omega), hs a (by omega)])
theorem a_keeps {x y z : Int32} (h : RelC D G) (hg : gok G) (hp : ∀ D', RelC D' G → (∀ a, 111 ≤ a → D' a = D a) → post (some (aKeeps G x y z)) D') : xRuns Γ (n + 6) hX8_keeps [xR 0 8 0, xI x, xI y, xI z] D post := by
  have ho := hg.2.2.1.1
  have hE := hg.2.2.1.2
  have hr := h.2.1
  refine x_runs kX8_keeps (by decide +kernel) rfl ?_
  rw [aKeeps] at hp
  refine x_call [xI x] rfl rfl rfl rfl rfl rfl rfl (c_noMan hr ho ?_)
  rcases hx_m : gI x 0 ((G.now.M : Int) - 1) with _ | m
  · rw [hx_m] at hp
    refine x0_ne rfl rfl (fun _ => ?_) (fun h => absurd h (by decide))
    exact x_ret rfl rfl rfl rfl (hp D h (fun _ _ => rfl))
  rw [hx_m] at hp
  dsimp only at hp
  obtain ⟨e1_m, e2_m, e3_m, e4_m⟩ := gI_some (by decide) hx_m
  subst e1_m
  have h_m : m < G.now.M := by omega
  refine x0_ne rfl rfl (fun h => absurd rfl h) (fun _ => ?_)
  refine x_call [xI y] rfl rfl rfl rfl rfl rfl rfl (c_noBird hr ho ?_)
  rcases hx_b : gI y 0 ((G.now.B : Int) - 1) with _ | b
  · rw [hx_b] at hp
    refine x0_eq rfl rfl (fun h => absurd h (by decide)) (fun _ => ?_)
    exact x_ret rfl rfl rfl rfl (hp D h (fun _ _ => rfl))
  rw [hx_b] at hp
  dsimp only at hp
  obtain ⟨e1_b, e2_b, e3_b, e4_b⟩ := gI_some (by decide) hx_b
  subst e1_b
  have h_b : b < G.now.B := by omega
  refine x0_eq rfl rfl (fun _ => ?_) (fun h => absurd rfl h)
  refine x_scall [xI z, xI (nI 1), xI (nI 20)] rfl rfl rfl rfl rfl rfl rfl (c_isNot (lo := 1) (hi := 20) (by decide) (by decide) ?_)
  rcases hx_k : gI z 1 20 with _ | k
  · rw [hx_k] at hp
    refine x0_eq rfl rfl (fun h => absurd h (by decide)) (fun _ => ?_)
    exact x_ret rfl rfl rfl rfl (hp D h (fun _ _ => rfl))
  rw [hx_k] at hp
  dsimp only at hp
  obtain ⟨e1_k, e2_k, e3_k, e4_k⟩ := gI_some (by decide) hx_k
  subst e1_k
  have h_k : k < 21 := by omega
  refine x0_eq rfl rfl (fun _ => ?_) (fun h => absurd rfl h)
  refine x_call [xI (nI m), xI (nI b), xI (nI k)] rfl rfl rfl rfl rfl rfl rfl (c_keptWords hr ho h_m h_b (by omega) hE (fun D1 hs1 => ?_))
  exact x_ret rfl rfl rfl rfl (hp D1 (RelC_out h (fun a ha _ => hs1 a ha)) (fun a ha => hs1 a (by omega)))
theorem c_keptBy {m b k : Nat} {sp0 : Nat → List Nat} (hr : rM D 0 S) (hP0 : rP D 138 139 sp0) (hl0 : ∀ z, z < 4 → (sp0 z).length ≤ 16) (ho : wok S) (hm : m < S.M) (hb : b < S.B) (hk : k ≤ 20) (hE : S.E ≤ 999) (hp : ∀ D', mSp D' → sameMP 1296 D D' → post (some (nI (wKept S m b k))) D') : xRuns Γ (n + 6) hX9_keptBy [xR 0 9 111, xI (nI m), xI (nI b), xI (nI k)] D post := by
  have h8 := ho.1
  have h4 := ho.2.1
  have hos : wok (wSeat S m (some b)) := wok_seat ho (fun c hc => by cases hc; exact hb)
  refine x_runs kX9_keptBy (by decide +kernel) rfl ?_
  refine x_call [] rfl rfl rfl rfl rfl rfl rfl (c_layTried hr h8 h4 (fun D1 hr1 hs1 => ?_))
  refine x_call [xI (nI 1296), xI (nI m), xI (xby (some b))] rfl rfl rfl rfl rfl rfl rfl (c_sets hr1 ho (by omega) hm (fun c hc => by cases hc; exact hb) (fun D2 hr2 hs2 => ?_))
  refine x_call [xI (nI k)] rfl rfl rfl rfl rfl rfl rfl (c_passTried (by omega) hr2 (rP_outM (rP_outM hP0 hs1) hs2) hl0 hos (by show S.E + k < _; omega) (fun D3 hr3 hsp hs3 => ?_))
  have ho3 := wok_passN hos k (by show S.E + k < _; omega)
  have hs : sameMP 1296 D D3 := ((sameMP.ofM hs1).tr (sameMP.ofM hs2)).tr hs3
  refine x_call [xI (nI 1296), xI (nI b)] rfl rfl rfl rfl rfl rfl rfl (c_mwell hr3 ho3 (by omega) (by rw [(passN_B _ k).1]; exact hb) ?_)
  refine x_aldN (0 + 100 + m) rfl rfl (by rw [Nat.zero_add]; exact nI_add 100 m) (by omega) rfl ?_
  rw [hs 112 (0 + 100 + m) (by omega) (by omega) (by omega), hr.2.2.2.2.2.2.2.1 m hm]
  refine x_to 36 rfl ?_
  have e : nI (wWell (wPassN (wSeat S m (some b)) k) b) &&& nI (S.ha m) = nI (S.ha m &&& wWell (wPassN (wSeat S m (some b)) k) b) := by rw [Nat.and_comm]; exact xb_and _ _
  rw [e]
  refine x_scall [xI (nI (S.ha m &&& wWell (wPassN (wSeat S m (some b)) k) b))] rfl rfl rfl rfl rfl rfl rfl (c_bits (and_lt' (ho.2.2.2.2.2.2.2.1 m hm)) ?_)
  obtain ⟨sp, q1, q2, q3⟩ := hsp
  exact x_ret rfl rfl rfl rfl (hp D3 ⟨sp, q1, q2⟩ hs)
theorem am_keeps {x y z : Int32} (h : RelM D G) (hg : gok G) (hp : ∀ D', RelM D' G → (∀ a, a < 111 → D' a = D a) → post (some (aKeeps G x y z)) D') : xRuns Γ (n + 7) hX9_keeps [xR 0 9 111, xI x, xI y, xI z] D post := by
  have ho := hg.2.2.1.1
  have hE := hg.2.2.1.2
  have hr := h.2.1
  refine x_runs kX9_keeps (by decide +kernel) rfl ?_
  rw [aKeeps] at hp
  refine x_call [xI x] rfl rfl rfl rfl rfl rfl rfl (c_isMan hr ho ?_)
  rcases hx_m : gI x 0 ((G.now.M : Int) - 1) with _ | m
  · rw [hx_m] at hp
    refine x0_eq rfl rfl (fun _ => ?_) (fun h => absurd rfl h)
    exact x_ret rfl rfl rfl rfl (hp D h (fun _ _ => rfl))
  rw [hx_m] at hp
  dsimp only at hp
  obtain ⟨e1_m, e2_m, e3_m, e4_m⟩ := gI_some (by decide) hx_m
  subst e1_m
  have h_m : m < G.now.M := by omega
  refine x0_eq rfl rfl (fun h => absurd h (by simp)) (fun _ => ?_)
  refine x_call [xI y] rfl rfl rfl rfl rfl rfl rfl (c_isBird hr ho ?_)
  rcases hx_b : gI y 0 ((G.now.B : Int) - 1) with _ | b
  · rw [hx_b] at hp
    refine x0_ne rfl rfl (fun h => absurd rfl h) (fun _ => ?_)
    exact x_ret rfl rfl rfl rfl (hp D h (fun _ _ => rfl))
  rw [hx_b] at hp
  dsimp only at hp
  obtain ⟨e1_b, e2_b, e3_b, e4_b⟩ := gI_some (by decide) hx_b
  subst e1_b
  have h_b : b < G.now.B := by omega
  refine x0_ne rfl rfl (fun _ => ?_) (fun h => absurd h (by simp))
  refine x_scall [xL z.toInt64, xL (Int64.ofNat 1), xL (Int64.ofNat 20)] rfl rfl rfl rfl rfl rfl rfl (c_inI (lo := 1) (hi := 20) (by decide) (by decide) ?_)
  rcases hx_k : gI z 1 20 with _ | k
  · rw [hx_k] at hp
    refine x0_eq rfl rfl (fun _ => ?_) (fun h => absurd rfl h)
    exact x_ret rfl rfl rfl rfl (hp D h (fun _ _ => rfl))
  rw [hx_k] at hp
  dsimp only at hp
  obtain ⟨e1_k, e2_k, e3_k, e4_k⟩ := gI_some (by decide) hx_k
  subst e1_k
  have h_k : k < 21 := by omega
  refine x0_eq rfl rfl (fun h => absurd h (by simp)) (fun _ => ?_)
  obtain ⟨sp0, hP0, hl0⟩ := h.2.2.2.2.2.2.2
  refine x_call [xI (nI m), xI (nI b), xI (nI k)] rfl rfl rfl rfl rfl rfl rfl (c_keptBy hr hP0 hl0 ho h_m h_b (by omega) hE (fun D1 hsp hs1 => ?_))
  refine x_goto rfl rfl ?_
  exact x_ret rfl rfl rfl rfl (hp D1 (RelM_out h hg (fun a j g1 g2 g3 _ => hs1 a j (by omega) g2 g3) hsp) (fun a ha => funext fun j => hs1 a j (by omega) (by omega) (by omega)))
end A5
end
section
/-! ===== seen, forget, kinds, count ===== -/
abbrev seT : Type := Nat × Nat × Option Nat
def gSeen (G : gS) (s : List seT) : gS := gmk G.tx G.tg G.told G.now G.past G.kept s G.reel
def aSeen (G : gS) (x y z : Int32) : Int32 × gS := match gI x 0 3 with
  | none => (-2, G)
  | some p => match gO z 9 with
    | none => (-2, G)
    | some o => match gI y 0 9 with
      | none => (-3, G)
      | some i => if 6 ≤ G.seen.length then (-5, G) else (nI (G.seen.length + 1), gSeen G (G.seen ++ [(p, i, o)]))
def aForget (G : gS) : Int32 × gS := (nI G.seen.length, gSeen G [])
def pAg (seen : List seT) (sp : Nat → List Nat) (j : Nat) : Bool := match seen[j]? with
  | none => true
  | some q => decide ((sp q.1)[q.2.1]? = q.2.2)
def wAgree (seen : List seT) (sp : Nat → List Nat) : Bool := (List.range seen.length).all (pAg seen sp)
abbrev wKd (S : wS) (b k : Nat) : wS := wmk S.B S.M S.E S.C (wuf S.kd b k) S.pe S.K S.ha S.bi
theorem wok_kd {S : wS} {b k : Nat} (ho : wok S) (hk : k < 5) : wok (wKd S b k) := by
  obtain ⟨o1, o2, o3, o4, o5, o6, o7, o8, o9, o10⟩ := ho
  refine ⟨o1, o2, o3, o4, fun c hc => ?_, o6, o7, o8, o9, o10⟩
  show wuf S.kd b k c < 5
  simp only [wuf]
  split
  · exact hk
  · exact o5 c hc
def aKinds (G : gS) (x : Int32) : Int32 := match gI x 0 ((G.now.B : Int) - 1) with
  | none => -2
  | some b => nI (wbits (fun k => wAgree G.seen (wSaid (wKd G.now b k))) 5)
def aCount (G : gS) (x : Int32) : Int32 := match gI x 0 9 with
  | none => -3
  | some 0 => nI G.now.B
  | some 1 => nI G.now.M
  | some 2 => nI G.now.E
  | some 3 => nI G.now.C
  | some 4 => nI (wSum (fun m => wCnt (G.now.ha m)) G.now.M)
  | some 5 => nI G.seen.length
  | some 6 => nI (wSum (fun r => if (G.reel r).isSome then 1 else 0) 3)
  | some 7 => nI G.past.length
  | some 8 => nI G.tx.length
  | some _ => nI (wbits (fun k => (List.range G.now.B).any fun b => decide (5 ≤ G.now.K b k)) 10)
theorem all_succ (p : Nat → Bool) (i : Nat) : (List.range (i + 1)).all p = ((List.range i).all p && p i) := by
  rw [List.range_succ, List.all_append]; simp
theorem all_false {p : Nat → Bool} {i n : Nat} (hi : i < n) (h : p i = false) : (List.range n).all p = false := by
  cases hq : (List.range n).all p with
  | false => rfl
  | true => rw [List.all_eq_true.mp hq i (List.mem_range.mpr hi)] at h; cases h
theorem rM_kd {D : xM} {o : Nat} {S : wS} {i v : Nat} (h : rM D o S) (hB : S.B ≤ 8) (hM : S.M ≤ 4) (hi : i < S.B) : rM (xup D 112 (o + 4 + i) (nI v)) o (wKd S i v) := by
  obtain ⟨h1, h2, h3, h4, h5, h6, h7, h8, h9⟩ := h
  refine ⟨by rw [xup_o (by omega)]; exact h1, by rw [xup_o (by omega)]; exact h2, by rw [xup_o (by omega)]; exact h3, by rw [xup_o (by omega)]; exact h4, fun b hb => ?_, fun b hb => ?_, fun b k hb hk => ?_, fun m hm => ?_, fun m hm => ?_⟩
  · have hb' : b < S.B := hb
    show _ = nI (wuf S.kd i v b)
    by_cases e : b = i
    · subst e; rw [xup_at]; simp [wuf]
    · rw [xup_o (by omega), h5 b hb]; simp [wuf, e]
  · have : b < S.B := hb
    rw [xup_o (by omega)]; exact h6 b hb
  · have : b < S.B := hb
    rw [xup_o (by omega)]; exact h7 b k hb hk
  · have : m < S.M := hm
    rw [xup_o (by omega)]; exact h8 m hm
  · have : m < S.M := hm
    rw [xup_o (by omega)]; exact h9 m hm
section A6
variable {Γ : xG} {n : Nat} {D : xM} {post : Option Int32 → xM → Prop} {G : gS} {S : wS}
theorem g_seen {x y z : Int32} (hg : gok G) : gok (aSeen G x y z).2 := by
  obtain ⟨g1, g2, g3, g4, g5, g6, g7⟩ := id hg
  rw [aSeen]
  split
  · exact hg
  · rename_i p hx
    split
    · exact hg
    · rename_i o ho
      split
      · exact hg
      · rename_i i hi
        split
        · exact hg
        · have q1 := gI_some (by decide) hx
          have q2 := gI_some (by decide) hi
          have q3 := gO_b ho
          refine ⟨g1, g2, g3, g4, g5, ⟨by show (G.seen ++ [(p, i, o)]).length ≤ 6; rw [List.length_append]; simp; omega, fun q hq => ?_⟩, g7⟩
          rcases List.mem_append.mp hq with e | e
          · exact g6.2 q e
          · rw [List.mem_singleton.mp e]
            exact ⟨by show p < 4; omega, by show i < 10; omega, fun v hv => by have := q3.2 v hv; omega⟩
theorem g_forget (hg : gok G) : gok (aForget G).2 := by
  obtain ⟨g1, g2, g3, g4, g5, g6, g7⟩ := id hg
  exact ⟨g1, g2, g3, g4, g5, ⟨Nat.zero_le _, fun c hc => absurd hc (by intro z; cases z)⟩, g7⟩
theorem se_add {f : Nat → Int32} {α : Type} {s : List seT} {q : seT} (g : seT → Int32) (h : ∀ j, (hj : j < s.length) → f j = g s[j]) (hq : f s.length = g q) : ∀ j, (hj : j < (s ++ [q]).length) → f j = g (s ++ [q])[j] := by
  intro j hj
  by_cases e : j < s.length
  · rw [List.getElem_append_left e]; exact h j e
  · have : j = s.length := by rw [List.length_append] at hj; simp at hj; omega
    subst this
    rw [List.getElem_append_right (Nat.le_refl _)]
    simp
    exact hq
theorem RelC_seen {D' : xM} {s : List seT} (h : RelC D G) (hh : cSe D' s) (e : ∀ a, (a < 99 ∨ 102 < a) → D' a = D a) : RelC D' (gSeen G s) := by
  obtain ⟨h1, h2, h3, h4, h5, h6, h7⟩ := h
  exact ⟨rW_out h1 (fun a ha hb => e a (by omega)), rW_out h2 (fun a ha hb => e a (by omega)), cTx_out h3 (by rw [e 1 (by omega)]) (e 2 (by omega)), cHi_out h4 (fun a ha hb => e a (by omega)), hh, cRe_out h6 (fun a ha hb => e a (by omega)), cTg_out h7 (by rw [e 10 (by omega)]) (e 11 (by omega)) (e 12 (by omega))⟩
theorem RelM_seen {D' : xM} {s : List seT} (h : RelM D G) (hg : gok G) (hh : mSe D' s) (e : ∀ a j, ¬ (a = 111 ∧ j = 5) → (a < 115 ∨ 117 < a) → D' a j = D a j) : RelM D' (gSeen G s) := by
  obtain ⟨⟨h1, h1z⟩, h2, h3, h4, h5, h6, h7, h8⟩ := h
  obtain ⟨g1, g2, g3, g4, g5, g6, g7⟩ := hg
  have ef : ∀ a, a ≠ 111 → (a < 115 ∨ 117 < a) → D' a = D a := fun a ha hb => funext fun j => e a j (by omega) hb
  have e1 : ∀ j, j ≠ 5 → D' 111 j = D 111 j := fun j hj => e 111 j (by omega) (by omega)
  have e112 := ef 112 (by omega) (by omega)
  exact ⟨⟨rM_out h1 g2.1 g2.2.1 (fun j q1 q2 => by rw [e112]), mZ_out h1z (fun j _ _ => by rw [e112])⟩, rM_out h2 g3.1.1 g3.1.2.1 (fun j _ _ => by rw [e112]), mTx_out h3 (e1 4 (by omega)) (ef 114 (by omega) (by omega)), mHi_out h4 g4.1 (fun S hS => (g4.2 S hS).1) (fun k S hk hS => (g5 k S hk hS).1) (e1 1 (by omega)) (fun j _ _ => by rw [e112]) (ef 113 (by omega) (by omega)), hh, mRe_out h6 (fun a ha hb => ef a (by omega) (by omega)), mTg_out h7 (e1 9 (by omega)) (ef 118 (by omega) (by omega)) (ef 119 (by omega) (by omega)) (ef 120 (by omega) (by omega)), mSp_out h8 (ef 138 (by omega) (by omega)) (ef 139 (by omega) (by omega))⟩
theorem a_seen {x y z : Int32} (h : RelC D G) (hg : gok G) (hp : ∀ D', RelC D' (aSeen G x y z).2 → (∀ a, 111 ≤ a → D' a = D a) → post (some (aSeen G x y z).1) D') : xRuns Γ (n + 2) hX8_seen [xR 0 8 0, xI x, xI y, xI z] D post := by
  have hse := h.2.2.2.2.1
  have hl := hg.2.2.2.2.2.1.1
  refine x_runs kX8_seen (by decide +kernel) rfl ?_
  rw [aSeen] at hp
  refine x_scall [xI x] rfl rfl rfl rfl rfl rfl rfl (c_noPerch ?_)
  rcases hx_p : gI x 0 3 with _ | p
  · rw [hx_p] at hp
    refine x0_ne rfl rfl (fun _ => ?_) (fun h => absurd h (by decide))
    exact x_ret rfl rfl rfl rfl (hp D h (fun _ _ => rfl))
  rw [hx_p] at hp
  dsimp only at hp
  obtain ⟨e1_p, e2_p, e3_p, e4_p⟩ := gI_some (by decide) hx_p
  subst e1_p
  have h_p : p < 4 := by omega
  refine x0_ne rfl rfl (fun h => absurd rfl h) (fun _ => ?_)
  have go : ∀ o, gO z 9 = some o → xW Γ (n + 2) hX8_seen rX8_seen 22 [some (xR 0 8 0), some (xI (nI p)), some (xI y), some (xI z)] [] D post := by
    intro o hq
    rw [hq] at hp
    dsimp only at hp
    obtain ⟨ez, hb⟩ := gO_b hq
    subst ez
    refine x_scall [xI y, xI (nI 0), xI (nI 9)] rfl rfl rfl rfl rfl rfl rfl (c_isNot (lo := 0) (hi := 9) (by decide) (by decide) ?_)
    rcases hx_i : gI y 0 9 with _ | i
    · rw [hx_i] at hp
      refine x0_eq rfl rfl (fun h => absurd h (by decide)) (fun _ => ?_)
      exact x_ret rfl rfl rfl rfl (hp D h (fun _ _ => rfl))
    rw [hx_i] at hp
    dsimp only at hp
    obtain ⟨e1_i, e2_i, e3_i, e4_i⟩ := gI_some (by decide) hx_i
    subst e1_i
    have h_i : i < 10 := by omega
    refine x0_eq rfl rfl (fun _ => ?_) (fun h => absurd rfl h)
    refine xi_ltN G.seen.length 6 rfl rfl hse.1 rfl (by omega) (by omega) (fun h2 => ?_) (fun h2 => ?_)
    · rw [if_neg (by omega)] at hp
      refine x_call [xI (nI p), xI (nI i), xI (xby o)] rfl rfl rfl rfl rfl rfl rfl ?_
      refine x_runs kX3_add (by decide +kernel) rfl ?_
      refine x_astN G.seen.length rfl rfl hse.1 (by omega) rfl ?_
      refine x_astN G.seen.length rfl rfl hse.1 (by omega) rfl ?_
      refine x_astN G.seen.length rfl rfl hse.1 (by omega) rfl ?_
      refine x_vret rfl rfl rfl ?_
      refine x_ret rfl rfl rfl rfl ?_
      rw [xup_at]
      have e1 : xup (xup (xup D 100 G.seen.length (nI p)) 101 G.seen.length (nI i)) 102 G.seen.length (xby o) 99 3 + xnum 1 = nI (G.seen.length + 1) := by
        rw [xup_o (by omega), xup_o (by omega), xup_o (by omega), hse.1]
        exact nI_1 _
      rw [e1]
      refine hp _ (RelC_seen h ⟨by rw [xup_at, List.length_append]; rfl, fun j hj => ⟨?_, ?_, ?_⟩⟩ (fun a ha => by rw [xup_ne a (by omega), xup_ne a (by omega), xup_ne a (by omega), xup_ne a (by omega)])) (fun a ha => by rw [xup_ne a (by omega), xup_ne a (by omega), xup_ne a (by omega), xup_ne a (by omega)])
      · rw [xup_ne 100 (by omega), xup_ne 100 (by omega), xup_ne 100 (by omega)]
        exact se_add (α := Nat) (fun q : seT => nI q.1) (fun j hj => by rw [xup_o (by omega)]; exact (hse.2 j hj).1) xup_at j hj
      · rw [xup_ne 101 (by omega), xup_ne 101 (by omega)]
        exact se_add (α := Nat) (fun q : seT => nI q.2.1) (fun j hj => by rw [xup_o (by omega), xup_o (by omega)]; exact (hse.2 j hj).2.1) xup_at j hj
      · rw [xup_ne 102 (by omega)]
        exact se_add (α := Nat) (fun q : seT => xby q.2.2) (fun j hj => by rw [xup_o (by omega), xup_o (by omega), xup_o (by omega)]; exact (hse.2 j hj).2.2) xup_at j hj
    · rw [if_pos (by omega)] at hp
      exact x_ret rfl rfl rfl rfl (hp D h (fun _ _ => rfl))
  refine xi_eq rfl rfl (fun (h2 : z = -1) => go none (by rw [gO, if_pos h2])) (fun (h2 : ¬ z = -1) => ?_)
  refine x_scall [xI z] rfl rfl rfl rfl rfl rfl rfl (c_noWord ?_)
  rcases hy : gI z 0 9 with _ | b
  · have e : gO z 9 = none := by rw [gO, if_neg h2, hy]
    rw [e] at hp
    refine x0_eq rfl rfl (fun h => absurd h (by decide)) (fun _ => ?_)
    exact x_ret rfl rfl rfl rfl (hp D h (fun _ _ => rfl))
  · refine x0_eq rfl rfl (fun _ => ?_) (fun h => absurd rfl h)
    exact go (some b) (by rw [gO, if_neg h2, hy])
theorem am_seen {x y z : Int32} (h : RelM D G) (hg : gok G) (hp : ∀ D', RelM D' (aSeen G x y z).2 → (∀ a, a < 111 → D' a = D a) → post (some (aSeen G x y z).1) D') : xRuns Γ (n + 2) hX9_seen [xR 0 9 111, xI x, xI y, xI z] D post := by
  have hse := h.2.2.2.2.1
  have hl := hg.2.2.2.2.2.1.1
  refine x_runs kX9_seen (by decide +kernel) rfl ?_
  rw [aSeen] at hp
  refine x_scall [xL x.toInt64, xL (Int64.ofNat 0), xL (Int64.ofNat 3)] rfl rfl rfl rfl rfl rfl rfl (c_inI (lo := 0) (hi := 3) (by decide) (by decide) ?_)
  rcases hx_p : gI x 0 3 with _ | p
  · rw [hx_p] at hp
    refine x0_eq rfl rfl (fun _ => ?_) (fun h => absurd rfl h)
    exact x_ret rfl rfl rfl rfl (hp D h (fun _ _ => rfl))
  rw [hx_p] at hp
  dsimp only at hp
  obtain ⟨e1_p, e2_p, e3_p, e4_p⟩ := gI_some (by decide) hx_p
  subst e1_p
  have h_p : p < 4 := by omega
  refine x0_eq rfl rfl (fun h => absurd h (by simp)) (fun _ => ?_)
  have go : ∀ o, gO z 9 = some o → xW Γ (n + 2) hX9_seen rX9_seen 27 [some (xR 0 9 111), some (xI (nI p)), some (xI y), some (xI z)] [] D post := by
    intro o hq
    rw [hq] at hp
    dsimp only at hp
    obtain ⟨ez, hb⟩ := gO_b hq
    subst ez
    refine x_scall [xL y.toInt64, xL (Int64.ofNat 0), xL (Int64.ofNat 9)] rfl rfl rfl rfl rfl rfl rfl (c_inI (lo := 0) (hi := 9) (by decide) (by decide) ?_)
    rcases hx_i : gI y 0 9 with _ | i
    · rw [hx_i] at hp
      refine x0_ne rfl rfl (fun h => absurd rfl h) (fun _ => ?_)
      exact x_ret rfl rfl rfl rfl (hp D h (fun _ _ => rfl))
    rw [hx_i] at hp
    dsimp only at hp
    obtain ⟨e1_i, e2_i, e3_i, e4_i⟩ := gI_some (by decide) hx_i
    subst e1_i
    have h_i : i < 10 := by omega
    refine x0_ne rfl rfl (fun _ => ?_) (fun h => absurd h (by simp))
    refine xi_neN G.seen.length 6 rfl rfl hse.1 rfl (by omega) (by omega) (fun h2 => ?_) (fun h2 => ?_)
    · rw [if_neg (by omega)] at hp
      refine x_astN G.seen.length rfl rfl hse.1 (by omega) rfl ?_
      refine x_astN G.seen.length rfl rfl hse.1 (by omega) rfl ?_
      refine x_astN G.seen.length rfl rfl hse.1 (by omega) rfl ?_
      refine x_ret rfl rfl rfl rfl ?_
      rw [xup_at]
      have e1 : xup (xup (xup D 115 G.seen.length (nI p)) 116 G.seen.length (nI i)) 117 G.seen.length (xby o) 111 5 + xnum 1 = nI (G.seen.length + 1) := by
        rw [xup_o (by omega), xup_o (by omega), xup_o (by omega), hse.1]
        exact nI_1 _
      rw [e1]
      refine hp _ (RelM_seen h hg ⟨by rw [xup_at, List.length_append]; rfl, fun j hj => ⟨?_, ?_, ?_⟩⟩ (fun a j ha hb => by rw [xup_o (by omega), xup_o (by omega), xup_o (by omega), xup_o (by omega)])) (fun a ha => by rw [xup_ne a (by omega), xup_ne a (by omega), xup_ne a (by omega), xup_ne a (by omega)])
      · rw [xup_ne 115 (by omega), xup_ne 115 (by omega), xup_ne 115 (by omega)]
        exact se_add (α := Nat) (fun q : seT => nI q.1) (fun j hj => by rw [xup_o (by omega)]; exact (hse.2 j hj).1) xup_at j hj
      · rw [xup_ne 116 (by omega), xup_ne 116 (by omega)]
        exact se_add (α := Nat) (fun q : seT => nI q.2.1) (fun j hj => by rw [xup_o (by omega), xup_o (by omega)]; exact (hse.2 j hj).2.1) xup_at j hj
      · rw [xup_ne 117 (by omega)]
        exact se_add (α := Nat) (fun q : seT => xby q.2.2) (fun j hj => by rw [xup_o (by omega), xup_o (by omega), xup_o (by omega)]; exact (hse.2 j hj).2.2) xup_at j hj
    · rw [if_pos (by omega)] at hp
      exact x_ret rfl rfl rfl rfl (hp D h (fun _ _ => rfl))
  refine xi_eq rfl rfl (fun (h2 : z = -1) => go none (by rw [gO, if_pos h2])) (fun (h2 : ¬ z = -1) => ?_)
  refine x_scall [xI z] rfl rfl rfl rfl rfl rfl rfl (c_isWordN ?_)
  rcases hy : gI z 0 9 with _ | b
  · have e : gO z 9 = none := by rw [gO, if_neg h2, hy]
    rw [e] at hp
    refine x0_ne rfl rfl (fun h => absurd rfl h) (fun _ => ?_)
    exact x_ret rfl rfl rfl rfl (hp D h (fun _ _ => rfl))
  · refine x0_ne rfl rfl (fun _ => ?_) (fun h => absurd h (by simp))
    exact go (some b) (by rw [gO, if_neg h2, hy])
theorem a_forget (h : RelC D G) (hg : gok G) (hp : ∀ D', RelC D' (aForget G).2 → (∀ a, 111 ≤ a → D' a = D a) → post (some (aForget G).1) D') : xRuns Γ (n + 1) hX8_forget [xR 0 8 0] D post := by
  refine x_runs kX8_forget (by decide +kernel) rfl ?_
  refine x_call [] rfl rfl rfl rfl rfl rfl rfl ?_
  refine x_runs kX3_clear (by decide +kernel) rfl ?_
  refine x_vret rfl rfl rfl ?_
  refine x_ret rfl rfl rfl rfl ?_
  rw [h.2.2.2.2.1.1]
  exact hp _ (RelC_seen h ⟨by rw [xup_at]; rfl, fun j hj => absurd hj (Nat.not_lt_zero j)⟩ (fun a ha => xup_ne a (by omega))) (fun a ha => xup_ne a (by omega))
theorem am_forget (h : RelM D G) (hg : gok G) (hp : ∀ D', RelM D' (aForget G).2 → (∀ a, a < 111 → D' a = D a) → post (some (aForget G).1) D') : xRuns Γ n hX9_forget [xR 0 9 111] D post := by
  refine x_runs kX9_forget (by decide +kernel) rfl ?_
  refine x_ret rfl rfl rfl rfl ?_
  rw [h.2.2.2.2.1.1]
  exact hp _ (RelM_seen h hg ⟨by rw [xup_at]; rfl, fun j hj => absurd hj (Nat.not_lt_zero j)⟩ (fun a j ha hb => xup_o (by omega))) (fun a ha => xup_ne a (by omega))
theorem sa_key {sp : Nat → List Nat} {p i : Nat} {o : Option Nat} (hs : sokl sp) (ho : ∀ v, o = some v → v < 10) : xby ((sp p)[i]?) = xby o ↔ (sp p)[i]? = o := by
  have h1 : ∀ c, (sp p)[i]? = some c → c < 2 ^ 31 := fun c hc => by have := hs p c (List.mem_of_getElem? hc); omega
  cases o with
  | none => exact xby_m1 h1
  | some b => exact xby_eq (by have := ho b rfl; omega) h1
theorem c_agree {sp : Nat → List Nat} {s : List seT} (hse : cSe D s) (hl : s.length ≤ 6) (hok : ∀ q ∈ s, q.1 < 4 ∧ q.2.1 < 10 ∧ ∀ v, q.2.2 = some v → v < 10) (hr : rP D 34 35 sp) (hall : ∀ q, q < 4 → (sp q).length ≤ 16) (hs : sokl sp) (hp : post (some (if wAgree s sp then 1 else 0)) D) : xRuns Γ (n + 1) hX3_agreeWith [xR 0 3 99, xR 0 4 33] D post := by
  refine x_runs kX3_agreeWith (by decide +kernel) rfl ?_
  refine x_to 2 rfl ?_
  have loop : ∀ (f i : Nat), i + f = s.length → (List.range i).all (pAg s sp) = true → xW Γ (n + 1) hX3_agreeWith rX3_agreeWith 2 [some (xR 0 3 99), some (xR 0 4 33), some (xI (nI i))] [] D post := by
    intro f
    induction f with
    | zero =>
      intro i hi ha
      have hi' : i = s.length := by omega
      refine xi_geN i s.length rfl rfl rfl hse.1 (by omega) (by omega) (fun _ => ?_) (fun h => absurd h (by omega))
      rw [wAgree, ← hi', ha] at hp
      exact x_ret rfl rfl rfl rfl hp
    | succ f ih =>
      intro i hi ha
      have hi' : i < s.length := by omega
      have hq := hok s[i] (List.getElem_mem hi')
      obtain ⟨q1, q2, q3⟩ := hse.2 i hi'
      refine xi_geN i s.length rfl rfl rfl hse.1 (by omega) (by omega) (fun h => absurd h (by omega)) (fun h => ?_)
      refine x_aldN i rfl rfl rfl (by omega) rfl ?_
      refine x_aldN i rfl rfl rfl (by omega) rfl ?_
      rw [q1, q2]
      refine x_call [xI (nI s[i].1), xI (nI s[i].2.1)] rfl rfl rfl rfl rfl rfl rfl (c_wordAt hr hall hq.1 (by omega) ?_)
      refine x_aldN i rfl rfl rfl (by omega) rfl ?_
      rw [q3]
      have ep : pAg s sp i = decide ((sp s[i].1)[s[i].2.1]? = s[i].2.2) := by simp only [pAg, List.getElem?_eq_getElem hi']
      have key := sa_key (p := s[i].1) (i := s[i].2.1) hs hq.2.2
      refine xi_eq rfl rfl (fun h2 => ?_) (fun h2 => ?_)
      · have IH := ih (i + 1) (by omega) (by rw [all_succ, ha, ep, decide_eq_true (key.mp h2)]; rfl)
        rw [← nI_1] at IH
        exact x_goto rfl rfl IH
      · have e : wAgree s sp = false := all_false hi' (by rw [ep, decide_eq_false (fun z => h2 (key.mpr z))])
        rw [e] at hp
        exact x_ret rfl rfl rfl rfl hp
  exact loop s.length 0 (by omega) rfl
theorem a_kinds {x : Int32} (h : RelC D G) (hg : gok G) (hp : ∀ D', RelC D' G → (∀ a, 111 ≤ a → D' a = D a) → post (some (aKinds G x)) D') : xRuns Γ (n + 5) hX8_kinds [xR 0 8 0, xI x] D post := by
  have ho := hg.2.2.1.1
  have hE := hg.2.2.1.2
  have h8 := ho.1
  have hr := h.2.1
  have g6 := hg.2.2.2.2.2.1
  refine x_runs kX8_kinds (by decide +kernel) rfl ?_
  rw [aKinds] at hp
  refine x_call [xI x] rfl rfl rfl rfl rfl rfl rfl (c_noBird hr ho ?_)
  rcases hx_b : gI x 0 ((G.now.B : Int) - 1) with _ | b
  · rw [hx_b] at hp
    refine x0_eq rfl rfl (fun h => absurd h (by decide)) (fun _ => ?_)
    exact x_ret rfl rfl rfl rfl (hp D h (fun _ _ => rfl))
  rw [hx_b] at hp
  dsimp only at hp
  obtain ⟨e1_b, e2_b, e3_b, e4_b⟩ := gI_some (by decide) hx_b
  subst e1_b
  have h_b : b < G.now.B := by omega
  refine x0_eq rfl rfl (fun _ => ?_) (fun h => absurd rfl h)
  refine x_to 15 rfl ?_
  have loop : ∀ (f i : Nat) (D2 : xM), i + f = 5 → (∀ a, (a < 27 ∨ 35 < a) → D2 a = D a) → xW Γ (n + 5) hX8_kinds rX8_kinds 15 [some (xR 0 8 0), some (xI (nI b)), some (xI (nI (wbits (fun k => wAgree G.seen (wSaid (wKd G.now b k))) i))), some (xI (nI i))] [] D2 post := by
    intro f
    induction f with
    | zero =>
      intro i D2 hi hs2
      obtain rfl : i = 5 := by omega
      refine xi_geN 5 5 rfl rfl rfl rfl (by omega) (by omega) (fun _ => ?_) (fun h => absurd h (by omega))
      exact x_ret rfl rfl rfl rfl (hp D2 (RelC_out h (fun a ha _ => hs2 a ha)) (fun a ha => hs2 a (by omega)))
    | succ f ih =>
      intro i D2 hi hs2
      have hlt := wbits_lt (fun k => wAgree G.seen (wSaid (wKd G.now b k))) i
      refine xi_geN i 5 rfl rfl rfl rfl (by omega) (by omega) (fun h => absurd h (by omega)) (fun h2 => ?_)
      refine x_call [xR 0 7 21] rfl rfl rfl rfl rfl rfl rfl (c_become (by omega) (fun D3 hc hs3 => ?_))
      have hr2 : rW D2 21 G.now := rW_out hr (fun a ha hb => hs2 a (by omega))
      refine x_astN b rfl rfl rfl (by omega) rfl ?_
      have hok := wok_kd (b := b) (k := i) ho (by omega)
      refine x_call [xR 0 4 33] rfl rfl rfl rfl rfl rfl rfl (c_passEvening (by omega) (rW_kd (i := b) (v := i) (hc G.now h8 ho.2.1 hr2)) hok (by show G.now.E + 1 < _; omega) (fun D4 hr4 hP4 hs4 => ?_))
      have hs5 : ∀ a, (a < 27 ∨ 35 < a) → D4 a = D a := fun a ha => by rw [hs4 a (by omega) (by omega) (by omega), xup_ne a (by omega), hs3 a (by omega), hs2 a ha]
      refine x_call [xR 0 4 33] rfl rfl rfl rfl rfl rfl rfl (c_agree (cSe_out h.2.2.2.2.1 (fun a ha hb => hs5 a (by omega))) g6.1 g6.2 hP4 (len_said hok) (said_lt _) ?_)
      have IH := ih (i + 1) D4 (by omega) hs5
      rw [← nI_1, wbits] at IH
      cases hq : wAgree G.seen (wSaid (wKd G.now b i)) with
      | true =>
        rw [hq, if_pos rfl] at IH
        refine x0_eq rfl rfl (fun h => absurd h (by decide)) (fun _ => ?_)
        refine x_to 72 rfl ?_
        have e : nI (wbits (fun k => wAgree G.seen (wSaid (wKd G.now b k))) i) ||| (xnum 1 <<< (nI i &&& 31)) = nI (wbits (fun k => wAgree G.seen (wSaid (wKd G.now b k))) i + 2 ^ i) := by
          rw [← xb_orp hlt, ← xb_sh1 (by omega)]
          rfl
        rw [e]
        exact x_goto rfl rfl IH
      | false =>
        rw [hq] at IH
        refine x0_eq rfl rfl (fun _ => ?_) (fun h => absurd rfl h)
        exact x_goto rfl rfl IH
  exact loop 5 0 D (by omega) (fun _ _ => rfl)
theorem am_kinds {x : Int32} (h : RelM D G) (hg : gok G) (hp : ∀ D', RelM D' G → (∀ a, a < 111 → D' a = D a) → post (some (aKinds G x)) D') : xRuns Γ (n + 6) hX9_kinds [xR 0 9 111, xI x] D post := by
  have ho := hg.2.2.1.1
  have hE := hg.2.2.1.2
  have h8 := ho.1
  have hr := h.2.1
  have g6 := hg.2.2.2.2.2.1
  refine x_runs kX9_kinds (by decide +kernel) rfl ?_
  rw [aKinds] at hp
  refine x_call [xI x] rfl rfl rfl rfl rfl rfl rfl (c_isBird hr ho ?_)
  rcases hx_b : gI x 0 ((G.now.B : Int) - 1) with _ | b
  · rw [hx_b] at hp
    refine x0_ne rfl rfl (fun h => absurd rfl h) (fun _ => ?_)
    exact x_ret rfl rfl rfl rfl (hp D h (fun _ _ => rfl))
  rw [hx_b] at hp
  dsimp only at hp
  obtain ⟨e1_b, e2_b, e3_b, e4_b⟩ := gI_some (by decide) hx_b
  subst e1_b
  have h_b : b < G.now.B := by omega
  refine x0_ne rfl rfl (fun _ => ?_) (fun h => absurd h (by simp))
  obtain ⟨sp0, hP0, hl0⟩ := h.2.2.2.2.2.2.2
  refine x_to 15 rfl ?_
  have loop : ∀ (f i : Nat) (D2 : xM) (sp : Nat → List Nat), i + f = 5 → rP D2 138 139 sp → (∀ z, z < 4 → (sp z).length ≤ 16) → sameMP 1296 D D2 → xW Γ (n + 6) hX9_kinds rX9_kinds 15 [some (xR 0 9 111), some (xI (nI b)), some (xI (nI (wbits (fun k => wAgree G.seen (wSaid (wKd G.now b k))) i))), some (xI (nI i)), none, none] [] D2 post := by
    intro f
    induction f with
    | zero =>
      intro i D2 sp hi hP2 hl2 hs2
      obtain rfl : i = 5 := by omega
      refine xi_geN 5 5 rfl rfl rfl rfl (by omega) (by omega) (fun _ => ?_) (fun h => absurd h (by omega))
      exact x_ret rfl rfl rfl rfl (hp D2 (RelM_out h hg (fun a j g1 g2 g3 _ => hs2 a j (by omega) g2 g3) ⟨sp, hP2, hl2⟩) (fun a ha => funext fun j => hs2 a j (by omega) (by omega) (by omega)))
    | succ f ih =>
      intro i D2 sp hi hP2 hl2 hs2
      have hlt := wbits_lt (fun k => wAgree G.seen (wSaid (wKd G.now b k))) i
      refine xi_geN i 5 rfl rfl rfl rfl (by omega) (by omega) (fun h => absurd h (by omega)) (fun h2 => ?_)
      have hr2 : rM D2 0 G.now := rM_out hr h8 ho.2.1 (fun j _ _ => hs2 112 j (by omega) (by omega) (by omega))
      refine x_call [] rfl rfl rfl rfl rfl rfl rfl (c_layTried hr2 ho.1 ho.2.1 (fun D3 hr3 hs3 => ?_))
      refine x_astN (1296 + 4 + b) rfl rfl (by show nI 1300 + nI b = _; rw [nI_add]) (by omega) rfl ?_
      have hok := wok_kd (b := b) (k := i) ho (by omega)
      have hs4 : sameM 1296 D3 (xup D3 112 (1296 + 4 + b) (nI i)) := sameM.rf.up (by omega) (by omega)
      refine x_call [xI (nI 1)] rfl rfl rfl rfl rfl rfl rfl (c_passTried (k := 1) (by omega) (rM_kd hr3 h8 ho.2.1 h_b) (rP_outM (rP_outM hP2 hs3) hs4) hl2 hok (by show G.now.E + 1 < _; omega) (fun D5 hr5 hsp hs5 => ?_))
      obtain ⟨sp5, q1, q2, q3⟩ := hsp
      have q3 := q3 (by omega)
      subst q3
      have hs6 : sameMP 1296 D D5 := ((hs2.tr (sameMP.ofM hs3)).tr (sameMP.ofM hs4)).tr hs5
      have hse : mSe D5 G.seen := mSe_out h.2.2.2.2.1 (hs6 111 5 (by omega) (by omega) (by omega)) (fun a ha hb => funext fun j => hs6 a j (by omega) (by omega) (by omega))
      have IH := ih (i + 1) D5 _ (by omega) q1 q2 hs6
      rw [← nI_1, wbits] at IH
      refine x_to 46 rfl ?_
      have inner : ∀ (f2 j : Nat), j + f2 = G.seen.length → xW Γ (n + 6) hX9_kinds rX9_kinds 46 [some (xR 0 9 111), some (xI (nI b)), some (xI (nI (wbits (fun k => wAgree G.seen (wSaid (wKd G.now b k))) i))), some (xI (nI i)), some (xI (if (List.range j).all (pAg G.seen (wSaid (wKd G.now b i))) then 1 else 0)), some (xI (nI j))] [] D5 post := by
        intro f2
        induction f2 with
        | zero =>
          intro j hj
          have hj' : j = G.seen.length := by omega
          refine xi_geN j G.seen.length rfl rfl rfl hse.1 (by omega) (by omega) (fun _ => ?_) (fun h => absurd h (by omega))
          rw [hj']
          show xW Γ _ _ _ _ [_, _, _, _, some (xI (if wAgree G.seen (wSaid (wKd G.now b i)) then 1 else 0)), _] _ _ _
          cases hq : wAgree G.seen (wSaid (wKd G.now b i)) with
          | true =>
            rw [hq, if_pos rfl] at IH
            refine x0_eq rfl rfl (fun h => absurd h (by decide)) (fun _ => ?_)
            refine x_goto rfl rfl ?_
            refine x_to 116 rfl ?_
            have e : nI (wbits (fun k => wAgree G.seen (wSaid (wKd G.now b k))) i) ||| (xnum 1 <<< (nI i &&& 31)) = nI (wbits (fun k => wAgree G.seen (wSaid (wKd G.now b k))) i + 2 ^ i) := by
              rw [← xb_orp hlt, ← xb_sh1 (by omega)]
              rfl
            rw [e]
            refine x_drop 4 (x_drop 5 ?_)
            exact x_goto rfl rfl IH
          | false =>
            rw [hq] at IH
            refine x0_eq rfl rfl (fun _ => ?_) (fun h => absurd rfl h)
            refine x_to 116 rfl ?_
            have e : nI (wbits (fun k => wAgree G.seen (wSaid (wKd G.now b k))) i) ||| xnum 0 = nI (wbits (fun k => wAgree G.seen (wSaid (wKd G.now b k))) i) := by
              show _ ||| nI 0 = _
              rw [xb_or, Nat.or_zero]
            rw [e]
            refine x_drop 4 (x_drop 5 ?_)
            exact x_goto rfl rfl IH
        | succ f2 ih2 =>
          intro j hj
          have hj' : j < G.seen.length := by omega
          have hq := g6.2 G.seen[j] (List.getElem_mem hj')
          have hl6 := g6.1
          obtain ⟨w1, w2, w3⟩ := hse.2 j hj'
          have IH2 := ih2 (j + 1) (by omega)
          rw [← nI_1, all_succ] at IH2
          have ep : pAg G.seen (wSaid (wKd G.now b i)) j = decide ((wSaid (wKd G.now b i) G.seen[j].1)[G.seen[j].2.1]? = G.seen[j].2.2) := by simp only [pAg, List.getElem?_eq_getElem hj']
          refine xi_geN j G.seen.length rfl rfl rfl hse.1 (by omega) (by omega) (fun h => absurd h (by omega)) (fun h => ?_)
          cases ha : (List.range j).all (pAg G.seen (wSaid (wKd G.now b i))) with
          | false =>
            rw [ha] at IH2
            refine x0_eq rfl rfl (fun _ => ?_) (fun h => absurd rfl h)
            exact x_goto rfl rfl IH2
          | true =>
            rw [ha, ep] at IH2
            refine x0_eq rfl rfl (fun h => absurd h (by decide)) (fun _ => ?_)
            refine x_aldN j rfl rfl rfl (by omega) rfl ?_
            refine x_aldN j rfl rfl rfl (by omega) rfl ?_
            rw [w1, w2]
            refine x_call [xI (nI G.seen[j].1), xI (nI G.seen[j].2.1)] rfl rfl rfl rfl rfl rfl rfl (c_saidAt q1 q2 hq.1 (by omega) ?_)
            refine x_aldN j rfl rfl rfl (by omega) rfl ?_
            rw [w3]
            have key := sa_key (p := G.seen[j].1) (i := G.seen[j].2.1) (said_lt (wKd G.now b i)) hq.2.2
            refine xi_ne rfl rfl (fun h2 => ?_) (fun h2 => ?_)
            · rw [decide_eq_false (fun z => h2 (key.mpr z))] at IH2
              exact x_goto rfl rfl IH2
            · rw [decide_eq_true (key.mp h2)] at IH2
              exact x_goto rfl rfl (x_goto rfl rfl IH2)
      exact inner G.seen.length 0 (by omega)
  exact loop 5 0 D sp0 (by omega) hP0 hl0 sameMP.rf
end A6
end
section
/-! ===== count, reels ===== -/
abbrev reT : Type := Nat × Nat × (Nat → Int32)
def gReel (G : gS) (r : Nat → Option reT) : gS := gmk G.tx G.tg G.told G.now G.past G.kept G.seen r
section A7
variable {Γ : xG} {n : Nat} {D : xM} {post : Option Int32 → xM → Prop} {G : gS} {S : wS}
theorem c_reelsThere {reel : Nat → Option reT} (h : cRe D reel) (hp : post (some (nI (wSum (fun r => if (reel r).isSome then 1 else 0) 3))) D) : xRuns Γ n hX8_reelsThere [xR 0 8 0] D post := by
  refine x_runs kX8_reelsThere (by decide +kernel) rfl ?_
  refine x_to 4 rfl ?_
  have loop : ∀ (f i : Nat), i + f = 3 → xW Γ n hX8_reelsThere rX8_reelsThere 4 [some (xR 0 8 0), some (xI (nI (wSum (fun r => if (reel r).isSome then 1 else 0) i))), some (xI (nI i))] [] D post := by
    intro f
    induction f with
    | zero =>
      intro i hi
      obtain rfl : i = 3 := by omega
      refine xi_geN 3 3 rfl rfl rfl rfl (by omega) (by omega) (fun _ => ?_) (fun h => absurd h (by omega))
      exact x_ret rfl rfl rfl rfl hp
    | succ f ih =>
      intro i hi
      have IH := ih (i + 1) (by omega)
      have hi3 := h i (by omega)
      refine xi_geN i 3 rfl rfl rfl rfl (by omega) (by omega) (fun h => absurd h (by omega)) (fun h => ?_)
      refine x_rldN i rfl rfl rfl (by omega) rfl ?_
      rw [wSum, ← nI_1] at IH
      rcases hq : reel i with _ | ⟨s, l, f⟩
      · rw [hq] at IH hi3
        dsimp only at hi3
        refine x0_eq rfl rfl (fun _ => ?_) (fun h => absurd hi3 h)
        exact x_goto rfl rfl IH
      · rw [hq] at IH hi3
        dsimp only at hi3
        refine x0_eq rfl rfl (fun h => absurd (hi3.1.symm.trans h) (by decide)) (fun _ => ?_)
        rw [Option.isSome, if_pos rfl, ← nI_1] at IH
        exact x_goto rfl rfl IH
  exact loop 3 0 (by omega)
theorem c_mreelsThere {reel : Nat → Option reT} (h : mRe D reel) (hl : ∀ r s l f, r < 3 → reel r = some (s, l, f) → l ≤ 12) (hp : post (some (nI (wSum (fun r => if (reel r).isSome then 1 else 0) 3))) D) : xRuns Γ n hX9_reelsThere [xR 0 9 111] D post := by
  refine x_runs kX9_reelsThere (by decide +kernel) rfl ?_
  refine x_to 4 rfl ?_
  have loop : ∀ (f i : Nat), i + f = 3 → xW Γ n hX9_reelsThere rX9_reelsThere 4 [some (xR 0 9 111), some (xI (nI (wSum (fun r => if (reel r).isSome then 1 else 0) i))), some (xI (nI i))] [] D post := by
    intro f
    induction f with
    | zero =>
      intro i hi
      obtain rfl : i = 3 := by omega
      refine xi_geN 3 3 rfl rfl rfl rfl (by omega) (by omega) (fun _ => ?_) (fun h => absurd h (by omega))
      exact x_ret rfl rfl rfl rfl hp
    | succ f ih =>
      intro i hi
      have IH := ih (i + 1) (by omega)
      have hi3 := h i (by omega)
      refine xi_geN i 3 rfl rfl rfl rfl (by omega) (by omega) (fun h => absurd h (by omega)) (fun h => ?_)
      refine x_aldN i rfl rfl rfl (by omega) rfl ?_
      rw [wSum, ← nI_1, ← nI_add] at IH
      rcases hq : reel i with _ | ⟨s, l, f⟩
      · rw [hq] at IH hi3
        dsimp only at hi3
        refine x0_ge rfl rfl (fun h => absurd (hi3 ▸ h) (by decide)) (fun _ => ?_)
        exact x_goto rfl rfl (x_goto rfl rfl IH)
      · have := hl i s l f (by omega) hq
        rw [hq] at IH hi3
        dsimp only at hi3
        refine x0_ge rfl rfl (fun _ => ?_) (fun h => absurd (hi3.1 ▸ nI_pos' (by omega)) h)
        exact x_goto rfl rfl IH
  exact loop 3 0 (by omega)
theorem c_mmenWords (hr : rM D 0 S) (ho : wok S) (hp : post (some (nI (wSum (fun m => wCnt (S.ha m)) S.M))) D) : xRuns Γ (n + 1) hX9_menWords [xR 0 9 111] D post := by
  have h4 := ho.2.1
  refine x_runs kX9_menWords (by decide +kernel) rfl ?_
  refine x_to 4 rfl ?_
  have loop : ∀ f i, i + f = S.M → xW Γ (n + 1) hX9_menWords rX9_menWords 4 [some (xR 0 9 111), some (xI (nI (wSum (fun m => wCnt (S.ha m)) i))), some (xI (nI i))] [] D post := by
    intro f
    induction f with
    | zero =>
      intro i hi
      obtain rfl : i = S.M := by omega
      refine x_aldN (0 + 1) rfl rfl rfl (by omega) rfl ?_
      refine xi_geN S.M S.M rfl rfl rfl hr.2.1 (by omega) (by omega) (fun _ => ?_) (fun h => absurd h (by omega))
      exact x_ret rfl rfl rfl rfl hp
    | succ f ih =>
      intro i hi
      have IH := ih (i + 1) (by omega)
      rw [wSum, ← nI_1, ← nI_add] at IH
      refine x_aldN (0 + 1) rfl rfl rfl (by omega) rfl ?_
      refine xi_geN i S.M rfl rfl rfl hr.2.1 (by omega) (by omega) (fun h => absurd h (by omega)) (fun h => ?_)
      refine x_aldN (0 + 100 + i) rfl rfl (by rw [Nat.zero_add]; exact nI_add 100 i) (by omega) rfl ?_
      rw [hr.2.2.2.2.2.2.2.1 i (by omega)]
      refine x_scall [xI (nI (S.ha i))] rfl rfl rfl rfl rfl rfl rfl (c_bits (ho.2.2.2.2.2.2.2.1 i (by omega)) ?_)
      exact x_goto rfl rfl IH
  exact loop S.M 0 (by omega)
theorem c_mallWell (hr : rM D 0 S) (ho : wok S) (hp : post (some (nI (wbits (fun k => (List.range S.B).any fun b => decide (5 ≤ S.K b k)) 10))) D) : xRuns Γ (n + 1) hX9_allWellKnown [xR 0 9 111] D post := by
  have h8 := ho.1
  refine x_runs kX9_allWellKnown (by decide +kernel) rfl ?_
  refine x_to 4 rfl ?_
  have loop : ∀ f i, i + f = S.B → xW Γ (n + 1) hX9_allWellKnown rX9_allWellKnown 4 [some (xR 0 9 111), some (xI (nI (wbits (fun k => (List.range i).any fun b => decide (5 ≤ S.K b k)) 10))), some (xI (nI i))] [] D post := by
    intro f
    induction f with
    | zero =>
      intro i hi
      obtain rfl : i = S.B := by omega
      refine x_aldN 0 rfl rfl rfl (by omega) rfl ?_
      refine xi_geN S.B S.B rfl rfl rfl hr.1 (by omega) (by omega) (fun _ => ?_) (fun h => absurd h (by omega))
      exact x_ret rfl rfl rfl rfl hp
    | succ f ih =>
      intro i hi
      have IH := ih (i + 1) (by omega)
      have e : wbits (fun k => (List.range (i + 1)).any fun b => decide (5 ≤ S.K b k)) 10 = wbits (fun k => (List.range i).any fun b => decide (5 ≤ S.K b k)) 10 ||| wWell S i := by
        apply Nat.eq_of_testBit_eq
        intro j
        rw [Nat.testBit_or, wWell, wbits_tb, wbits_tb, wbits_tb, List.range_succ, List.any_append]
        cases decide (j < 10) <;> simp
      rw [e, ← nI_1, ← xb_or] at IH
      refine x_aldN 0 rfl rfl rfl (by omega) rfl ?_
      refine xi_geN i S.B rfl rfl rfl hr.1 (by omega) (by omega) (fun h => absurd h (by omega)) (fun h => ?_)
      refine x_call [xI (nI 0), xI (nI i)] rfl rfl rfl rfl rfl rfl rfl (c_mwell hr ho (by omega) (by omega) ?_)
      exact x_goto rfl rfl IH
  have := loop S.B 0 (by omega)
  have e : wbits (fun k => (List.range 0).any fun b => decide (5 ≤ S.K b k)) 10 = 0 := by simp [wbits]
  rw [e] at this
  exact this
theorem a_count {x : Int32} (h : RelC D G) (hg : gok G) (hp : post (some (aCount G x)) D) : xRuns Γ (n + 3) hX8_count [xR 0 8 0, xI x] D post := by
  have ho := hg.2.2.1.1
  have hr := h.2.1
  refine x_runs kX8_count (by decide +kernel) rfl ?_
  rw [aCount] at hp
  cases hx : gI x 0 9 with
  | none =>
    rw [hx] at hp
    refine x_tout (tgt := 133) rfl rfl (gI_none hx) (by decide) ?_
    exact x_ret rfl rfl rfl rfl hp
  | some k =>
    rw [hx] at hp
    obtain ⟨f1, f2, f3, f4⟩ := gI_some (by decide) hx
    subst f1
    match k, f3 with
    | 0, _ =>
      refine x_tin (tgt := 56) (off := 55) rfl rfl (by decide) (by decide) (by decide) (by decide) ?_
      refine x_ret rfl rfl rfl rfl ?_
      rw [hr.1]; exact hp
    | 1, _ =>
      refine x_tin (tgt := 64) (off := 63) rfl rfl (by decide) (by decide) (by decide) (by decide) ?_
      refine x_ret rfl rfl rfl rfl ?_
      rw [hr.2.1]; exact hp
    | 2, _ =>
      refine x_tin (tgt := 72) (off := 71) rfl rfl (by decide) (by decide) (by decide) (by decide) ?_
      refine x_ret rfl rfl rfl rfl ?_
      rw [hr.2.2.1]; exact hp
    | 3, _ =>
      refine x_tin (tgt := 80) (off := 79) rfl rfl (by decide) (by decide) (by decide) (by decide) ?_
      refine x_ret rfl rfl rfl rfl ?_
      rw [hr.2.2.2.1]; exact hp
    | 4, _ =>
      refine x_tin (tgt := 88) (off := 87) rfl rfl (by decide) (by decide) (by decide) (by decide) ?_
      refine x_call [] rfl rfl rfl rfl rfl rfl rfl (c_menWords hr ho ?_)
      exact x_ret rfl rfl rfl rfl hp
    | 5, _ =>
      refine x_tin (tgt := 96) (off := 95) rfl rfl (by decide) (by decide) (by decide) (by decide) ?_
      refine x_ret rfl rfl rfl rfl ?_
      rw [h.2.2.2.2.1.1]; exact hp
    | 6, _ =>
      refine x_tin (tgt := 104) (off := 103) rfl rfl (by decide) (by decide) (by decide) (by decide) ?_
      refine x_call [] rfl rfl rfl rfl rfl rfl rfl (c_reelsThere h.2.2.2.2.2.1 ?_)
      exact x_ret rfl rfl rfl rfl hp
    | 7, _ =>
      refine x_tin (tgt := 109) (off := 108) rfl rfl (by decide) (by decide) (by decide) (by decide) ?_
      refine x_ret rfl rfl rfl rfl ?_
      have hsz : D 36 4 = nI G.past.length := by obtain ⟨nx, sb, q⟩ := h.2.2.2.1; exact q.2.2.2.2.1
      rw [hsz]; exact hp
    | 8, _ =>
      refine x_tin (tgt := 117) (off := 116) rfl rfl (by decide) (by decide) (by decide) (by decide) ?_
      refine x_ret rfl rfl rfl rfl ?_
      rw [h.2.2.1.1]; exact hp
    | 9, _ =>
      refine x_tin (tgt := 125) (off := 124) rfl rfl (by decide) (by decide) (by decide) (by decide) ?_
      refine x_call [] rfl rfl rfl rfl rfl rfl rfl (c_someWell hr ho ?_)
      exact x_ret rfl rfl rfl rfl hp
    | k + 10, h => exact absurd h (by omega)
theorem am_count {x : Int32} (h : RelM D G) (hg : gok G) (hp : post (some (aCount G x)) D) : xRuns Γ (n + 2) hX9_count [xR 0 9 111, xI x] D post := by
  have ho := hg.2.2.1.1
  have hr := h.2.1
  refine x_runs kX9_count (by decide +kernel) rfl ?_
  rw [aCount] at hp
  cases hx : gI x 0 9 with
  | none =>
    rw [hx] at hp
    refine x_tout (tgt := 114) rfl rfl (gI_none hx) (by decide) ?_
    exact x_ret rfl rfl rfl rfl hp
  | some k =>
    rw [hx] at hp
    obtain ⟨f1, f2, f3, f4⟩ := gI_some (by decide) hx
    subst f1
    match k, f3 with
    | 0, _ =>
      refine x_tin (tgt := 56) (off := 55) rfl rfl (by decide) (by decide) (by decide) (by decide) ?_
      refine x_aldN 0 rfl rfl rfl (by omega) rfl ?_
      refine x_ret rfl rfl rfl rfl ?_
      rw [hr.1]; exact hp
    | 1, _ =>
      refine x_tin (tgt := 63) (off := 62) rfl rfl (by decide) (by decide) (by decide) (by decide) ?_
      refine x_aldN (0 + 1) rfl rfl rfl (by omega) rfl ?_
      refine x_ret rfl rfl rfl rfl ?_
      rw [hr.2.1]; exact hp
    | 2, _ =>
      refine x_tin (tgt := 70) (off := 69) rfl rfl (by decide) (by decide) (by decide) (by decide) ?_
      refine x_aldN (0 + 2) rfl rfl rfl (by omega) rfl ?_
      refine x_ret rfl rfl rfl rfl ?_
      rw [hr.2.2.1]; exact hp
    | 3, _ =>
      refine x_tin (tgt := 77) (off := 76) rfl rfl (by decide) (by decide) (by decide) (by decide) ?_
      refine x_aldN (0 + 3) rfl rfl rfl (by omega) rfl ?_
      refine x_ret rfl rfl rfl rfl ?_
      rw [hr.2.2.2.1]; exact hp
    | 4, _ =>
      refine x_tin (tgt := 84) (off := 83) rfl rfl (by decide) (by decide) (by decide) (by decide) ?_
      refine x_call [] rfl rfl rfl rfl rfl rfl rfl (c_mmenWords hr ho ?_)
      exact x_ret rfl rfl rfl rfl hp
    | 5, _ =>
      refine x_tin (tgt := 89) (off := 88) rfl rfl (by decide) (by decide) (by decide) (by decide) ?_
      refine x_ret rfl rfl rfl rfl ?_
      rw [h.2.2.2.2.1.1]; exact hp
    | 6, _ =>
      refine x_tin (tgt := 94) (off := 93) rfl rfl (by decide) (by decide) (by decide) (by decide) ?_
      refine x_call [] rfl rfl rfl rfl rfl rfl rfl (c_mreelsThere h.2.2.2.2.2.1 (fun r s l f q1 q2 => (hg.2.2.2.2.2.2 r s l f q1 q2).2) ?_)
      exact x_ret rfl rfl rfl rfl hp
    | 7, _ =>
      refine x_tin (tgt := 99) (off := 98) rfl rfl (by decide) (by decide) (by decide) (by decide) ?_
      refine x_ret rfl rfl rfl rfl ?_
      rw [h.2.2.2.1.1]; exact hp
    | 8, _ =>
      refine x_tin (tgt := 104) (off := 103) rfl rfl (by decide) (by decide) (by decide) (by decide) ?_
      refine x_ret rfl rfl rfl rfl ?_
      rw [h.2.2.1.1]; exact hp
    | 9, _ =>
      refine x_tin (tgt := 109) (off := 108) rfl rfl (by decide) (by decide) (by decide) (by decide) ?_
      refine x_call [] rfl rfl rfl rfl rfl rfl rfl (c_mallWell hr ho ?_)
      exact x_ret rfl rfl rfl rfl hp
    | k + 10, h => exact absurd h (by omega)
end A7
end
section
/-! ===== reel, record, play, splice, drop ===== -/
def aReel (G : gS) (x y z : Int32) : Int32 × gS := match gI x 0 2 with
  | none => (-2, G)
  | some r => match gI y 0 3 with
    | none => (-3, G)
    | some s => if 12 < z.toInt then (-3, G) else if z < 0 then (-16, G) else (z, gReel G (wuf G.reel r (some (s, z.toInt.toNat, fun _ => if s = 3 then -1 else 0))))
def rFind (q : Option reT) (s : Nat) (i : Int32) : Int32 := match q with
  | none => -11
  | some (s', l, _) => if s' = s then (if (gI i 0 ((l : Int) - 1)).isSome then 0 else -14) else -12
def rCut (s : Nat) (v : Int32) : Int32 := if s = 0 then v.toInt8.toInt32 else if s = 1 then v.toInt16.toInt32 else v
def rPut (s : Nat) (v : Int32) : Int32 := if s < 2 then rCut s v + 100000 else if s = 2 then 1 else v
def rRem (x : Int32) : Int32 := x - x / 1000003 * 1000003
def rSound (s : Nat) (v : Int32) : Int32 := if s = 3 then (if v = -1 then -15 else v) else if s < 2 then v + 100000 else if 0 ≤ v then rRem v else rRem (v ^^^ -1) + 2000000
def fup (f : Nat → Int32) (i : Nat) (v : Int32) : Nat → Int32 := fun j => if j = i then v else f j
def aRecord (G : gS) (x y i v : Int32) : Int32 × gS := match gI x 0 2 with
  | none => (-2, G)
  | some r => if y = 3 ∧ gO v ((G.now.B : Int) - 1) = none then (-2, G) else match gI y 0 3 with
    | none => (-3, G)
    | some s => match G.reel r with
      | none => (-11, G)
      | some (s', l, f) => if s' = s then (match gI i 0 ((l : Int) - 1) with
        | none => (-14, G)
        | some j => (rPut s v, gReel G (wuf G.reel r (some (s, l, fup f j (rCut s v)))))) else (-12, G)
def aPlay (G : gS) (x y i : Int32) : Int32 := match gI x 0 2 with
  | none => -2
  | some r => match gI y 0 3 with
    | none => -3
    | some s => match G.reel r with
      | none => -11
      | some (s', l, f) => if s' = s then (match gI i 0 ((l : Int) - 1) with
        | none => -14
        | some j => rSound s (f j)) else -12
def aDrop (G : gS) (x : Int32) : Int32 × gS := match gI x 0 2 with
  | none => (-2, G)
  | some r => match G.reel r with
    | none => (-11, G)
    | some (_, l, _) => (nI l, gReel G (wuf G.reel r none))
theorem RelC_reel {D D' : xM} {G : gS} {q : Nat → Option reT} (h : RelC D G) (hh : cRe D' q) (e : ∀ a, (a < 104 ∨ 109 < a) → D' a = D a) : RelC D' (gReel G q) := by
  obtain ⟨h1, h2, h3, h4, h5, h6, h7⟩ := h
  exact ⟨rW_out h1 (fun a ha hb => e a (by omega)), rW_out h2 (fun a ha hb => e a (by omega)), cTx_out h3 (by rw [e 1 (by omega)]) (e 2 (by omega)), cHi_out h4 (fun a ha hb => e a (by omega)), cSe_out h5 (fun a ha hb => e a (by omega)), hh, cTg_out h7 (by rw [e 10 (by omega)]) (e 11 (by omega)) (e 12 (by omega))⟩
theorem RelM_reel {D D' : xM} {G : gS} {q : Nat → Option reT} (h : RelM D G) (hg : gok G) (hh : mRe D' q) (e : ∀ a, (a < 121 ∨ 123 < a) → a ≠ 143 → D' a = D a) : RelM D' (gReel G q) := by
  obtain ⟨⟨h1, h1z⟩, h2, h3, h4, h5, h6, h7, h8⟩ := h
  obtain ⟨g1, g2, g3, g4, g5, g6, g7⟩ := hg
  have e112 := e 112 (by omega) (by omega)
  have e111 := e 111 (by omega) (by omega)
  exact ⟨⟨rM_out h1 g2.1 g2.2.1 (fun j q1 q2 => by rw [e112]), mZ_out h1z (fun j _ _ => by rw [e112])⟩, rM_out h2 g3.1.1 g3.1.2.1 (fun j _ _ => by rw [e112]), mTx_out h3 (by rw [e111]) (e 114 (by omega) (by omega)), mHi_out h4 g4.1 (fun S hS => (g4.2 S hS).1) (fun k S hk hS => (g5 k S hk hS).1) (by rw [e111]) (fun j _ _ => by rw [e112]) (e 113 (by omega) (by omega)), mSe_out h5 (by rw [e111]) (fun a ha hb => e a (by omega) (by omega)), hh, mTg_out h7 (by rw [e111]) (e 118 (by omega) (by omega)) (e 119 (by omega) (by omega)) (e 120 (by omega) (by omega)), mSp_out h8 (e 138 (by omega) (by omega)) (e 139 (by omega) (by omega))⟩
/-- one reel changed -/
theorem cRe_one {D D' : xM} {q : Nat → Option reT} {r : Nat} {v : Option reT} (h : cRe D q) (hr : r < 3) (hv : match v with
  | none => D' (104 + 2 * r) 1 = 0
  | some (s, l, f) => D' (104 + 2 * r) 1 = 1 ∧ D' (104 + 2 * r) 2 = nI s ∧ D' (104 + 2 * r) 3 = nI l ∧ ∀ j, j < 12 → D' (105 + 2 * r) j = f j) (e : ∀ a, a ≠ 104 + 2 * r → a ≠ 105 + 2 * r → D' a = D a) : cRe D' (wuf q r v) := by
  intro r' hr'
  by_cases er : r' = r
  · subst er
    have : wuf q r' v r' = v := by simp [wuf]
    rw [this]
    exact hv
  · have : wuf q r v r' = q r' := by simp [wuf, er]
    rw [this, e (104 + 2 * r') (by omega) (by omega), e (105 + 2 * r') (by omega) (by omega)]
    exact h r' hr'
theorem mRe_one {D D' : xM} {q : Nat → Option reT} {r : Nat} {v : Option reT} (h : mRe D q) (hr : r < 3) (hv : match v with
  | none => D' 121 r = -1
  | some (s, l, f) => D' 121 r = nI l ∧ D' 122 r = nI s ∧ ∀ j, j < 12 → D' 123 (12 * r + j) = f j) (e1 : ∀ j, j ≠ r → D' 121 j = D 121 j) (e2 : ∀ j, j ≠ r → D' 122 j = D 122 j) (e3 : ∀ r' j, r' ≠ r → j < 12 → D' 123 (12 * r' + j) = D 123 (12 * r' + j)) : mRe D' (wuf q r v) := by
  intro r' hr'
  by_cases er : r' = r
  · subst er
    have : wuf q r' v r' = v := by simp [wuf]
    rw [this]
    exact hv
  · have : wuf q r v r' = q r' := by simp [wuf, er]
    rw [this, e1 r' er, e2 r' er]
    have h1 := h r' hr'
    cases hq : q r' with
    | none => rw [hq] at h1; exact h1
    | some t =>
      rw [hq] at h1
      exact ⟨h1.1, h1.2.1, fun j hj => by rw [e3 r' j er hj]; exact h1.2.2 j hj⟩
theorem g_reelset {G : gS} {q : Nat → Option reT} (hg : gok G) (h : ∀ r s l f, r < 3 → q r = some (s, l, f) → s < 4 ∧ l ≤ 12) : gok (gReel G q) := by
  obtain ⟨g1, g2, g3, g4, g5, g6, g7⟩ := id hg
  exact ⟨g1, g2, g3, g4, g5, g6, h⟩
theorem reel_one {q : Nat → Option reT} {r : Nat} {v : Option reT} (h : ∀ r s l f, r < 3 → q r = some (s, l, f) → s < 4 ∧ l ≤ 12) (hv : ∀ s l f, v = some (s, l, f) → s < 4 ∧ l ≤ 12) : ∀ r' s l f, r' < 3 → wuf q r v r' = some (s, l, f) → s < 4 ∧ l ≤ 12 := by
  intro r' s l f hr' hq
  simp only [wuf] at hq
  split at hq
  · exact hv s l f hq
  · exact h r' s l f hr' hq
theorem z_nat {z : Int32} (h1 : ¬ 12 < z.toInt) (h2 : ¬ z < 0) : z = nI z.toInt.toNat ∧ z.toInt.toNat ≤ 12 := by
  obtain ⟨j, hj, rfl⟩ := nI_of h2
  rw [nI_toInt hj] at h1 ⊢
  exact ⟨rfl, by omega⟩
section A8
variable {Γ : xG} {n : Nat} {D : xM} {post : Option Int32 → xM → Prop} {G : gS} {S : wS}
theorem g_reel {x y z : Int32} (hg : gok G) : gok (aReel G x y z).2 := by
  rw [aReel]
  split
  · exact hg
  · split
    · exact hg
    · rename_i s hs
      have h := gI_some (by decide) hs
      split
      · exact hg
      · rename_i h1
        split
        · exact hg
        · rename_i h2
          refine g_reelset hg (reel_one hg.2.2.2.2.2.2 (fun s' l f e => ?_))
          cases e
          exact ⟨by omega, (z_nat h1 h2).2⟩
theorem g_record {x y i v : Int32} (hg : gok G) : gok (aRecord G x y i v).2 := by
  rw [aRecord]
  split
  · exact hg
  · rename_i r hr
    have h := gI_some (by decide) hr
    split
    · exact hg
    · split
      · exact hg
      · rename_i s hs
        have h2 := gI_some (by decide) hs
        split
        · exact hg
        · rename_i s' l f hq
          have h3 := hg.2.2.2.2.2.2 r s' l f (by omega) hq
          split
          · split
            · exact hg
            · refine g_reelset hg (reel_one hg.2.2.2.2.2.2 (fun s'' l' f' e => ?_))
              cases e
              exact ⟨by omega, h3.2⟩
          · exact hg
theorem g_drop {x : Int32} (hg : gok G) : gok (aDrop G x).2 := by
  rw [aDrop]
  split
  · exact hg
  · split
    · exact hg
    · exact g_reelset hg (reel_one hg.2.2.2.2.2.2 (fun s l f e => by cases e))
theorem c_wind {r s : Nat} {z : Int32} (hs : s < 4) (hp : ∀ D', D' (104 + 2 * r) 1 = 1 → D' (104 + 2 * r) 2 = nI s → D' (104 + 2 * r) 3 = z → (∀ j, j < 12 → D' (105 + 2 * r) j = if s = 3 then -1 else 0) → (∀ a, a ≠ 104 + 2 * r → a ≠ 105 + 2 * r → D' a = D a) → post none D') : xRuns Γ n hX2_wind [xR 0 2 (104 + 2 * r), xI (nI s), xI z] D post := by
  refine x_runs kX2_wind (by decide +kernel) rfl ?_
  refine x_pfz (a := 0) rfl rfl (by decide) rfl (Or.inr rfl) ?_
  refine x_to 17 rfl ?_
  have loop : ∀ (f i : Nat) (D1 : xM), i + f = 12 → (∀ j, D1 (104 + 2 * r) j = xup (xup (xup D (104 + 2 * r) 1 (xnum 1)) (104 + 2 * r) 2 (nI s)) (104 + 2 * r) 3 z (104 + 2 * r) j) → (∀ j, j < i → D1 (105 + 2 * r) j = if s = 3 then -1 else 0) → (∀ a, a ≠ 104 + 2 * r → a ≠ 105 + 2 * r → D1 a = D a) → xW Γ n hX2_wind rX2_wind 17 [some (xR 0 2 (104 + 2 * r)), some (xI (nI s)), some (xI z), some (xI (nI i))] [] D1 post := by
    intro f
    induction f with
    | zero =>
      intro i D1 hi h1 h2 h3
      obtain rfl : i = 12 := by omega
      refine xi_geN 12 12 rfl rfl rfl rfl (by omega) (by omega) (fun _ => ?_) (fun h => absurd h (by omega))
      refine x_vret rfl rfl rfl (hp D1 ?_ ?_ ?_ h2 h3)
      · rw [h1, xup_o (by omega), xup_o (by omega), xup_at]; rfl
      · rw [h1, xup_o (by omega), xup_at]
      · rw [h1, xup_at]
    | succ f ih =>
      intro i D1 hi h1 h2 h3
      refine xi_geN i 12 rfl rfl rfl rfl (by omega) (by omega) (fun h => absurd h (by omega)) (fun h => ?_)
      have go : ∀ v : Int32, v = (if s = 3 then -1 else 0) → xW Γ n hX2_wind rX2_wind 39 [some (xR 0 2 (104 + 2 * r)), some (xI (nI s)), some (xI z), some (xI (nI i))] [] (xup D1 (104 + 2 * r + 1) i v) post := by
        intro v hv
        have IH := ih (i + 1) (xup D1 (104 + 2 * r + 1) i v) (by omega) (fun j => by rw [xup_o (by omega)]; exact h1 j) (fun j hj => by
          have e : 105 + 2 * r = 104 + 2 * r + 1 := by omega
          rw [e]
          by_cases q : j = i
          · subst q; rw [xup_at]; exact hv
          · rw [xup_o (by omega), ← e]; exact h2 j (by omega)) (fun a q1 q2 => by rw [xup_ne a (by omega)]; exact h3 a q1 q2)
        rw [← nI_1] at IH
        exact x_goto rfl rfl IH
      refine xi_neN s 3 rfl rfl rfl rfl (by omega) (by omega) (fun h4 => ?_) (fun h4 => ?_)
      · refine x_astN i rfl rfl rfl (by omega) rfl ?_
        exact go _ (by rw [if_neg h4]; rfl)
      · refine x_goto rfl rfl ?_
        refine x_astN i rfl rfl rfl (by omega) rfl ?_
        exact go _ (by rw [if_pos h4]; rfl)
  exact loop 12 0 _ (by omega) (fun j => rfl) (fun j hj => absurd hj (by omega)) (fun a q1 q2 => by rw [xup_ne a q1, xup_ne a q1, xup_ne a q1])
theorem a_reel {x y z : Int32} (h : RelC D G) (hg : gok G) (hp : ∀ D', RelC D' (aReel G x y z).2 → (∀ a, 111 ≤ a → D' a = D a) → post (some (aReel G x y z).1) D') : xRuns Γ (n + 2) hX8_reel [xR 0 8 0, xI x, xI y, xI z] D post := by
  refine x_runs kX8_reel (by decide +kernel) rfl ?_
  rw [aReel] at hp
  refine x_scall [xI x] rfl rfl rfl rfl rfl rfl rfl (c_noReel ?_)
  rcases hx_r : gI x 0 2 with _ | r
  · rw [hx_r] at hp
    refine x0_eq rfl rfl (fun h => absurd h (by decide)) (fun _ => ?_)
    exact x_ret rfl rfl rfl rfl (hp D h (fun _ _ => rfl))
  rw [hx_r] at hp
  dsimp only at hp
  obtain ⟨e1_r, e2_r, e3_r, e4_r⟩ := gI_some (by decide) hx_r
  subst e1_r
  have h_r : r < 3 := by omega
  refine x0_eq rfl rfl (fun _ => ?_) (fun h => absurd rfl h)
  refine x_scall [xI y] rfl rfl rfl rfl rfl rfl rfl (c_noSort ?_)
  rcases hx_s : gI y 0 3 with _ | s
  · rw [hx_s] at hp
    refine x0_ne rfl rfl (fun _ => ?_) (fun h => absurd h (by decide))
    exact x_ret rfl rfl rfl rfl (hp D h (fun _ _ => rfl))
  rw [hx_s] at hp
  dsimp only at hp
  obtain ⟨e1_s, e2_s, e3_s, e4_s⟩ := gI_some (by decide) hx_s
  subst e1_s
  have h_s : s < 4 := by omega
  refine x0_ne rfl rfl (fun h => absurd rfl h) (fun _ => ?_)
  refine xi_le rfl rfl (fun h1 => ?_) (fun h1 => ?_)
  · have h1' : ¬ 12 < z.toInt := by have := Int32.le_iff_toInt_le.mp h1; have e : (xnum 12).toInt = 12 := (by decide); omega
    rw [if_neg h1'] at hp
    refine x0_ge rfl rfl (fun h2 => ?_) (fun h2 => ?_)
    · have h2' : ¬ z < 0 := Int32.not_lt.mpr h2
      rw [if_neg h2'] at hp
      obtain ⟨ez, hz⟩ := z_nat h1' h2'
      refine x_rldN r rfl rfl rfl (by omega) rfl ?_
      refine x_call [xI (nI s), xI z] rfl rfl rfl rfl rfl rfl rfl (c_wind h_s (fun D1 q1 q2 q3 q4 q5 => ?_))
      refine x_ret rfl rfl rfl rfl ?_
      refine hp D1 (RelC_reel h (cRe_one h.2.2.2.2.2.1 h_r ⟨q1, q2, q3.trans ez, q4⟩ q5) (fun a ha => q5 a (by omega) (by omega))) (fun a ha => q5 a (by omega) (by omega))
    · have h2' : z < 0 := Int32.not_le.mp h2
      rw [if_pos h2'] at hp
      exact x_ret rfl rfl rfl rfl (hp D h (fun _ _ => rfl))
  · have h1' : 12 < z.toInt := by
      have := Int32.lt_iff_toInt_lt.mp (Int32.not_le.mp h1); have e : (xnum 12).toInt = 12 := by decide
      omega
    rw [if_pos h1'] at hp
    exact x_ret rfl rfl rfl rfl (hp D h (fun _ _ => rfl))
theorem am_reel {x y z : Int32} (h : RelM D G) (hg : gok G) (hp : ∀ D', RelM D' (aReel G x y z).2 → (∀ a, a < 111 → D' a = D a) → post (some (aReel G x y z).1) D') : xRuns Γ (n + 2) hX9_reel [xR 0 9 111, xI x, xI y, xI z] D post := by
  refine x_runs kX9_reel (by decide +kernel) rfl ?_
  rw [aReel] at hp
  refine x_scall [xI x] rfl rfl rfl rfl rfl rfl rfl (c_isReel ?_)
  rcases hx_r : gI x 0 2 with _ | r
  · rw [hx_r] at hp
    refine x0_ne rfl rfl (fun h => absurd rfl h) (fun _ => ?_)
    exact x_ret rfl rfl rfl rfl (hp D h (fun _ _ => rfl))
  rw [hx_r] at hp
  dsimp only at hp
  obtain ⟨e1_r, e2_r, e3_r, e4_r⟩ := gI_some (by decide) hx_r
  subst e1_r
  have h_r : r < 3 := by omega
  refine x0_ne rfl rfl (fun _ => ?_) (fun h => absurd h (by simp))
  refine x_scall [xL y.toInt64, xL (Int64.ofNat 0), xL (Int64.ofNat 3)] rfl rfl rfl rfl rfl rfl rfl (c_inI (lo := 0) (hi := 3) (by decide) (by decide) ?_)
  rcases hx_s : gI y 0 3 with _ | s
  · rw [hx_s] at hp
    refine x0_eq rfl rfl (fun _ => ?_) (fun h => absurd rfl h)
    exact x_ret rfl rfl rfl rfl (hp D h (fun _ _ => rfl))
  rw [hx_s] at hp
  dsimp only at hp
  obtain ⟨e1_s, e2_s, e3_s, e4_s⟩ := gI_some (by decide) hx_s
  subst e1_s
  have h_s : s < 4 := by omega
  refine x0_eq rfl rfl (fun h => absurd h (by simp)) (fun _ => ?_)
  refine xi_le rfl rfl (fun h1 => ?_) (fun h1 => ?_)
  · have h1' : ¬ 12 < z.toInt := by have := Int32.le_iff_toInt_le.mp h1; have e : (xnum 12).toInt = 12 := (by decide); omega
    rw [if_neg h1'] at hp
    refine x0_ge rfl rfl (fun h2 => ?_) (fun h2 => ?_)
    · have h2' : ¬ z < 0 := Int32.not_lt.mpr h2
      rw [if_neg h2'] at hp
      obtain ⟨ez, hz⟩ := z_nat h1' h2'
      refine x_astN r rfl rfl rfl (by omega) rfl ?_
      refine x_astN r rfl rfl rfl (by omega) rfl ?_
      refine x_to 55 rfl ?_
      have loop : ∀ (f i : Nat) (D1 : xM), i + f = 12 → (∀ a, a ≠ 123 → D1 a = xup (xup D 121 r z) 122 r (nI s) a) → (∀ j, j < i → D1 123 (12 * r + j) = if s = 3 then -1 else 0) → (∀ r' j, r' ≠ r → j < 12 → D1 123 (12 * r' + j) = D 123 (12 * r' + j)) → xW Γ (n + 2) hX9_reel rX9_reel 55 [some (xR 0 9 111), some (xI (nI r)), some (xI (nI s)), some (xI z), some (xI (nI i))] [] D1 post := by
        intro f
        induction f with
        | zero =>
          intro i D1 hi k1 k2 k3
          obtain rfl : i = 12 := by omega
          refine xi_geN 12 12 rfl rfl rfl rfl (by omega) (by omega) (fun _ => ?_) (fun h => absurd h (by omega))
          refine x_ret rfl rfl rfl rfl ?_
          refine hp D1 (RelM_reel h hg (mRe_one h.2.2.2.2.2.1 h_r ⟨?_, ?_, k2⟩ (fun j hj => ?_) (fun j hj => ?_) k3) (fun a ha hb => ?_)) (fun a ha => ?_)
          · rw [k1 121 (by omega), xup_o (by omega), xup_at]; exact ez
          · rw [k1 122 (by omega), xup_at]
          · rw [k1 121 (by omega), xup_o (by omega), xup_o (by omega)]
          · rw [k1 122 (by omega), xup_o (by omega), xup_o (by omega)]
          · rw [k1 a (by omega), xup_ne a (by omega), xup_ne a (by omega)]
          · rw [k1 a (by omega), xup_ne a (by omega), xup_ne a (by omega)]
        | succ f ih =>
          intro i D1 hi k1 k2 k3
          refine xi_geN i 12 rfl rfl rfl rfl (by omega) (by omega) (fun h => absurd h (by omega)) (fun h => ?_)
          have ix : xnum 12 * nI r + nI i = nI (12 * r + i) := by
            show nI 12 * nI r + nI i = _
            rw [pk_mul, nI_add]
          have go : ∀ v : Int32, v = (if s = 3 then -1 else 0) → xW Γ (n + 2) hX9_reel rX9_reel 84 [some (xR 0 9 111), some (xI (nI r)), some (xI (nI s)), some (xI z), some (xI (nI i))] [] (xup D1 123 (12 * r + i) v) post := by
            intro v hv
            have IH := ih (i + 1) (xup D1 123 (12 * r + i) v) (by omega) (fun a ha => by rw [xup_ne a ha]; exact k1 a ha) (fun j hj => by
              by_cases q : j = i
              · subst q; rw [xup_at]; exact hv
              · rw [xup_o (by omega)]; exact k2 j (by omega)) (fun r' j q1 q2 => by rw [xup_o (by omega)]; exact k3 r' j q1 q2)
            rw [← nI_1] at IH
            exact x_goto rfl rfl IH
          refine xi_neN s 3 rfl rfl rfl rfl (by omega) (by omega) (fun h4 => ?_) (fun h4 => ?_)
          · refine x_astN (12 * r + i) rfl rfl ix (by omega) rfl ?_
            exact go _ (by rw [if_neg h4]; rfl)
          · refine x_goto rfl rfl ?_
            refine x_astN (12 * r + i) rfl rfl ix (by omega) rfl ?_
            exact go _ (by rw [if_pos h4]; rfl)
      exact loop 12 0 _ (by omega) (fun a _ => rfl) (fun j hj => absurd hj (by omega)) (fun r' j _ _ => by rw [xup_ne 123 (by omega), xup_ne 123 (by omega)])
    · have h2' : z < 0 := Int32.not_le.mp h2
      rw [if_pos h2'] at hp
      exact x_ret rfl rfl rfl rfl (hp D h (fun _ _ => rfl))
  · have h1' : 12 < z.toInt := by
      have := Int32.lt_iff_toInt_lt.mp (Int32.not_le.mp h1); have e : (xnum 12).toInt = 12 := by decide
      omega
    rw [if_pos h1'] at hp
    exact x_ret rfl rfl rfl rfl (hp D h (fun _ _ => rfl))
theorem c_find {r s : Nat} {i : Int32} {q : Nat → Option reT} (h : cRe D q) (hr : r < 3) (hs : s < 4) (hl : ∀ r s l f, r < 3 → q r = some (s, l, f) → s < 4 ∧ l ≤ 12) (hp : post (some (rFind (q r) s i)) D) : xRuns Γ n hX2_find [xR 0 2 (104 + 2 * r), xI (nI s), xI i] D post := by
  have h1 := h r hr
  have hl1 := hl r
  refine x_runs kX2_find (by decide +kernel) rfl ?_
  rcases hq : q r with _ | ⟨s', l, f⟩
  · rw [hq] at h1 hp
    refine x0_ne rfl rfl (fun h2 => absurd h1 h2) (fun _ => ?_)
    exact x_ret rfl rfl rfl rfl hp
  · rw [hq] at h1 hp
    obtain ⟨q1, q2, q3, q4⟩ := h1
    have hl2 := hl r s' l f hr hq
    rw [rFind] at hp
    refine x0_ne rfl rfl (fun _ => ?_) (fun h2 => absurd (q1.symm.trans h2) (by decide))
    refine xi_eqN s' s rfl rfl q2 rfl (by omega) (by omega) (fun h2 => ?_) (fun h2 => ?_)
    · rw [if_pos h2] at hp
      refine x0_lt rfl rfl (fun h3 => ?_) (fun h3 => ?_)
      · have h3 := Int32.lt_iff_toInt_lt.mp h3
        have e : gI i 0 ((l : Int) - 1) = none := by rw [gI, if_neg (by have : (0 : Int32).toInt = 0 := rfl; omega)]
        rw [e] at hp
        exact x_goto rfl rfl (x_ret rfl rfl rfl rfl hp)
      · obtain ⟨j, hj, rfl⟩ := nI_of h3
        refine xi_ltN j l rfl rfl rfl q3 hj (by omega) (fun h4 => ?_) (fun h4 => ?_)
        · rw [gI_nI hj (by omega) (by omega)] at hp
          exact x_ret rfl rfl rfl rfl hp
        · have e : gI (nI j) 0 ((l : Int) - 1) = none := by rw [gI, nI_toInt hj, if_neg (by omega)]
          rw [e] at hp
          exact x_goto rfl rfl (x_ret rfl rfl rfl rfl hp)
    · rw [if_neg h2] at hp
      exact x_ret rfl rfl rfl rfl hp
theorem c_noPlace {r s : Nat} {i : Int32} {q : Nat → Option reT} (h : mRe D q) (hr : r < 3) (hs : s < 4) (hl : ∀ r s l f, r < 3 → q r = some (s, l, f) → s < 4 ∧ l ≤ 12) (hp : post (some (rFind (q r) s i)) D) : xRuns Γ (n + 1) hX9_noPlace [xR 0 9 111, xI (nI r), xI (nI s), xI i] D post := by
  have h1 := h r hr
  refine x_runs kX9_noPlace (by decide +kernel) rfl ?_
  refine x_aldN r rfl rfl rfl (by omega) rfl ?_
  rcases hq : q r with _ | ⟨s', l, f⟩
  · rw [hq] at h1 hp
    dsimp only at h1
    rw [h1]
    refine x0_ge rfl rfl (fun h2 => absurd h2 (by decide)) (fun _ => ?_)
    exact x_ret rfl rfl rfl rfl hp
  · rw [hq] at h1 hp
    obtain ⟨q1, q2, q3⟩ := h1
    have hl2 := hl r s' l f hr hq
    rw [rFind] at hp
    refine x0_ge rfl rfl (fun _ => ?_) (fun h2 => absurd (q1 ▸ nI_pos' (by omega)) h2)
    refine x_aldN r rfl rfl rfl (by omega) rfl ?_
    refine xi_eqN s' s rfl rfl q2 rfl (by omega) (by omega) (fun h2 => ?_) (fun h2 => ?_)
    · rw [if_pos h2] at hp
      refine x_aldN r rfl rfl rfl (by omega) rfl ?_
      refine x_scall [xL i.toInt64, xL (Int64.ofNat 0), xL (D 121 r - xnum 1).toInt64] rfl rfl rfl rfl rfl rfl rfl (c_inI (lo := 0) (hi := (l : Int) - 1) (by decide) (by rw [Int32.toInt_toInt64, q1]; exact pk_sub_toInt (b := 1) (by omega) (by decide)) ?_)
      rcases hg : gI i 0 ((l : Int) - 1) with _ | j
      · rw [hg] at hp
        refine x0_eq rfl rfl (fun _ => ?_) (fun h => absurd rfl h)
        exact x_ret rfl rfl rfl rfl hp
      · rw [hg] at hp
        refine x0_eq rfl rfl (fun h => absurd h (by simp)) (fun _ => ?_)
        exact x_goto rfl rfl (x_ret rfl rfl rfl rfl hp)
    · rw [if_neg h2] at hp
      exact x_ret rfl rfl rfl rfl hp
theorem a_drop {x : Int32} (h : RelC D G) (hg : gok G) (hp : ∀ D', RelC D' (aDrop G x).2 → (∀ a, 111 ≤ a → D' a = D a) → post (some (aDrop G x).1) D') : xRuns Γ (n + 2) hX8_drop [xR 0 8 0, xI x] D post := by
  refine x_runs kX8_drop (by decide +kernel) rfl ?_
  rw [aDrop] at hp
  refine x_scall [xI x] rfl rfl rfl rfl rfl rfl rfl (c_noReel ?_)
  rcases hx_r : gI x 0 2 with _ | r
  · rw [hx_r] at hp
    refine x0_eq rfl rfl (fun h => absurd h (by decide)) (fun _ => ?_)
    exact x_ret rfl rfl rfl rfl (hp D h (fun _ _ => rfl))
  rw [hx_r] at hp
  dsimp only at hp
  obtain ⟨e1_r, e2_r, e3_r, e4_r⟩ := gI_some (by decide) hx_r
  subst e1_r
  have h_r : r < 3 := by omega
  refine x0_eq rfl rfl (fun _ => ?_) (fun h => absurd rfl h)
  have h1 := h.2.2.2.2.2.1 r h_r
  refine x_rldN r rfl rfl rfl (by omega) rfl ?_
  rcases hq : G.reel r with _ | ⟨s, l, f⟩
  · rw [hq] at h1 hp
    refine x0_ne rfl rfl (fun h2 => absurd h1 h2) (fun _ => ?_)
    exact x_ret rfl rfl rfl rfl (hp D h (fun _ _ => rfl))
  · rw [hq] at h1 hp
    dsimp only at hp
    obtain ⟨q1, q2, q3, q4⟩ := h1
    refine x0_ne rfl rfl (fun _ => ?_) (fun h2 => absurd (q1.symm.trans h2) (by decide))
    refine x_rldN r rfl rfl rfl (by omega) rfl ?_
    refine x_pfz (a := 0) rfl rfl (by decide) rfl (Or.inl rfl) ?_
    refine x_rldN r rfl rfl rfl (by omega) rfl ?_
    refine x_ret rfl rfl rfl rfl ?_
    have e : xup D (xR0 + 2 * r) 1 (xnum 0) (xR0 + 2 * r) 3 = nI l := by rw [xup_o (by omega)]; exact q3
    rw [e]
    exact hp _ (RelC_reel h (cRe_one (v := none) h.2.2.2.2.2.1 h_r xup_at (fun a q1 q2 => xup_ne a q1)) (fun a ha => xup_ne a (by show a ≠ 104 + 2 * r; omega))) (fun a ha => xup_ne a (by show a ≠ 104 + 2 * r; omega))
theorem am_drop {x : Int32} (h : RelM D G) (hg : gok G) (hp : ∀ D', RelM D' (aDrop G x).2 → (∀ a, a < 111 → D' a = D a) → post (some (aDrop G x).1) D') : xRuns Γ (n + 2) hX9_drop [xR 0 9 111, xI x] D post := by
  refine x_runs kX9_drop (by decide +kernel) rfl ?_
  rw [aDrop] at hp
  refine x_scall [xI x] rfl rfl rfl rfl rfl rfl rfl (c_isReel ?_)
  rcases hx_r : gI x 0 2 with _ | r
  · rw [hx_r] at hp
    refine x0_ne rfl rfl (fun h => absurd rfl h) (fun _ => ?_)
    exact x_ret rfl rfl rfl rfl (hp D h (fun _ _ => rfl))
  rw [hx_r] at hp
  dsimp only at hp
  obtain ⟨e1_r, e2_r, e3_r, e4_r⟩ := gI_some (by decide) hx_r
  subst e1_r
  have h_r : r < 3 := by omega
  refine x0_ne rfl rfl (fun _ => ?_) (fun h => absurd h (by simp))
  have h1 := h.2.2.2.2.2.1 r h_r
  have hl := hg.2.2.2.2.2.2 r
  refine x_aldN r rfl rfl rfl (by omega) rfl ?_
  rcases hq : G.reel r with _ | ⟨s, l, f⟩
  · rw [hq] at h1 hp
    dsimp only at h1
    rw [h1]
    refine x0_ge rfl rfl (fun h2 => absurd h2 (by decide)) (fun _ => ?_)
    exact x_ret rfl rfl rfl rfl (hp D h (fun _ _ => rfl))
  · have hl2 := hl s l f h_r hq
    rw [hq] at h1 hp
    dsimp only at hp
    obtain ⟨q1, q2, q3⟩ := h1
    refine x0_ge rfl rfl (fun _ => ?_) (fun h2 => absurd (q1 ▸ nI_pos' (by omega)) h2)
    refine x_aldN r rfl rfl rfl (by omega) rfl ?_
    refine x_astN r rfl rfl rfl (by omega) rfl ?_
    refine x_ret rfl rfl rfl rfl ?_
    rw [q1]
    exact hp _ (RelM_reel h hg (mRe_one (v := none) h.2.2.2.2.2.1 h_r xup_at (fun j hj => xup_o (by omega)) (fun j hj => xup_o (by omega)) (fun r' j _ _ => xup_o (by omega))) (fun a ha hb => xup_ne a (by omega))) (fun a ha => xup_ne a (by omega))
end A8
end
section
/-! ===== record, play ===== -/
theorem neg_not (v : Int32) : -(v + 1) = v ^^^ -1 := by
  apply Int32.toBitVec_inj.mp
  rw [Int32.toBitVec_neg, Int32.toBitVec_add, Int32.toBitVec_xor]
  have e1 : (-1 : Int32).toBitVec = BitVec.allOnes 32 := by decide
  have e2 : (1 : Int32).toBitVec = 1#32 := by decide
  rw [e1, e2, BitVec.xor_allOnes]
  have := BitVec.neg_eq_not_add v.toBitVec
  rw [BitVec.neg_add, this]
  exact BitVec.add_sub_cancel _ _
section A9
variable {Γ : xG} {n : Nat} {D : xM} {post : Option Int32 → xM → Prop} {G : gS} {S : wS}
theorem c_put {r s i : Nat} {v : Int32} (hs : s < 4) (hi : i < 12) (q2 : D (104 + 2 * r) 2 = nI s) (hp : post (some (rPut s v)) (xup D (105 + 2 * r) i (rCut s v))) : xRuns Γ n hX2_put [xR 0 2 (104 + 2 * r), xI (nI i), xI v] D post := by
  refine x_runs kX2_put (by decide +kernel) rfl ?_
  have e5 : 105 + 2 * r = 104 + 2 * r + 1 := by omega
  rw [e5] at hp
  refine x_to 4 rfl ?_
  rw [q2]
  have hcase : s = 0 ∨ s = 1 ∨ s = 2 ∨ s = 3 := by omega
  rcases hcase with e | e | e | e
  · subst e
    have ec : rCut 0 v = v.toInt8.toInt32 := by rw [rCut, if_pos rfl]
    have ep : rPut 0 v = v.toInt8.toInt32 + xnum 100000 := by rw [rPut, if_pos (by decide), ec]; rfl
    rw [ec, ep] at hp
    refine x_tin (tgt := 32) (off := 28) rfl rfl (by decide) (by decide) (by decide) (by decide) ?_
    refine x_astN i rfl rfl rfl (by omega) rfl ?_
    refine x_aldN i rfl rfl rfl (by omega) rfl ?_
    refine x_ret rfl rfl rfl rfl ?_
    rw [xup_at]
    exact hp
  · subst e
    have ec : rCut 1 v = v.toInt16.toInt32 := by rw [rCut, if_neg (by decide), if_pos rfl]
    have ep : rPut 1 v = v.toInt16.toInt32 + xnum 100000 := by rw [rPut, if_pos (by decide), ec]; rfl
    rw [ec, ep] at hp
    refine x_tin (tgt := 50) (off := 46) rfl rfl (by decide) (by decide) (by decide) (by decide) ?_
    refine x_astN i rfl rfl rfl (by omega) rfl ?_
    refine x_aldN i rfl rfl rfl (by omega) rfl ?_
    refine x_ret rfl rfl rfl rfl ?_
    rw [xup_at]
    exact hp
  · subst e
    have ec : rCut 2 v = v := by rw [rCut, if_neg (by decide), if_neg (by decide)]
    have ep : rPut 2 v = 1 := by rw [rPut, if_neg (by decide), if_pos rfl]
    rw [ec, ep] at hp
    refine x_tin (tgt := 68) (off := 64) rfl rfl (by decide) (by decide) (by decide) (by decide) ?_
    refine x_astN i rfl rfl rfl (by omega) rfl ?_
    exact x_ret rfl rfl rfl rfl hp
  · subst e
    have ec : rCut 3 v = v := by rw [rCut, if_neg (by decide), if_neg (by decide)]
    have ep : rPut 3 v = v := by rw [rPut, if_neg (by decide), if_neg (by decide)]
    rw [ec, ep] at hp
    refine x_tout (tgt := 77) rfl rfl (by decide) (by decide) ?_
    refine x_astN i rfl rfl rfl (by omega) rfl ?_
    exact x_ret rfl rfl rfl rfl hp
theorem c_sound {r s i : Nat} (hs : s < 4) (hi : i < 12) (q2 : D (104 + 2 * r) 2 = nI s) (hp : post (some (rSound s (D (105 + 2 * r) i))) D) : xRuns Γ n hX2_sound [xR 0 2 (104 + 2 * r), xI (nI i)] D post := by
  have e5 : 105 + 2 * r = 104 + 2 * r + 1 := by omega
  rw [e5] at hp
  refine x_runs kX2_sound (by decide +kernel) rfl ?_
  refine x_aldN i rfl rfl rfl (by omega) rfl ?_
  generalize D (104 + 2 * r + 1) i = v at hp ⊢
  refine x_to 11 rfl ?_
  rw [q2]
  rw [rSound] at hp
  have hcase : s = 0 ∨ s = 1 ∨ s = 2 ∨ s = 3 := by omega
  rcases hcase with e | e | e | e
  · subst e
    rw [if_neg (by decide), if_pos (by decide)] at hp
    refine x_tin (tgt := 36) (off := 25) rfl rfl (by decide) (by decide) (by decide) (by decide) ?_
    exact x_ret rfl rfl rfl rfl hp
  · subst e
    rw [if_neg (by decide), if_pos (by decide)] at hp
    refine x_tin (tgt := 36) (off := 25) rfl rfl (by decide) (by decide) (by decide) (by decide) ?_
    exact x_ret rfl rfl rfl rfl hp
  · subst e
    refine x_tin (tgt := 41) (off := 30) rfl rfl (by decide) (by decide) (by decide) (by decide) ?_
    rw [if_neg (by decide), if_neg (by decide)] at hp
    refine x0_ge rfl rfl (fun h2 => ?_) (fun h2 => ?_)
    · rw [if_pos h2] at hp
      refine x_rem rfl rfl (by decide) ?_
      exact x_ret rfl rfl rfl rfl hp
    · rw [if_neg h2] at hp
      refine x_rem rfl rfl (by decide) ?_
      exact x_goto rfl rfl (x_ret rfl rfl rfl rfl hp)
  · subst e
    refine x_tout (tgt := 62) rfl rfl (by decide) (by decide) ?_
    rw [if_pos rfl] at hp
    refine xi_ne rfl rfl (fun (h2 : ¬ v = -1) => ?_) (fun (h2 : v = -1) => ?_)
    · rw [if_neg h2] at hp
      exact x_ret rfl rfl rfl rfl hp
    · rw [if_pos h2] at hp
      exact x_goto rfl rfl (x_ret rfl rfl rfl rfl hp)
theorem a_play {x y i : Int32} (h : RelC D G) (hg : gok G) (hp : post (some (aPlay G x y i)) D) : xRuns Γ (n + 2) hX8_play [xR 0 8 0, xI x, xI y, xI i] D post := by
  have hl := hg.2.2.2.2.2.2
  refine x_runs kX8_play (by decide +kernel) rfl ?_
  rw [aPlay] at hp
  refine x_scall [xI x] rfl rfl rfl rfl rfl rfl rfl (c_noReel ?_)
  rcases hx_r : gI x 0 2 with _ | r
  · rw [hx_r] at hp
    refine x0_eq rfl rfl (fun h => absurd h (by decide)) (fun _ => ?_)
    exact x_ret rfl rfl rfl rfl hp
  rw [hx_r] at hp
  dsimp only at hp
  obtain ⟨e1_r, e2_r, e3_r, e4_r⟩ := gI_some (by decide) hx_r
  subst e1_r
  have h_r : r < 3 := by omega
  refine x0_eq rfl rfl (fun _ => ?_) (fun h => absurd rfl h)
  refine x_scall [xI y] rfl rfl rfl rfl rfl rfl rfl (c_noSort ?_)
  rcases hx_s : gI y 0 3 with _ | s
  · rw [hx_s] at hp
    refine x0_eq rfl rfl (fun h => absurd h (by decide)) (fun _ => ?_)
    exact x_ret rfl rfl rfl rfl hp
  rw [hx_s] at hp
  dsimp only at hp
  obtain ⟨e1_s, e2_s, e3_s, e4_s⟩ := gI_some (by decide) hx_s
  subst e1_s
  have h_s : s < 4 := by omega
  refine x0_eq rfl rfl (fun _ => ?_) (fun h => absurd rfl h)
  have h1 := h.2.2.2.2.2.1 r h_r
  refine x_rldN r rfl rfl rfl (by omega) rfl ?_
  refine x_call [xI (nI s), xI i] rfl rfl rfl rfl rfl rfl rfl (c_find h.2.2.2.2.2.1 h_r h_s hl ?_)
  rcases hq : G.reel r with _ | ⟨s', l, f⟩
  · rw [hq] at hp
    refine x0_ge rfl rfl (fun h => absurd h (by show ¬ (0 : Int32) ≤ -11; decide)) (fun _ => ?_)
    exact x_ret rfl rfl rfl rfl hp
  · have hl2 := hl r s' l f h_r hq
    rw [hq] at hp h1
    dsimp only at hp
    obtain ⟨q1, q2, q3, q4⟩ := h1
    rw [rFind]
    by_cases e : s' = s
    · subst e
      rw [if_pos rfl] at hp ⊢
      rcases hi : gI i 0 ((l : Int) - 1) with _ | j
      · rw [hi] at hp
        refine x0_ge rfl rfl (fun h => absurd h (by show ¬ (0 : Int32) ≤ -14; decide)) (fun _ => ?_)
        exact x_ret rfl rfl rfl rfl hp
      · rw [hi] at hp
        dsimp only at hp
        obtain ⟨i1, i2, i3, i4⟩ := gI_some (by decide) hi
        subst i1
        refine x0_ge rfl rfl (fun _ => ?_) (fun h => absurd (by show (0 : Int32) ≤ 0; decide) h)
        refine x_rldN r rfl rfl rfl (by omega) rfl ?_
        refine x_call [xI (nI j)] rfl rfl rfl rfl rfl rfl rfl (c_sound h_s (by omega) q2 ?_)
        refine x_ret rfl rfl rfl rfl ?_
        rw [q4 j (by omega)]
        exact hp
    · rw [if_neg e] at hp ⊢
      refine x0_ge rfl rfl (fun h => absurd h (by decide)) (fun _ => ?_)
      exact x_ret rfl rfl rfl rfl hp
theorem am_play {x y i : Int32} (h : RelM D G) (hg : gok G) (hp : post (some (aPlay G x y i)) D) : xRuns Γ (n + 2) hX9_play [xR 0 9 111, xI x, xI y, xI i] D post := by
  have hl := hg.2.2.2.2.2.2
  refine x_runs kX9_play (by decide +kernel) rfl ?_
  rw [aPlay] at hp
  refine x_scall [xI x] rfl rfl rfl rfl rfl rfl rfl (c_isReel ?_)
  rcases hx_r : gI x 0 2 with _ | r
  · rw [hx_r] at hp
    refine x0_ne rfl rfl (fun h => absurd rfl h) (fun _ => ?_)
    exact x_ret rfl rfl rfl rfl hp
  rw [hx_r] at hp
  dsimp only at hp
  obtain ⟨e1_r, e2_r, e3_r, e4_r⟩ := gI_some (by decide) hx_r
  subst e1_r
  have h_r : r < 3 := by omega
  refine x0_ne rfl rfl (fun _ => ?_) (fun h => absurd h (by simp))
  refine x_scall [xL y.toInt64, xL (Int64.ofNat 0), xL (Int64.ofNat 3)] rfl rfl rfl rfl rfl rfl rfl (c_inI (lo := 0) (hi := 3) (by decide) (by decide) ?_)
  rcases hx_s : gI y 0 3 with _ | s
  · rw [hx_s] at hp
    refine x0_ne rfl rfl (fun h => absurd rfl h) (fun _ => ?_)
    exact x_ret rfl rfl rfl rfl hp
  rw [hx_s] at hp
  dsimp only at hp
  obtain ⟨e1_s, e2_s, e3_s, e4_s⟩ := gI_some (by decide) hx_s
  subst e1_s
  have h_s : s < 4 := by omega
  refine x0_ne rfl rfl (fun _ => ?_) (fun h => absurd h (by simp))
  have h1 := h.2.2.2.2.2.1 r h_r
  refine x_call [xI (nI r), xI (nI s), xI i] rfl rfl rfl rfl rfl rfl rfl (c_noPlace h.2.2.2.2.2.1 h_r h_s hl ?_)
  rcases hq : G.reel r with _ | ⟨s', l, f⟩
  · rw [hq] at hp
    refine x0_eq rfl rfl (fun h => absurd h (by show ¬ (-11 : Int32) = 0; decide)) (fun _ => ?_)
    exact x_ret rfl rfl rfl rfl hp
  · have hl2 := hl r s' l f h_r hq
    rw [hq] at hp h1
    dsimp only at hp
    obtain ⟨q1, q2, q3⟩ := h1
    rw [rFind]
    by_cases e : s' = s
    · subst e
      rw [if_pos rfl] at hp ⊢
      rcases hi : gI i 0 ((l : Int) - 1) with _ | j
      · rw [hi] at hp
        refine x0_eq rfl rfl (fun h => absurd h (by show ¬ (-14 : Int32) = 0; decide)) (fun _ => ?_)
        exact x_ret rfl rfl rfl rfl hp
      · rw [hi] at hp
        dsimp only at hp
        obtain ⟨i1, i2, i3, i4⟩ := gI_some (by decide) hi
        subst i1
        refine x0_eq rfl rfl (fun _ => ?_) (fun h => absurd rfl h)
        refine x_aldN (12 * r + j) rfl rfl (by
          show nI 12 * nI r + nI j = _
          rw [pk_mul, nI_add]) (by omega) rfl ?_
        rw [q3 j (by omega)]
        generalize f j = v at hp
        rw [rSound] at hp
        refine xi_neN s' 3 rfl rfl rfl rfl (by omega) (by omega) (fun h2 => ?_) (fun h2 => ?_)
        · rw [if_neg h2] at hp
          refine xi_geN s' 2 rfl rfl rfl rfl (by omega) (by omega) (fun h3 => ?_) (fun h3 => ?_)
          · rw [if_neg (by omega)] at hp
            refine x0_ge rfl rfl (fun h4 => ?_) (fun h4 => ?_)
            · rw [if_pos h4] at hp
              refine x_rem rfl rfl (by decide) ?_
              exact x_ret rfl rfl rfl rfl hp
            · rw [if_neg h4] at hp
              refine x_rem rfl rfl (by decide) ?_
              have e : -(v + xnum 1) = v ^^^ -1 := neg_not v
              rw [e]
              exact x_goto rfl rfl (x_ret rfl rfl rfl rfl hp)
          · rw [if_pos h3] at hp
            exact x_goto rfl rfl (x_ret rfl rfl rfl rfl hp)
        · rw [if_pos h2] at hp
          refine xi_ne rfl rfl (fun (h2 : ¬ v = -1) => ?_) (fun (h2 : v = -1) => ?_)
          · rw [if_neg h2] at hp
            exact x_ret rfl rfl rfl rfl hp
          · rw [if_pos h2] at hp
            exact x_goto rfl rfl (x_ret rfl rfl rfl rfl hp)
    · rw [if_neg e] at hp ⊢
      refine x0_eq rfl rfl (fun h => absurd h (by decide)) (fun _ => ?_)
      exact x_ret rfl rfl rfl rfl hp
theorem a_record {x y i v : Int32} (h : RelC D G) (hg : gok G) (hp : ∀ D', RelC D' (aRecord G x y i v).2 → (∀ a, 111 ≤ a → D' a = D a) → post (some (aRecord G x y i v).1) D') : xRuns Γ (n + 2) hX8_record [xR 0 8 0, xI x, xI y, xI i, xI v] D post := by
  have ho := hg.2.2.1.1
  have hr := h.2.1
  have hl := hg.2.2.2.2.2.2
  refine x_runs kX8_record (by decide +kernel) rfl ?_
  rw [aRecord] at hp
  refine x_scall [xI x] rfl rfl rfl rfl rfl rfl rfl (c_noReel ?_)
  rcases hx_r : gI x 0 2 with _ | r
  · rw [hx_r] at hp
    refine x0_ne rfl rfl (fun _ => ?_) (fun h => absurd h (by decide))
    exact x_ret rfl rfl rfl rfl (hp D h (fun _ _ => rfl))
  rw [hx_r] at hp
  dsimp only at hp
  obtain ⟨e1_r, e2_r, e3_r, e4_r⟩ := gI_some (by decide) hx_r
  subst e1_r
  have h_r : r < 3 := by omega
  refine x0_ne rfl rfl (fun h => absurd rfl h) (fun _ => ?_)
  have h1 := h.2.2.2.2.2.1 r h_r
  have go : ¬ (y = 3 ∧ gO v ((G.now.B : Int) - 1) = none) → xW Γ (n + 2) hX8_record rX8_record 30 [some (xR 0 8 0), some (xI (nI r)), some (xI y), some (xI i), some (xI v), none] [] D post := by
    intro hno
    rw [if_neg hno] at hp
    refine x_scall [xI y] rfl rfl rfl rfl rfl rfl rfl (c_noSort ?_)
    rcases hx_s : gI y 0 3 with _ | s
    · rw [hx_s] at hp
      refine x0_eq rfl rfl (fun h => absurd h (by decide)) (fun _ => ?_)
      exact x_ret rfl rfl rfl rfl (hp D h (fun _ _ => rfl))
    rw [hx_s] at hp
    dsimp only at hp
    obtain ⟨e1_s, e2_s, e3_s, e4_s⟩ := gI_some (by decide) hx_s
    subst e1_s
    have h_s : s < 4 := by omega
    refine x0_eq rfl rfl (fun _ => ?_) (fun h => absurd rfl h)
    refine x_rldN r rfl rfl rfl (by omega) rfl ?_
    refine x_call [xI (nI s), xI i] rfl rfl rfl rfl rfl rfl rfl (c_find h.2.2.2.2.2.1 h_r h_s hl ?_)
    rcases hq : G.reel r with _ | ⟨s', l, f⟩
    · rw [hq] at hp
      refine x0_ge rfl rfl (fun h => absurd h (by show ¬ (0 : Int32) ≤ -11; decide)) (fun _ => ?_)
      exact x_ret rfl rfl rfl rfl (hp D h (fun _ _ => rfl))
    · have hl2 := hl r s' l f h_r hq
      rw [hq] at hp h1
      dsimp only at hp
      obtain ⟨q1, q2, q3, q4⟩ := h1
      rw [rFind]
      by_cases e : s' = s
      · subst e
        rw [if_pos rfl] at hp ⊢
        rcases hi : gI i 0 ((l : Int) - 1) with _ | j
        · rw [hi] at hp
          refine x0_ge rfl rfl (fun h => absurd h (by show ¬ (0 : Int32) ≤ -14; decide)) (fun _ => ?_)
          exact x_ret rfl rfl rfl rfl (hp D h (fun _ _ => rfl))
        · rw [hi] at hp
          dsimp only at hp
          obtain ⟨i1, i2, i3, i4⟩ := gI_some (by decide) hi
          subst i1
          refine x0_ge rfl rfl (fun _ => ?_) (fun h => absurd (by show (0 : Int32) ≤ 0; decide) h)
          refine x_rldN r rfl rfl rfl (by omega) rfl ?_
          refine x_call [xI (nI j), xI v] rfl rfl rfl rfl rfl rfl rfl (c_put h_s (by omega) q2 ?_)
          refine x_ret rfl rfl rfl rfl ?_
          refine hp _ (RelC_reel h (cRe_one h.2.2.2.2.2.1 h_r ⟨by rw [xup_ne _ (by omega)]; exact q1, by rw [xup_ne _ (by omega)]; exact q2, by rw [xup_ne _ (by omega)]; exact q3, fun k hk => ?_⟩ (fun a q1 q2 => xup_ne a q2)) (fun a ha => xup_ne a (by omega))) (fun a ha => xup_ne a (by omega))
          by_cases ek : k = j
          · subst ek; rw [xup_at]; simp [fup]
          · rw [xup_o (by omega), q4 k hk]; simp [fup, ek]
      · rw [if_neg e] at hp ⊢
        refine x0_ge rfl rfl (fun h => absurd h (by decide)) (fun _ => ?_)
        exact x_ret rfl rfl rfl rfl (hp D h (fun _ _ => rfl))
  refine xi_ne rfl rfl (fun (h2 : ¬ y = 3) => go (fun z => h2 z.1)) (fun (h2 : y = 3) => ?_)
  refine xi_eq rfl rfl (fun (h3 : v = -1) => go (fun z => by rw [gO, if_pos h3] at z; cases z.2)) (fun (h3 : ¬ v = -1) => ?_)
  refine x_call [xI v] rfl rfl rfl rfl rfl rfl rfl (c_noBird hr ho ?_)
  rcases hy : gI v 0 ((G.now.B : Int) - 1) with _ | b
  · have e : gO v ((G.now.B : Int) - 1) = none := by rw [gO, if_neg h3, hy]
    rw [if_pos ⟨h2, e⟩] at hp
    refine x0_eq rfl rfl (fun h => absurd h (by decide)) (fun _ => ?_)
    exact x_ret rfl rfl rfl rfl (hp D h (fun _ _ => rfl))
  · refine x0_eq rfl rfl (fun _ => ?_) (fun h => absurd rfl h)
    exact go (fun z => by rw [gO, if_neg h3, hy] at z; cases z.2)
theorem am_record {x y i v : Int32} (h : RelM D G) (hg : gok G) (hp : ∀ D', RelM D' (aRecord G x y i v).2 → (∀ a, a < 111 → D' a = D a) → post (some (aRecord G x y i v).1) D') : xRuns Γ (n + 2) hX9_record [xR 0 9 111, xI x, xI y, xI i, xI v] D post := by
  have ho := hg.2.2.1.1
  have hr := h.2.1
  have hl := hg.2.2.2.2.2.2
  refine x_runs kX9_record (by decide +kernel) rfl ?_
  rw [aRecord] at hp
  refine x_scall [xI x] rfl rfl rfl rfl rfl rfl rfl (c_isReel ?_)
  rcases hx_r : gI x 0 2 with _ | r
  · rw [hx_r] at hp
    refine x0_eq rfl rfl (fun _ => ?_) (fun h => absurd rfl h)
    exact x_ret rfl rfl rfl rfl (hp D h (fun _ _ => rfl))
  rw [hx_r] at hp
  dsimp only at hp
  obtain ⟨e1_r, e2_r, e3_r, e4_r⟩ := gI_some (by decide) hx_r
  subst e1_r
  have h_r : r < 3 := by omega
  refine x0_eq rfl rfl (fun h => absurd h (by simp)) (fun _ => ?_)
  have h1 := h.2.2.2.2.2.1 r h_r
  have go : ¬ (y = 3 ∧ gO v ((G.now.B : Int) - 1) = none) → xW Γ (n + 2) hX9_record rX9_record 30 [some (xR 0 9 111), some (xI (nI r)), some (xI y), some (xI i), some (xI v), none, none] [] D post := by
    intro hno
    rw [if_neg hno] at hp
    refine x_scall [xL y.toInt64, xL (Int64.ofNat 0), xL (Int64.ofNat 3)] rfl rfl rfl rfl rfl rfl rfl (c_inI (lo := 0) (hi := 3) (by decide) (by decide) ?_)
    rcases hx_s : gI y 0 3 with _ | s
    · rw [hx_s] at hp
      refine x0_ne rfl rfl (fun h => absurd rfl h) (fun _ => ?_)
      exact x_ret rfl rfl rfl rfl (hp D h (fun _ _ => rfl))
    rw [hx_s] at hp
    dsimp only at hp
    obtain ⟨e1_s, e2_s, e3_s, e4_s⟩ := gI_some (by decide) hx_s
    subst e1_s
    have h_s : s < 4 := by omega
    refine x0_ne rfl rfl (fun _ => ?_) (fun h => absurd h (by simp))
    refine x_call [xI (nI r), xI (nI s), xI i] rfl rfl rfl rfl rfl rfl rfl (c_noPlace h.2.2.2.2.2.1 h_r h_s hl ?_)
    rcases hq : G.reel r with _ | ⟨s', l, f⟩
    · rw [hq] at hp
      refine x0_eq rfl rfl (fun h => absurd h (by show ¬ (-11 : Int32) = 0; decide)) (fun _ => ?_)
      exact x_ret rfl rfl rfl rfl (hp D h (fun _ _ => rfl))
    · have hl2 := hl r s' l f h_r hq
      rw [hq] at hp h1
      dsimp only at hp
      obtain ⟨q1, q2, q3⟩ := h1
      rw [rFind]
      by_cases e : s' = s
      · subst e
        rw [if_pos rfl] at hp ⊢
        rcases hi : gI i 0 ((l : Int) - 1) with _ | j
        · rw [hi] at hp
          refine x0_eq rfl rfl (fun h => absurd h (by show ¬ (-14 : Int32) = 0; decide)) (fun _ => ?_)
          exact x_ret rfl rfl rfl rfl (hp D h (fun _ _ => rfl))
        · rw [hi] at hp
          dsimp only at hp
          obtain ⟨i1, i2, i3, i4⟩ := gI_some (by decide) hi
          subst i1
          have fin : post (some (rPut s' v)) (xup D 123 (12 * r + j) (rCut s' v)) := by
            refine hp _ (RelM_reel h hg (mRe_one h.2.2.2.2.2.1 h_r ⟨by rw [xup_o (by omega)]; exact q1, by rw [xup_o (by omega)]; exact q2, fun k hk => ?_⟩ (fun j hj => xup_o (by omega)) (fun j hj => xup_o (by omega)) (fun r' k q1 q2 => xup_o (by omega))) (fun a ha hb => xup_ne a (by omega))) (fun a ha => xup_ne a (by omega))
            by_cases ek : k = j
            · subst ek; rw [xup_at]; simp [fup]
            · rw [xup_o (by omega), q3 k hk]; simp [fup, ek]
          refine x0_eq rfl rfl (fun _ => ?_) (fun h => absurd rfl h)
          have tail : ∀ c : Int32, c = rCut s' v → xW Γ (n + 2) hX9_record rX9_record 85 [some (xR 0 9 111), some (xI (nI r)), some (xI (nI s')), some (xI (nI j)), some (xI v), some (xI 0), none] [xI c] D post := by
            intro c hc
            refine x_astN (12 * r + j) rfl rfl (by
              show nI 12 * nI r + nI j = _
              rw [pk_mul, nI_add]) (by omega) rfl ?_
            rw [rPut, ← hc] at fin
            refine xi_geN s' 2 rfl rfl rfl rfl (by omega) (by omega) (fun h3 => ?_) (fun h3 => ?_)
            · rw [if_neg (by omega)] at fin
              refine xi_neN s' 2 rfl rfl rfl rfl (by omega) (by omega) (fun h4 => ?_) (fun h4 => ?_)
              · rw [if_neg h4] at fin
                exact x_ret rfl rfl rfl rfl fin
              · rw [if_pos h4] at fin
                exact x_goto rfl rfl (x_ret rfl rfl rfl rfl fin)
            · rw [if_pos h3] at fin
              exact x_goto rfl rfl (x_ret rfl rfl rfl rfl fin)
          refine x0_ne rfl rfl (fun h2 => ?_) (fun h2 => ?_)
          · have s0 : ¬ s' = 0 := fun z => h2 (by rw [z]; rfl)
            refine xi_neN s' 1 rfl rfl rfl rfl (by omega) (by omega) (fun h3 => ?_) (fun h3 => ?_)
            · refine x_to 85 rfl ?_
              exact tail v (by rw [rCut, if_neg s0, if_neg h3])
            · refine x_goto rfl rfl ?_
              exact tail _ (by rw [rCut, if_neg s0, if_pos h3])
          · have s0 : s' = 0 := (nI_eq (b := 0) (by omega) (by omega)).mp h2
            refine x_goto rfl rfl ?_
            exact tail _ (by rw [rCut, if_pos s0])
      · rw [if_neg e] at hp ⊢
        refine x0_eq rfl rfl (fun h => absurd h (by decide)) (fun _ => ?_)
        exact x_ret rfl rfl rfl rfl (hp D h (fun _ _ => rfl))
  refine xi_ne rfl rfl (fun (h2 : ¬ y = 3) => go (fun z => h2 z.1)) (fun (h2 : y = 3) => ?_)
  refine xi_eq rfl rfl (fun (h3 : v = -1) => go (fun z => by rw [gO, if_pos h3] at z; cases z.2)) (fun (h3 : ¬ v = -1) => ?_)
  refine x_call [xI v] rfl rfl rfl rfl rfl rfl rfl (c_isBird hr ho ?_)
  rcases hy : gI v 0 ((G.now.B : Int) - 1) with _ | b
  · have e : gO v ((G.now.B : Int) - 1) = none := by rw [gO, if_neg h3, hy]
    rw [if_pos ⟨h2, e⟩] at hp
    refine x0_ne rfl rfl (fun h => absurd rfl h) (fun _ => ?_)
    exact x_ret rfl rfl rfl rfl (hp D h (fun _ _ => rfl))
  · refine x0_ne rfl rfl (fun _ => ?_) (fun h => absurd h (by simp))
    exact go (fun z => by rw [gO, if_neg h3, hy] at z; cases z.2)
end A9
end
section
/-! ===== splice ===== -/
def rSpan (i z : Int32) (l : Nat) : Bool := decide (0 ≤ i.toInt ∧ 0 ≤ z.toInt ∧ i.toInt + z.toInt ≤ (l : Int))
def rSpl (G : gS) (t : Nat) (i j z : Int32) : Option reT → Option reT → Int32 × gS
  | some (s, l, f), some (s2, l2, f2) => if s = s2 then (if rSpan i z l && rSpan j z l2 then (z, gReel G (wuf G.reel t (some (s2, l2, va_cpy f f2 i.toInt.toNat j.toInt.toNat z.toInt.toNat)))) else (-14, G)) else (-13, G)
  | _, _ => (-11, G)
def aSplice (G : gS) (x i y j z : Int32) : Int32 × gS := match gI x 0 2 with
  | none => (-2, G)
  | some r => match gI y 0 2 with
    | none => (-2, G)
    | some t => rSpl G t i j z (G.reel r) (G.reel t)
theorem span_nat {i z : Int32} {l : Nat} (h : rSpan i z l = true) : ∃ a c : Nat, i = nI a ∧ z = nI c ∧ a + c ≤ l ∧ a < 2 ^ 31 ∧ c < 2 ^ 31 := by
  have h := of_decide_eq_true h
  have h0 : (0 : Int32).toInt = 0 := rfl
  obtain ⟨a, ha, rfl⟩ := nI_of (x := i) (fun q => by have := Int32.lt_iff_toInt_lt.mp q; omega)
  obtain ⟨c, hc, rfl⟩ := nI_of (x := z) (fun q => by have := Int32.lt_iff_toInt_lt.mp q; omega)
  rw [nI_toInt ha, nI_toInt hc] at h
  exact ⟨a, c, rfl, rfl, by omega, ha, hc⟩
section B1
variable {Γ : xG} {n : Nat} {D : xM} {post : Option Int32 → xM → Prop} {G : gS} {S : wS}
theorem g_splice {x i y j z : Int32} (hg : gok G) : gok (aSplice G x i y j z).2 := by
  rw [aSplice]
  split
  · exact hg
  · rename_i r hr
    split
    · exact hg
    · rename_i t ht
      have h2 := gI_some (by decide) ht
      rw [rSpl.eq_def]
      split
      · rename_i s l f s2 l2 f2 h3 h4
        split
        · split
          · refine g_reelset hg (reel_one hg.2.2.2.2.2.2 (fun s' l' f' e => ?_))
            cases e
            exact hg.2.2.2.2.2.2 t s2 l2 f2 (by omega) h4
          · exact hg
        · exact hg
      · exact hg
theorem spn_walk {l : Nat} (hl : l ≤ 12) {i z : Int32} (h1 : ¬ i < 0) (h2 : ¬ z < 0) : (0 < lg_cmp (i.toInt64 + z.toInt64) (nI l).toInt64 ↔ rSpan i z l = false) := by
  obtain ⟨a, ha, rfl⟩ := nI_of h1
  obtain ⟨c, hc, rfl⟩ := nI_of h2
  rw [lg_pos, nI_l ha, nI_l hc, nI_l (by omega), lN_add, pk_lLT (by omega) (by omega), rSpan, nI_toInt ha, nI_toInt hc, decide_eq_false_iff_not]
  omega
theorem spn_neg1 {l : Nat} {i z : Int32} (h1 : i < 0) : rSpan i z l = false := by
  have h0 : (0 : Int32).toInt = 0 := rfl
  have := Int32.lt_iff_toInt_lt.mp h1
  rw [rSpan, decide_eq_false_iff_not]; omega
theorem spn_neg2 {l : Nat} {i z : Int32} (h1 : z < 0) : rSpan i z l = false := by
  have h0 : (0 : Int32).toInt = 0 := rfl
  have := Int32.lt_iff_toInt_lt.mp h1
  rw [rSpan, decide_eq_false_iff_not]; omega
theorem c_holds {r l : Nat} {i z : Int32} (hl : l ≤ 12) (q3 : D (104 + 2 * r) 3 = nI l) (hp : post (some (if rSpan i z l then 1 else 0)) D) : xRuns Γ n hX2_holds [xR 0 2 (104 + 2 * r), xI i, xI z] D post := by
  refine x_runs kX2_holds (by decide +kernel) rfl ?_
  refine x0_lt rfl rfl (fun h1 => ?_) (fun h1 => ?_)
  · rw [spn_neg1 h1] at hp
    exact x_ret rfl rfl rfl rfl hp
  · refine x0_lt rfl rfl (fun h2 => ?_) (fun h2 => ?_)
    · rw [spn_neg2 h2] at hp
      exact x_ret rfl rfl rfl rfl hp
    · refine x_to 19 rfl ?_
      rw [q3]
      refine x0_gt rfl rfl (fun h3 => ?_) (fun h3 => ?_)
      · rw [(spn_walk hl h1 h2).mp h3] at hp
        exact x_ret rfl rfl rfl rfl hp
      · have e : rSpan i z l = true := by
          cases q : rSpan i z l with
          | true => rfl
          | false => exact absurd ((spn_walk hl h1 h2).mpr q) h3
        rw [e] at hp
        exact x_goto rfl rfl (x_ret rfl rfl rfl rfl hp)
theorem c_isSpan {r l : Nat} {i z : Int32} (hr : r < 3) (hl : l ≤ 12) (q1 : D 121 r = nI l) (hp : post (some (if rSpan i z l then 1 else 0)) D) : xRuns Γ n hX9_isSpan [xR 0 9 111, xI (nI r), xI i, xI z] D post := by
  refine x_runs kX9_isSpan (by decide +kernel) rfl ?_
  refine x0_lt rfl rfl (fun h1 => ?_) (fun h1 => ?_)
  · rw [spn_neg1 h1] at hp
    exact x_ret rfl rfl rfl rfl hp
  · refine x0_lt rfl rfl (fun h2 => ?_) (fun h2 => ?_)
    · rw [spn_neg2 h2] at hp
      exact x_ret rfl rfl rfl rfl hp
    · refine x_aldN r rfl rfl rfl (by omega) rfl ?_
      rw [q1]
      refine x0_gt rfl rfl (fun h3 => ?_) (fun h3 => ?_)
      · rw [(spn_walk hl h1 h2).mp h3] at hp
        exact x_ret rfl rfl rfl rfl hp
      · have e : rSpan i z l = true := by
          cases q : rSpan i z l with
          | true => rfl
          | false => exact absurd ((spn_walk hl h1 h2).mpr q) h3
        rw [e] at hp
        exact x_goto rfl rfl (x_ret rfl rfl rfl rfl hp)
theorem a_splice {x i y j z : Int32} (h : RelC D G) (hg : gok G) (hp : ∀ D', RelC D' (aSplice G x i y j z).2 → (∀ a, 111 ≤ a → D' a = D a) → post (some (aSplice G x i y j z).1) D') : xRuns Γ (n + 2) hX8_splice [xR 0 8 0, xI x, xI i, xI y, xI j, xI z] D post := by
  have hl := hg.2.2.2.2.2.2
  refine x_runs kX8_splice (by decide +kernel) rfl ?_
  rw [aSplice] at hp
  refine x_scall [xI x] rfl rfl rfl rfl rfl rfl rfl (c_noReel ?_)
  rcases hx_r : gI x 0 2 with _ | r
  · rw [hx_r] at hp
    refine x0_ne rfl rfl (fun _ => ?_) (fun h => absurd h (by decide))
    exact x_ret rfl rfl rfl rfl (hp D h (fun _ _ => rfl))
  rw [hx_r] at hp
  dsimp only at hp
  obtain ⟨e1_r, e2_r, e3_r, e4_r⟩ := gI_some (by decide) hx_r
  subst e1_r
  have h_r : r < 3 := by omega
  refine x0_ne rfl rfl (fun h => absurd rfl h) (fun _ => ?_)
  refine x_scall [xI y] rfl rfl rfl rfl rfl rfl rfl (c_noReel ?_)
  rcases hx_t : gI y 0 2 with _ | t
  · rw [hx_t] at hp
    refine x0_eq rfl rfl (fun h => absurd h (by decide)) (fun _ => ?_)
    exact x_ret rfl rfl rfl rfl (hp D h (fun _ _ => rfl))
  rw [hx_t] at hp
  dsimp only at hp
  obtain ⟨e1_t, e2_t, e3_t, e4_t⟩ := gI_some (by decide) hx_t
  subst e1_t
  have h_t : t < 3 := by omega
  refine x0_eq rfl rfl (fun _ => ?_) (fun h => absurd rfl h)
  have h1 := h.2.2.2.2.2.1 r h_r
  have h2 := h.2.2.2.2.2.1 t h_t
  refine x_rldN r rfl rfl rfl (by omega) rfl ?_
  refine x_rldN t rfl rfl rfl (by omega) rfl ?_
  rcases hq : G.reel r with _ | ⟨s, l, f⟩
  · rw [hq] at h1 hp
    refine x0_eq rfl rfl (fun _ => ?_) (fun q => absurd h1 q)
    exact x_ret rfl rfl rfl rfl (hp D h (fun _ _ => rfl))
  · have hl1 := hl r s l f h_r hq
    rw [hq] at h1 hp
    obtain ⟨q1, q2, q3, q4⟩ := h1
    refine x0_eq rfl rfl (fun q => absurd (q1.symm.trans q) (by decide)) (fun _ => ?_)
    rcases hq2 : G.reel t with _ | ⟨s2, l2, f2⟩
    · rw [hq2] at h2 hp
      refine x0_ne rfl rfl (fun q => absurd h2 q) (fun _ => ?_)
      exact x_ret rfl rfl rfl rfl (hp D h (fun _ _ => rfl))
    · have hl2 := hl t s2 l2 f2 h_t hq2
      rw [hq2] at h2 hp
      obtain ⟨p1, p2, p3, p4⟩ := h2
      refine x0_ne rfl rfl (fun _ => ?_) (fun q => absurd (p1.symm.trans q) (by decide))
      rw [rSpl] at hp
      refine xi_eqN s s2 rfl rfl q2 p2 (by omega) (by omega) (fun h5 => ?_) (fun h5 => ?_)
      · rw [if_pos h5] at hp
        refine x_call [xI i, xI z] rfl rfl rfl rfl rfl rfl rfl (c_holds hl1.2 q3 ?_)
        cases hs1 : rSpan i z l with
        | false =>
          rw [hs1] at hp
          refine x0_eq rfl rfl (fun _ => ?_) (fun h => absurd rfl h)
          exact x_ret rfl rfl rfl rfl (hp D h (fun _ _ => rfl))
        | true =>
          rw [hs1] at hp
          refine x0_eq rfl rfl (fun h => absurd h (by decide)) (fun _ => ?_)
          refine x_call [xI j, xI z] rfl rfl rfl rfl rfl rfl rfl (c_holds hl2.2 p3 ?_)
          cases hs2 : rSpan j z l2 with
          | false =>
            rw [hs2] at hp
            refine x0_ne rfl rfl (fun h => absurd rfl h) (fun _ => ?_)
            exact x_ret rfl rfl rfl rfl (hp D h (fun _ _ => rfl))
          | true =>
            rw [hs2] at hp
            refine x0_ne rfl rfl (fun _ => ?_) (fun h => absurd h (by decide))
            obtain ⟨a, c, ea, ec, hac, ha, hc⟩ := span_nat hs1
            obtain ⟨b, c2, eb, ec2, hbc, hb, hc2⟩ := span_nat hs2
            have hcc : c2 = c := (nI_eq hc2 hc).mp (ec2.symm.trans ec)
            subst hcc
            subst ea eb ec
            refine x_copy (st' := []) rfl rfl (nI_pos ha) (nI_pos hb) (nI_pos hc) (by rw [nI_clamp ha, nI_clamp hc]; omega) (by rw [nI_clamp hb, nI_clamp hc]; omega) rfl ?_
            refine x_ret rfl rfl rfl rfl ?_
            rw [nI_clamp ha, nI_clamp hb, nI_clamp hc]
            rw [nI_toInt ha, nI_toInt hb, nI_toInt hc, Int.toNat_natCast, Int.toNat_natCast, Int.toNat_natCast] at hp
            have e5 : ∀ r, xR0 + 2 * r + 1 = 105 + 2 * r := fun r => by show 104 + 2 * r + 1 = _; omega
            rw [e5, e5]
            refine hp _ (RelC_reel h (cRe_one h.2.2.2.2.2.1 h_t ⟨by rw [xcp_ne (by omega)]; exact p1, by rw [xcp_ne (by omega)]; exact p2, by rw [xcp_ne (by omega)]; exact p3, fun k hk => ?_⟩ (fun a q1 q2 => xcp_ne q2)) (fun a ha => xcp_ne (by omega))) (fun a ha => xcp_ne (by omega))
            rw [xcp_at]
            by_cases hin : b ≤ k ∧ k < b + c2
            · rw [pk_cpy_in hin.1 hin.2, pk_cpy_in hin.1 hin.2]
              exact q4 _ (by omega)
            · rw [pk_cpy_out (by omega), pk_cpy_out (by omega)]
              exact p4 k hk
      · rw [if_neg h5] at hp
        exact x_ret rfl rfl rfl rfl (hp D h (fun _ _ => rfl))
theorem am_splice {x i y j z : Int32} (h : RelM D G) (hg : gok G) (hp : ∀ D', RelM D' (aSplice G x i y j z).2 → (∀ a, a < 111 → D' a = D a) → post (some (aSplice G x i y j z).1) D') : xRuns Γ (n + 2) hX9_splice [xR 0 9 111, xI x, xI i, xI y, xI j, xI z] D post := by
  have hl := hg.2.2.2.2.2.2
  refine x_runs kX9_splice (by decide +kernel) rfl ?_
  rw [aSplice] at hp
  refine x_scall [xI x] rfl rfl rfl rfl rfl rfl rfl (c_isReel ?_)
  rcases hx_r : gI x 0 2 with _ | r
  · rw [hx_r] at hp
    refine x0_eq rfl rfl (fun _ => ?_) (fun h => absurd rfl h)
    exact x_ret rfl rfl rfl rfl (hp D h (fun _ _ => rfl))
  rw [hx_r] at hp
  dsimp only at hp
  obtain ⟨e1_r, e2_r, e3_r, e4_r⟩ := gI_some (by decide) hx_r
  subst e1_r
  have h_r : r < 3 := by omega
  refine x0_eq rfl rfl (fun h => absurd h (by simp)) (fun _ => ?_)
  refine x_scall [xI y] rfl rfl rfl rfl rfl rfl rfl (c_isReel ?_)
  rcases hx_t : gI y 0 2 with _ | t
  · rw [hx_t] at hp
    refine x0_ne rfl rfl (fun h => absurd rfl h) (fun _ => ?_)
    exact x_ret rfl rfl rfl rfl (hp D h (fun _ _ => rfl))
  rw [hx_t] at hp
  dsimp only at hp
  obtain ⟨e1_t, e2_t, e3_t, e4_t⟩ := gI_some (by decide) hx_t
  subst e1_t
  have h_t : t < 3 := by omega
  refine x0_ne rfl rfl (fun _ => ?_) (fun h => absurd h (by simp))
  have h1 := h.2.2.2.2.2.1 r h_r
  have h2 := h.2.2.2.2.2.1 t h_t
  refine x_aldN r rfl rfl rfl (by omega) rfl ?_
  rcases hq : G.reel r with _ | ⟨s, l, f⟩
  · rw [hq] at h1 hp
    dsimp only at h1
    rw [h1]
    refine x0_lt rfl rfl (fun _ => ?_) (fun q => absurd (by decide) q)
    exact x_ret rfl rfl rfl rfl (hp D h (fun _ _ => rfl))
  · have hl1 := hl r s l f h_r hq
    rw [hq] at h1 hp
    obtain ⟨q1, q2, q3⟩ := h1
    refine x0_lt rfl rfl (fun q => absurd (q1 ▸ q) (nI_pos (by omega))) (fun _ => ?_)
    refine x_aldN t rfl rfl rfl (by omega) rfl ?_
    rcases hq2 : G.reel t with _ | ⟨s2, l2, f2⟩
    · rw [hq2] at h2 hp
      dsimp only at h2
      rw [h2]
      refine x0_ge rfl rfl (fun q => absurd q (by decide)) (fun _ => ?_)
      exact x_ret rfl rfl rfl rfl (hp D h (fun _ _ => rfl))
    · have hl2 := hl t s2 l2 f2 h_t hq2
      rw [hq2] at h2 hp
      obtain ⟨p1, p2, p3⟩ := h2
      refine x0_ge rfl rfl (fun _ => ?_) (fun q => absurd (p1 ▸ nI_pos' (by omega)) q)
      rw [rSpl] at hp
      refine x_aldN r rfl rfl rfl (by omega) rfl ?_
      refine x_aldN t rfl rfl rfl (by omega) rfl ?_
      refine xi_eqN s s2 rfl rfl q2 p2 (by omega) (by omega) (fun h5 => ?_) (fun h5 => ?_)
      · rw [if_pos h5] at hp
        refine x_call [xI (nI r), xI i, xI z] rfl rfl rfl rfl rfl rfl rfl (c_isSpan h_r hl1.2 q1 ?_)
        cases hs1 : rSpan i z l with
        | false =>
          rw [hs1] at hp
          refine x0_eq rfl rfl (fun _ => ?_) (fun h => absurd rfl h)
          exact x_ret rfl rfl rfl rfl (hp D h (fun _ _ => rfl))
        | true =>
          rw [hs1] at hp
          refine x0_eq rfl rfl (fun h => absurd h (by decide)) (fun _ => ?_)
          refine x_call [xI (nI t), xI j, xI z] rfl rfl rfl rfl rfl rfl rfl (c_isSpan h_t hl2.2 p1 ?_)
          cases hs2 : rSpan j z l2 with
          | false =>
            rw [hs2] at hp
            refine x0_ne rfl rfl (fun h => absurd rfl h) (fun _ => ?_)
            exact x_ret rfl rfl rfl rfl (hp D h (fun _ _ => rfl))
          | true =>
            rw [hs2] at hp
            refine x0_ne rfl rfl (fun _ => ?_) (fun h => absurd h (by decide))
            obtain ⟨a, c, ea, ec, hac, ha, hc⟩ := span_nat hs1
            obtain ⟨b, c2, eb, ec2, hbc, hb, hc2⟩ := span_nat hs2
            have hcc : c2 = c := (nI_eq hc2 hc).mp (ec2.symm.trans ec)
            subst hcc
            subst ea eb ec
            rw [nI_toInt ha, nI_toInt hb, nI_toInt hc, Int.toNat_natCast, Int.toNat_natCast, Int.toNat_natCast] at hp
            have ix : ∀ r a k, xnum 12 * nI r + nI a + nI k = nI (12 * r + a + k) := fun r a k => by
              show nI 12 * nI r + nI a + nI k = _
              rw [pk_mul, nI_add, nI_add]
            refine x_to 85 rfl ?_
            have loop2 : ∀ (g k : Nat) (D1 : xM), k + g = c2 → (∀ k, k < c2 → D1 143 k = f (a + k)) → (∀ a, a ≠ 123 → a ≠ 143 → D1 a = D a) → (∀ m, D1 123 m = if 12 * t + b ≤ m ∧ m < 12 * t + b + k then f (a + (m - (12 * t + b))) else D 123 m) → xW Γ (n + 2) hX9_splice rX9_splice 122 [some (xR 0 9 111), some (xI (nI r)), some (xI (nI a)), some (xI (nI t)), some (xI (nI b)), some (xI (nI c2)), some (xI (nI k))] [] D1 post := by
              intro g
              induction g with
              | zero =>
                intro k D1 hk k1 k2 k3
                obtain rfl : k = c2 := by omega
                refine xi_geN k k rfl rfl rfl rfl (by omega) (by omega) (fun _ => ?_) (fun h => absurd h (by omega))
                refine x_ret rfl rfl rfl rfl ?_
                refine hp D1 (RelM_reel h hg (mRe_one h.2.2.2.2.2.1 h_t ⟨by rw [k2 121 (by omega) (by omega)]; exact p1, by rw [k2 122 (by omega) (by omega)]; exact p2, fun m hm => ?_⟩ (fun j _ => by rw [k2 121 (by omega) (by omega)]) (fun j _ => by rw [k2 122 (by omega) (by omega)]) (fun r' m q1 q2 => by rw [k3, if_neg (by omega)])) (fun a ha hb => k2 a (by omega) hb)) (fun a ha => k2 a (by omega) (by omega))
                rw [k3]
                by_cases hin : b ≤ m ∧ m < b + k
                · rw [if_pos (by omega), pk_cpy_in hin.1 hin.2]
                  exact congrArg f (by omega)
                · rw [if_neg (by omega), pk_cpy_out (by omega)]
                  exact p3 m hm
              | succ g ih =>
                intro k D1 hk k1 k2 k3
                refine xi_geN k c2 rfl rfl rfl rfl (by omega) (by omega) (fun h => absurd h (by omega)) (fun h6 => ?_)
                refine x_aldN k rfl rfl rfl (by omega) rfl ?_
                refine x_astN (12 * t + b + k) rfl rfl (ix t b k) (by omega) rfl ?_
                have IH := ih (k + 1) (xup D1 123 (12 * t + b + k) (D1 143 k)) (by omega) (fun m hm => by rw [xup_o (by omega)]; exact k1 m hm) (fun a q1 q2 => by rw [xup_ne a q1]; exact k2 a q1 q2) (fun m => by
                  by_cases em : m = 12 * t + b + k
                  · subst em
                    rw [xup_at, if_pos (by omega), k1 k h6]
                    exact congrArg f (by omega)
                  · rw [xup_o (by omega), k3]
                    by_cases hin : 12 * t + b ≤ m ∧ m < 12 * t + b + k
                    · rw [if_pos hin, if_pos (by omega)]
                    · rw [if_neg hin, if_neg (by omega)])
                rw [← nI_1] at IH
                exact x_goto rfl rfl IH
            have loop1 : ∀ (g k : Nat) (D1 : xM), k + g = c2 → (∀ m, m < k → D1 143 m = f (a + m)) → (∀ a, a ≠ 143 → D1 a = D a) → xW Γ (n + 2) hX9_splice rX9_splice 85 [some (xR 0 9 111), some (xI (nI r)), some (xI (nI a)), some (xI (nI t)), some (xI (nI b)), some (xI (nI c2)), some (xI (nI k))] [] D1 post := by
              intro g
              induction g with
              | zero =>
                intro k D1 hk k1 k2
                obtain rfl : k = c2 := by omega
                refine xi_geN k k rfl rfl rfl rfl (by omega) (by omega) (fun _ => ?_) (fun h => absurd h (by omega))
                refine x_to 122 rfl ?_
                exact loop2 k 0 D1 (by omega) k1 (fun a _ q => k2 a q) (fun m => by rw [if_neg (by omega), k2 123 (by omega)])
              | succ g ih =>
                intro k D1 hk k1 k2
                refine xi_geN k c2 rfl rfl rfl rfl (by omega) (by omega) (fun h => absurd h (by omega)) (fun h6 => ?_)
                refine x_aldN (12 * r + a + k) rfl rfl (ix r a k) (by omega) rfl ?_
                refine x_astN k rfl rfl rfl (by omega) rfl ?_
                have ev : D1 123 (12 * r + a + k) = f (a + k) := by
                  rw [k2 123 (by omega), Nat.add_assoc]
                  exact q3 (a + k) (by omega)
                rw [ev]
                have IH := ih (k + 1) (xup D1 143 k (f (a + k))) (by omega) (fun m hm => by
                  by_cases em : m = k
                  · subst em; rw [xup_at]
                  · rw [xup_o (by omega)]; exact k1 m (by omega)) (fun a q => by rw [xup_ne a q]; exact k2 a q)
                rw [← nI_1] at IH
                exact x_goto rfl rfl IH
            exact loop1 c2 0 D (by omega) (fun m hm => absurd hm (by omega)) (fun _ _ => rfl)
      · rw [if_neg h5] at hp
        exact x_ret rfl rfl rfl rfl (hp D h (fun _ _ => rfl))
end B1
end
section
/-! ===== left ===== -/
def wTen (S : wS) (w : Nat) : Nat → Nat := wSum (fun b => if 5 ≤ S.K b w then 1 else 0)
theorem wTen_le (S : wS) (w : Nat) : ∀ i, wTen S w i ≤ i
  | 0 => Nat.le_refl _
  | i + 1 => by
    have := wTen_le S w i
    rw [wTen, wSum]
    rw [wTen] at this
    split <;> omega
def aLeft (G : gS) (x y z : Int32) : Int32 := match gI x 0 9 with
  | none => -2
  | some w => match gI y 0 10 with
    | none => -3
    | some q => match gI z 0 1 with
      | none => -3
      | some p => nI ((if p = 0 then 10 ^ wTen G.now w G.now.B - q ^ wTen G.now w G.now.B else 10 ^ wTen G.now w G.now.B) / Nat.gcd (10 ^ wTen G.now w G.now.B) (10 ^ wTen G.now w G.now.B - q ^ wTen G.now w G.now.B))
theorem ten_lt {k : Nat} (h : k ≤ 8) : 10 ^ k ≤ 100000000 := Nat.pow_le_pow_right (n := 10) (by decide) h
theorem mod_half {a b : Nat} (hr : 0 < a % b) (hb : 0 < b) : 2 * (b % (a % b)) < b := by
  have h1 := Nat.mod_lt a hb
  have h2 := Nat.mod_lt b hr
  have h3 := Nat.div_add_mod b (a % b)
  have h4 : 1 ≤ b / (a % b) := (Nat.one_le_div_iff hr).mpr (Nat.le_of_lt h1)
  have h5 : a % b * 1 ≤ a % b * (b / (a % b)) := Nat.mul_le_mul_left _ h4
  omega
section B2
variable {Γ : xG} {n : Nat} {D : xM} {post : Option Int32 → xM → Prop} {G : gS} {S : wS}
theorem c_gcd {a0 b0 : Nat} (ha0 : 0 < a0) (ha1 : a0 ≤ 100000000) (hb1 : b0 ≤ 100000000) (hp : post (some (nI (Nat.gcd a0 b0))) D) : xRuns Γ (n + 1) hX8_commonDivisor [xI (nI a0), xI (nI b0)] D post := by
  refine x_runs kX8_commonDivisor (by decide +kernel) rfl ?_
  refine x_to 7 rfl ?_
  have fin : ∀ (a b t : Nat), a = Nat.gcd a0 b0 → a < 2 ^ 31 → xW Γ (n + 1) hX8_commonDivisor rX8_commonDivisor 34 [some (xI (nI a0)), some (xI (nI b0)), some (xI (nI a)), some (xI (nI b)), some (xI (nI t)), none] [] D post := by
    intro a b t e ha
    refine x_max (rest := []) rfl rfl rfl ?_
    refine x_ret rfl rfl rfl rfl ?_
    have hpos : 0 < a := by rw [e]; exact Nat.gcd_pos_of_pos_left _ ha0
    have em : (if nI a < xnum 1 then xnum 1 else nI a) = nI a := if_neg (fun h => absurd ((nI_ltI (b := 1) ha (by decide)).mp h) (by omega))
    rw [em, e]
    exact hp
  have main : ∀ (t : Nat) (a b k : Nat), b < 2 ^ t → k + 2 * t ≤ 100 → Nat.gcd a b = Nat.gcd a0 b0 → a ≤ 100000000 → b ≤ 100000000 → xW Γ (n + 1) hX8_commonDivisor rX8_commonDivisor 7 [some (xI (nI a0)), some (xI (nI b0)), some (xI (nI a)), some (xI (nI b)), some (xI (nI k)), none] [] D post := by
    have zero : ∀ (a k : Nat), k ≤ 100 → Nat.gcd a 0 = Nat.gcd a0 b0 → a ≤ 100000000 → xW Γ (n + 1) hX8_commonDivisor rX8_commonDivisor 7 [some (xI (nI a0)), some (xI (nI b0)), some (xI (nI a)), some (xI (nI 0)), some (xI (nI k)), none] [] D post := by
      intro a k hk hg ha
      rw [Nat.gcd_zero_right] at hg
      refine xi_geN k 100 rfl rfl rfl rfl (by omega) (by omega) (fun _ => fin a 0 k hg (by omega)) (fun _ => ?_)
      exact x0_le rfl rfl (fun _ => fin a 0 k hg (by omega)) (fun h => absurd (by decide) h)
    have step : ∀ (a b k : Nat), 0 < b → k < 100 → a ≤ 100000000 → b ≤ 100000000 → xW Γ (n + 1) hX8_commonDivisor rX8_commonDivisor 7 [some (xI (nI a0)), some (xI (nI b0)), some (xI (nI b)), some (xI (nI (a % b))), some (xI (nI (k + 1))), none] [] D post → xW Γ (n + 1) hX8_commonDivisor rX8_commonDivisor 7 [some (xI (nI a0)), some (xI (nI b0)), some (xI (nI a)), some (xI (nI b)), some (xI (nI k)), none] [] D post := by
      intro a b k hb hk ha hb1 kk
      refine xi_geN k 100 rfl rfl rfl rfl (by omega) (by omega) (fun h => absurd h (by omega)) (fun _ => ?_)
      refine x0_le rfl rfl (fun h => absurd h (nI_nle hb (by omega))) (fun _ => ?_)
      refine x_rem rfl rfl (nI_ne0 hb (by omega)) ?_
      rw [pk_rem (by omega) hb (by omega)]
      refine x_to 28 rfl ?_
      refine x_drop 5 ?_
      rw [← nI_1] at kk
      exact x_goto rfl rfl kk
    intro t
    induction t with
    | zero =>
      intro a b k hb hk hg ha hb1
      have : b = 0 := by simp at hb; omega
      subst this
      exact zero a k (by omega) hg ha
    | succ t ih =>
      intro a b k hb hk hg ha hb1
      by_cases b0 : b = 0
      · subst b0
        exact zero a k (by omega) hg ha
      · have hm := Nat.mod_lt a (show 0 < b by omega)
        have g1 : Nat.gcd b (a % b) = Nat.gcd a b := by rw [Nat.gcd_comm b, ← Nat.gcd_rec, Nat.gcd_comm]
        refine step a b k (by omega) (by omega) ha hb1 ?_
        by_cases r0 : a % b = 0
        · rw [r0] at g1 ⊢
          exact zero b (k + 1) (by omega) (g1.trans hg) hb1
        · have hh := mod_half (show 0 < a % b by omega) (show 0 < b by omega)
          have g2 : Nat.gcd (a % b) (b % (a % b)) = Nat.gcd b (a % b) := by rw [Nat.gcd_comm (a % b), ← Nat.gcd_rec, Nat.gcd_comm]
          refine step b (a % b) (k + 1) (by omega) (by omega) hb1 (by omega) ?_
          refine ih (a % b) (b % (a % b)) (k + 1 + 1) ?_ (by omega) (g2.trans (g1.trans hg)) (by omega) (by omega)
          rw [Nat.pow_succ] at hb
          omega
  exact main 27 a0 b0 0 (by omega) (by omega) rfl ha1 hb1
theorem a_left {x y z : Int32} (h : RelC D G) (hg : gok G) (hp : post (some (aLeft G x y z)) D) : xRuns Γ (n + 2) hX8_left [xR 0 8 0, xI x, xI y, xI z] D post := by
  have ho := hg.2.2.1.1
  have h8 := ho.1
  have hr := h.2.1
  refine x_runs kX8_left (by decide +kernel) rfl ?_
  rw [aLeft] at hp
  refine x_scall [xI x] rfl rfl rfl rfl rfl rfl rfl (c_noWord ?_)
  rcases hx_w : gI x 0 9 with _ | w
  · rw [hx_w] at hp
    refine x0_eq rfl rfl (fun h => absurd h (by decide)) (fun _ => ?_)
    exact x_ret rfl rfl rfl rfl hp
  rw [hx_w] at hp
  dsimp only at hp
  obtain ⟨e1_w, e2_w, e3_w, e4_w⟩ := gI_some (by decide) hx_w
  subst e1_w
  have h_w : w < 10 := by omega
  refine x0_eq rfl rfl (fun _ => ?_) (fun h => absurd rfl h)
  refine x_scall [xI y, xI (nI 0), xI (nI 10)] rfl rfl rfl rfl rfl rfl rfl (c_isNot (lo := 0) (hi := 10) (by decide) (by decide) ?_)
  rcases hx_q : gI y 0 10 with _ | q
  · rw [hx_q] at hp
    refine x0_ne rfl rfl (fun _ => ?_) (fun h => absurd h (by decide))
    exact x_ret rfl rfl rfl rfl hp
  rw [hx_q] at hp
  dsimp only at hp
  obtain ⟨e1_q, e2_q, e3_q, e4_q⟩ := gI_some (by decide) hx_q
  subst e1_q
  have h_q : q < 11 := by omega
  refine x0_ne rfl rfl (fun h => absurd rfl h) (fun _ => ?_)
  refine x_scall [xI z, xI (nI 0), xI (nI 1)] rfl rfl rfl rfl rfl rfl rfl (c_isNot (lo := 0) (hi := 1) (by decide) (by decide) ?_)
  rcases hx_p : gI z 0 1 with _ | p
  · rw [hx_p] at hp
    refine x0_eq rfl rfl (fun h => absurd h (by decide)) (fun _ => ?_)
    exact x_ret rfl rfl rfl rfl hp
  rw [hx_p] at hp
  dsimp only at hp
  obtain ⟨e1_p, e2_p, e3_p, e4_p⟩ := gI_some (by decide) hx_p
  subst e1_p
  have h_p : p < 2 := by omega
  refine x0_eq rfl rfl (fun _ => ?_) (fun h => absurd rfl h)
  refine x_to 41 rfl ?_
  have loop : ∀ f i, i + f = G.now.B → xW Γ (n + 2) hX8_left rX8_left 41 [some (xR 0 8 0), some (xI (nI w)), some (xI (nI q)), some (xI (nI p)), some (xI (nI (10 ^ wTen G.now w i))), some (xI (nI (q ^ wTen G.now w i))), some (xI (nI i)), none] [] D post := by
    intro f
    induction f with
    | zero =>
      intro i hi
      obtain rfl : i = G.now.B := by omega
      refine xi_geN G.now.B G.now.B rfl rfl rfl hr.1 (by omega) (by omega) (fun _ => ?_) (fun h => absurd h (by omega))
      have t8 := wTen_le G.now w G.now.B
      generalize wTen G.now w G.now.B = t at hp t8 ⊢
      have h10 := ten_lt (show t ≤ 8 by omega)
      have hq : q ^ t ≤ 10 ^ t := Nat.pow_le_pow_left (by omega) t
      have hpos : 0 < 10 ^ t := Nat.pow_pos (by decide)
      refine x_to 97 rfl ?_
      rw [pk_sub hq]
      refine x_scall [xI (nI (10 ^ t)), xI (nI (10 ^ t - q ^ t))] rfl rfl rfl rfl rfl rfl rfl (c_gcd hpos h10 (by omega) ?_)
      have gpos : 0 < Nat.gcd (10 ^ t) (10 ^ t - q ^ t) := Nat.gcd_pos_of_pos_left _ hpos
      have gle : Nat.gcd (10 ^ t) (10 ^ t - q ^ t) ≤ 10 ^ t := Nat.le_of_dvd hpos (Nat.gcd_dvd_left _ _)
      refine x0_ne rfl rfl (fun h2 => ?_) (fun h2 => ?_)
      · rw [if_neg (fun e => h2 (by rw [e]; rfl))] at hp
        refine x_div rfl rfl (nI_ne0 gpos (by omega)) ?_
        rw [pk_div (by omega) gpos (by omega)]
        exact x_ret rfl rfl rfl rfl hp
      · rw [if_pos ((nI_eq (b := 0) (by omega) (by omega)).mp h2)] at hp
        refine x_goto rfl rfl ?_
        refine x_div rfl rfl (nI_ne0 gpos (by omega)) ?_
        rw [pk_div (by omega) gpos (by omega)]
        exact x_ret rfl rfl rfl rfl hp
    | succ f ih =>
      intro i hi
      have IH := ih (i + 1) (by omega)
      have h9 := ho.2.2.2.2.2.2.1 i w (by omega) h_w
      have es : wTen G.now w (i + 1) = wTen G.now w i + (if 5 ≤ G.now.K i w then 1 else 0) := rfl
      refine xi_geN i G.now.B rfl rfl rfl hr.1 (by omega) (by omega) (fun h => absurd h (by omega)) (fun h => ?_)
      refine x_call [xI (nI i), xI (nI w)] rfl rfl rfl rfl rfl rfl rfl (c_knowledge hr ho (by omega) h_w ?_)
      refine xi_ltN (G.now.K i w) 5 rfl rfl rfl rfl (by omega) (by omega) (fun h2 => ?_) (fun h2 => ?_)
      · rw [es, if_neg (by omega), Nat.add_zero, ← nI_1] at IH
        exact x_goto rfl rfl IH
      · rw [es, if_pos h2, ← nI_1, Nat.pow_succ, Nat.pow_succ, ← pk_mul, ← pk_mul] at IH
        exact x_goto rfl rfl IH
  exact loop G.now.B 0 (by omega)
theorem am_left {x y z : Int32} (h : RelM D G) (hg : gok G) (hp : post (some (aLeft G x y z)) D) : xRuns Γ (n + 2) hX9_left [xR 0 9 111, xI x, xI y, xI z] D post := by
  have ho := hg.2.2.1.1
  have h8 := ho.1
  have hr := h.2.1
  refine x_runs kX9_left (by decide +kernel) rfl ?_
  rw [aLeft] at hp
  refine x_scall [xI x] rfl rfl rfl rfl rfl rfl rfl (c_isWordN ?_)
  rcases hx_w : gI x 0 9 with _ | w
  · rw [hx_w] at hp
    refine x0_ne rfl rfl (fun h => absurd rfl h) (fun _ => ?_)
    exact x_ret rfl rfl rfl rfl hp
  rw [hx_w] at hp
  dsimp only at hp
  obtain ⟨e1_w, e2_w, e3_w, e4_w⟩ := gI_some (by decide) hx_w
  subst e1_w
  have h_w : w < 10 := by omega
  refine x0_ne rfl rfl (fun _ => ?_) (fun h => absurd h (by simp))
  refine x_scall [xL y.toInt64, xL (Int64.ofNat 0), xL (Int64.ofNat 10)] rfl rfl rfl rfl rfl rfl rfl (c_inI (lo := 0) (hi := 10) (by decide) (by decide) ?_)
  rcases hx_q : gI y 0 10 with _ | q
  · rw [hx_q] at hp
    refine x0_eq rfl rfl (fun _ => ?_) (fun h => absurd rfl h)
    exact x_ret rfl rfl rfl rfl hp
  rw [hx_q] at hp
  dsimp only at hp
  obtain ⟨e1_q, e2_q, e3_q, e4_q⟩ := gI_some (by decide) hx_q
  subst e1_q
  have h_q : q < 11 := by omega
  refine x0_eq rfl rfl (fun h => absurd h (by simp)) (fun _ => ?_)
  refine x_scall [xL z.toInt64, xL (Int64.ofNat 0), xL (Int64.ofNat 1)] rfl rfl rfl rfl rfl rfl rfl (c_inI (lo := 0) (hi := 1) (by decide) (by decide) ?_)
  rcases hx_p : gI z 0 1 with _ | p
  · rw [hx_p] at hp
    refine x0_ne rfl rfl (fun h => absurd rfl h) (fun _ => ?_)
    exact x_ret rfl rfl rfl rfl hp
  rw [hx_p] at hp
  dsimp only at hp
  obtain ⟨e1_p, e2_p, e3_p, e4_p⟩ := gI_some (by decide) hx_p
  subst e1_p
  have h_p : p < 2 := by omega
  refine x0_ne rfl rfl (fun _ => ?_) (fun h => absurd h (by simp))
  refine x_to 44 rfl ?_
  have fin : ∀ (N t a b : Nat), b ≤ N → t ≤ 8 → t = wTen G.now w G.now.B → a ≤ 100000000 → b ≤ 100000000 → Nat.gcd a b = Nat.gcd (10 ^ t) (10 ^ t - q ^ t) → xW Γ (n + 2) hX9_left rX9_left 116 [some (xR 0 9 111), some (xI (nI w)), some (xI (nI q)), some (xI (nI p)), some (xI (nI (q ^ t))), some (xI (nI (10 ^ t))), some (xI (nI a)), some (xI (nI b)), none] [] D post := by
    intro N
    induction N with
    | zero =>
      intro t a b hb ht et ha hb1 hgc
      obtain rfl : b = 0 := by omega
      rw [Nat.gcd_zero_right] at hgc
      rw [← et] at hp
      have h10 := ten_lt ht
      have hq : q ^ t ≤ 10 ^ t := Nat.pow_le_pow_left (by omega) t
      have hpos : 0 < 10 ^ t := Nat.pow_pos (by decide)
      have gpos : 0 < Nat.gcd (10 ^ t) (10 ^ t - q ^ t) := Nat.gcd_pos_of_pos_left _ hpos
      rw [← hgc] at hp gpos
      refine x0_eq rfl rfl (fun _ => ?_) (fun h => absurd rfl h)
      refine x0_ne rfl rfl (fun h2 => ?_) (fun h2 => ?_)
      · rw [if_neg (fun e => h2 (by rw [e]; rfl))] at hp
        refine x_div rfl rfl (nI_ne0 gpos (by omega)) ?_
        rw [pk_div (by omega) gpos (by omega)]
        exact x_ret rfl rfl rfl rfl hp
      · rw [if_pos ((nI_eq (b := 0) (by omega) (by omega)).mp h2)] at hp
        refine x_to 150 rfl ?_
        rw [pk_sub hq]
        refine x_div rfl rfl (nI_ne0 gpos (by omega)) ?_
        rw [pk_div (by omega) gpos (by omega)]
        exact x_goto rfl rfl (x_ret rfl rfl rfl rfl hp)
    | succ N ih =>
      intro t a b hb ht et ha hb1 hgc
      by_cases b0 : b = 0
      · exact ih t a b (by omega) ht et ha hb1 hgc
      · have hm := Nat.mod_lt a (show 0 < b by omega)
        have g1 : Nat.gcd b (a % b) = Nat.gcd a b := by rw [Nat.gcd_comm b, ← Nat.gcd_rec, Nat.gcd_comm]
        refine x0_eq rfl rfl (fun h => absurd h (nI_ne0 (by omega) (by omega))) (fun _ => ?_)
        refine x_rem rfl rfl (nI_ne0 (by omega) (by omega)) ?_
        rw [pk_rem (by omega) (by omega) (by omega)]
        refine x_to 136 rfl ?_
        refine x_drop 8 ?_
        exact x_goto rfl rfl (ih t b (a % b) (by omega) ht et hb1 (by omega) (g1.trans hgc))
  have loop : ∀ f i, i + f = G.now.B → xW Γ (n + 2) hX9_left rX9_left 44 [some (xR 0 9 111), some (xI (nI w)), some (xI (nI q)), some (xI (nI p)), some (xI (nI (q ^ wTen G.now w i))), some (xI (nI (10 ^ wTen G.now w i))), some (xI (nI i)), none, none] [] D post := by
    intro f
    induction f with
    | zero =>
      intro i hi
      obtain rfl : i = G.now.B := by omega
      refine x_aldN 0 rfl rfl rfl (by omega) rfl ?_
      refine xi_geN G.now.B G.now.B rfl rfl rfl hr.1 (by omega) (by omega) (fun _ => ?_) (fun h => absurd h (by omega))
      have t8 := wTen_le G.now w G.now.B
      have F := fin (10 ^ wTen G.now w G.now.B) (wTen G.now w G.now.B) (10 ^ wTen G.now w G.now.B - q ^ wTen G.now w G.now.B) (10 ^ wTen G.now w G.now.B) (Nat.le_refl _) (by omega) rfl (by have := ten_lt (show wTen G.now w G.now.B ≤ 8 by omega); omega) (ten_lt (by omega)) (Nat.gcd_comm _ _)
      generalize wTen G.now w G.now.B = t at t8 F ⊢
      have hq : q ^ t ≤ 10 ^ t := Nat.pow_le_pow_left (by omega) t
      refine x_to 116 rfl ?_
      rw [pk_sub hq]
      exact F
    | succ f ih =>
      intro i hi
      have IH := ih (i + 1) (by omega)
      have hlt := wbits_lt (fun k => decide (5 ≤ G.now.K i k)) 10
      have es : wTen G.now w (i + 1) = wTen G.now w i + (if 5 ≤ G.now.K i w then 1 else 0) := rfl
      have eb : (wWell G.now i).testBit w = decide (5 ≤ G.now.K i w) := by rw [wWell, wbits_tb, decide_eq_true h_w, Bool.true_and]
      refine x_aldN 0 rfl rfl rfl (by omega) rfl ?_
      refine xi_geN i G.now.B rfl rfl rfl hr.1 (by omega) (by omega) (fun h => absurd h (by omega)) (fun h => ?_)
      refine x_call [xI (nI 0), xI (nI i)] rfl rfl rfl rfl rfl rfl rfl (c_mwell hr ho (by omega) (by omega) ?_)
      refine x_scall [xI (nI (wWell G.now i)), xI (nI w)] rfl rfl rfl rfl rfl rfl rfl (c_has (by rw [wWell]; omega) (by omega) ?_)
      rw [eb]
      by_cases h5 : 5 ≤ G.now.K i w
      · rw [es, if_pos h5, ← nI_1, Nat.pow_succ, Nat.pow_succ, ← pk_mul, ← pk_mul] at IH
        rw [decide_eq_true h5]
        refine x0_eq rfl rfl (fun h => absurd h (by decide)) (fun _ => ?_)
        refine x_goto rfl rfl ?_
        refine x0_eq rfl rfl (fun h => absurd h (by decide)) (fun _ => ?_)
        refine x_goto rfl rfl ?_
        refine x_to 99 rfl ?_
        refine x_drop 7 ?_
        exact x_goto rfl rfl IH
      · rw [es, if_neg h5, Nat.add_zero, ← nI_1] at IH
        rw [decide_eq_false h5]
        refine x0_eq rfl rfl (fun _ => ?_) (fun h => absurd rfl h)
        refine x0_eq rfl rfl (fun _ => ?_) (fun h => absurd rfl h)
        refine x_to 99 rfl ?_
        have e1 : ∀ c, nI c * xnum 1 = nI c := fun c => by show nI c * nI 1 = _; rw [pk_mul, Nat.mul_one]
        rw [e1, e1]
        refine x_drop 7 ?_
        exact x_goto rfl rfl IH
  exact loop G.now.B 0 (by omega)
end B2
end
section
/-! ===== match: numbers ===== -/
abbrev kT : Type := Nat → Nat → Nat
def mU (B u d : Nat) : Nat := if d < B then u ||| 2 ^ d else u
def mVal (K : kT) (B m u : Nat) (X : Nat → Nat) (d : Nat) : Option Nat := if d < B then (if u.testBit d then none else some (K m d + X (u ||| 2 ^ d))) else some (X u)
def wB (v : Nat → Option Nat) : Nat → Option (Nat × Nat)
  | 0 => none
  | i + 1 => match v i with
    | none => wB v i
    | some x => match wB v i with
      | none => some (x, i)
      | some (y, j) => if y < x then some (x, i) else some (y, j)
theorem wB_some (v : Nat → Option Nat) : ∀ i x j, wB v i = some (x, j) → v j = some x ∧ j < i ∧ (∀ d y, d < i → v d = some y → y ≤ x) ∧ (∀ d y, d < j → v d = some y → y < x)
  | 0, _, _, h => by cases h
  | i + 1, x, j, h => by
    rw [wB] at h
    split at h
    · rename_i hv
      obtain ⟨a, b, c, e⟩ := wB_some v i x j h
      refine ⟨a, by omega, fun d y hd hy => ?_, e⟩
      by_cases q : d = i
      · subst q; rw [hv] at hy; cases hy
      · exact c d y (by omega) hy
    · rename_i x' hv
      split at h
      · rename_i hn
        cases h
        have none_all : ∀ d, d < i → v d = none := by
          clear hv
          induction i with
          | zero => intro d hd; exact absurd hd (by omega)
          | succ i ih =>
            rw [wB] at hn
            split at hn
            · rename_i hv2
              intro d hd
              by_cases q : d = i
              · subst q; exact hv2
              · exact ih hn d (by omega)
            · split at hn
              · cases hn
              · split at hn <;> cases hn
        refine ⟨hv, by omega, fun d y hd hy => ?_, fun d y hd hy => by rw [none_all d hd] at hy; cases hy⟩
        by_cases q : d = i
        · subst q; rw [hv] at hy; cases hy; exact Nat.le_refl _
        · rw [none_all d (by omega)] at hy; cases hy
      · rename_i y j' hj
        obtain ⟨a, b, c, e⟩ := wB_some v i y j' hj
        split at h
        · rename_i hlt
          cases h
          refine ⟨hv, by omega, fun d z hd hz => ?_, fun d z hd hz => by have := c d z hd hz; omega⟩
          by_cases q : d = i
          · subst q; rw [hv] at hz; cases hz; exact Nat.le_refl _
          · have := c d z (by omega) hz; omega
        · rename_i hlt
          cases h
          refine ⟨a, by omega, fun d z hd hz => ?_, e⟩
          by_cases q : d = i
          · subst q; rw [hv] at hz; cases hz; omega
          · exact c d z (by omega) hz
theorem wB_ne {v : Nat → Option Nat} {i x : Nat} (h : v i = some x) : ∃ y j, wB v (i + 1) = some (y, j) := by
  rw [wB, h]
  split
  · exact absurd ‹_› (by simp)
  · split
    · exact ⟨_, _, rfl⟩
    · split
      · exact ⟨_, _, rfl⟩
      · exact ⟨_, _, rfl⟩
def mX (K : kT) (B : Nat) : Nat → Nat → Nat → Nat
  | 0, _, _ => 0
  | f + 1, m, u => match wB (mVal K B m u (mX K B f (m + 1))) (B + 1) with
    | none => 0
    | some (x, _) => x
def gd (K : kT) (B f m u : Nat) : Nat := match wB (mVal K B m u (mX K B f (m + 1))) (B + 1) with
  | none => B
  | some (_, j) => j
theorem gd_spec (K : kT) (B f m u : Nat) : wB (mVal K B m u (mX K B f (m + 1))) (B + 1) = some (mX K B (f + 1) m u, gd K B f m u) := by
  obtain ⟨x, j, h⟩ := wB_ne (v := mVal K B m u (mX K B f (m + 1))) (i := B) (x := mX K B f (m + 1) u) (by rw [mVal, if_neg (by omega)])
  rw [mX, gd, h]
theorem gd_le (K : kT) (B f m u : Nat) : gd K B f m u ≤ B := by
  have := (wB_some _ _ _ _ (gd_spec K B f m u)).2.1
  omega
theorem mX_le {K : kT} {B c : Nat} (hK : ∀ m b, b < B → K m b ≤ c) : ∀ f m u, mX K B f m u ≤ c * f
  | 0, _, _ => Nat.zero_le _
  | f + 1, m, u => by
    have h := (wB_some _ _ _ _ (gd_spec K B f m u)).1
    rw [mVal] at h
    have hm : c * (f + 1) = c * f + c := by rw [Nat.mul_add, Nat.mul_one]
    split at h
    · rename_i hb
      split at h
      · cases h
      · have := mX_le hK f (m + 1) (u ||| 2 ^ gd K B f m u)
        have := hK m _ hb
        injection h
        omega
    · have := mX_le hK f (m + 1) u
      injection h
      omega
/-- the class's own order of it -/
def mC (v : Nat → Option Nat) (x0 : Nat) : Nat → Nat
  | 0 => x0
  | i + 1 => match v i with
    | none => mC v x0 i
    | some y => max (mC v x0 i) y
theorem mC_ge (v : Nat → Option Nat) (x0 : Nat) : ∀ i, x0 ≤ mC v x0 i ∧ ∀ d y, d < i → v d = some y → y ≤ mC v x0 i
  | 0 => ⟨Nat.le_refl _, fun d y hd => absurd hd (by omega)⟩
  | i + 1 => by
    obtain ⟨a, b⟩ := mC_ge v x0 i
    rw [mC]
    split
    · rename_i hv
      refine ⟨a, fun d y hd hy => ?_⟩
      by_cases q : d = i
      · subst q; rw [hv] at hy; cases hy
      · exact b d y (by omega) hy
    · rename_i y' hv
      refine ⟨by omega, fun d y hd hy => ?_⟩
      by_cases q : d = i
      · subst q; rw [hv] at hy; cases hy; omega
      · have := b d y (by omega) hy; omega
theorem mC_at (v : Nat → Option Nat) (x0 : Nat) : ∀ i, mC v x0 i = x0 ∨ ∃ d, d < i ∧ v d = some (mC v x0 i)
  | 0 => Or.inl rfl
  | i + 1 => by
    have ih := mC_at v x0 i
    rw [mC]
    split
    · rcases ih with q | ⟨d, h1, h2⟩
      · exact Or.inl q
      · exact Or.inr ⟨d, by omega, h2⟩
    · rename_i y hv
      rcases Nat.le_total (mC v x0 i) y with q | q
      · rw [Nat.max_eq_right q]; exact Or.inr ⟨i, by omega, hv⟩
      · rw [Nat.max_eq_left q]
        rcases ih with q | ⟨d, h1, h2⟩
        · exact Or.inl q
        · exact Or.inr ⟨d, by omega, h2⟩
theorem mC_is (K : kT) (B f m u : Nat) : mC (mVal K B m u (mX K B f (m + 1))) (mX K B f (m + 1) u) B = mX K B (f + 1) m u := by
  obtain ⟨a, b, c, e⟩ := wB_some _ _ _ _ (gd_spec K B f m u)
  have hB : mVal K B m u (mX K B f (m + 1)) B = some (mX K B f (m + 1) u) := by rw [mVal, if_neg (by omega)]
  have h1 := c B _ (by omega) hB
  obtain ⟨g1, g2⟩ := mC_ge (mVal K B m u (mX K B f (m + 1))) (mX K B f (m + 1) u) B
  apply Nat.le_antisymm
  · rcases mC_at (mVal K B m u (mX K B f (m + 1))) (mX K B f (m + 1) u) B with q | ⟨d, q1, q2⟩
    · rw [q]; exact h1
    · exact c d _ (by omega) q2
  · by_cases q : gd K B f m u < B
    · exact g2 _ _ q a
    · have eq : gd K B f m u = B := by have := gd_le K B f m u; omega
      rw [eq, hB] at a
      injection a
      omega
def mUs (K : kT) (B M : Nat) : Nat → Nat
  | 0 => 0
  | m + 1 => mU B (mUs K B M m) (gd K B (M - m - 1) m (mUs K B M m))
def mDg (K : kT) (B M m : Nat) : Nat := gd K B (M - m - 1) m (mUs K B M m)
def mNo (B d : Nat) : Int32 := if d < B then nI d else -1
theorem mU_lt {B u d : Nat} (hB : B ≤ 8) (hu : u < 256) : mU B u d < 256 := by
  rw [mU]
  split
  · exact Nat.or_lt_two_pow (n := 8) hu (Nat.pow_lt_pow_right (by decide) (by omega))
  · exact hu
def mKK (S : wS) (n : Nat) : kT := fun m b => wKept S m b n
theorem wCnt_le : ∀ c, wCnt c ≤ 10 := by
  intro c
  have : ∀ k, wSum (fun i => if c.testBit i then 1 else 0) k ≤ k := by
    intro k
    induction k with
    | zero => exact Nat.le_refl _
    | succ k ih =>
      rw [wSum]
      split <;> omega
  exact this 10
theorem mKK_le (S : wS) (n m b : Nat) : mKK S n m b ≤ 10 := wCnt_le _
def aMatch (G : gS) (x y : Int32) : Int32 := match gO y ((G.now.M : Int) - 1) with
  | none => -2
  | some o => match gI x 1 20 with
    | none => -3
    | some k => match o with
      | none => nI (mX (mKK G.now k) G.now.B G.now.M 0 0)
      | some m => mNo G.now.B (mDg (mKK G.now k) G.now.B G.now.M m)
section B3
variable {Γ : xG} {n : Nat} {D : xM} {post : Option Int32 → xM → Prop} {G : gS} {S : wS}
theorem ix8 (m b : Nat) : nI m * xnum 8 + nI b = nI (m * 8 + b) := by
  show nI m * nI 8 + nI b = _
  rw [pk_mul, nI_add]
theorem c_mostKept {K : kT} (hr : rW D 21 S) (ho : wok S) (hK : ∀ m b, m < S.M → b < S.B → D 110 (m * 8 + b) = nI (K m b)) (hKl : ∀ m b, K m b ≤ 10) : ∀ (f m u : Nat), m + f = S.M → u < 256 → ∀ (post : Option Int32 → xM → Prop), post (some (nI (mX K S.B f m u))) D → xRuns Γ (n + f + 1) hX8_mostKept [xR 0 8 0, xI (nI m), xI (nI u)] D post := by
  have h8 := ho.1
  have h4 := ho.2.1
  intro f
  induction f with
  | zero =>
    intro m u hm hu post hp
    refine x_runs kX8_mostKept (by decide +kernel) rfl ?_
    refine xi_ltN m S.M rfl rfl rfl hr.2.1 (by omega) (by omega) (fun h => absurd h (by omega)) (fun _ => ?_)
    exact x_ret rfl rfl rfl rfl hp
  | succ f ih =>
    intro m u hm hu post hp
    have hle : ∀ u', mX K S.B f (m + 1) u' ≤ 40 := fun u' => by have := mX_le (K := K) (B := S.B) (c := 10) (fun m b _ => hKl m b) f (m + 1) u'; omega
    refine x_runs kX8_mostKept (by decide +kernel) rfl ?_
    refine xi_ltN m S.M rfl rfl rfl hr.2.1 (by omega) (by omega) (fun _ => ?_) (fun h => absurd h (by omega))
    refine x_to 18 rfl ?_
    have e1 : nI m + xnum 1 = nI (m + 1) := nI_1 m
    rw [e1]
    refine x_call [xI (nI (m + 1)), xI (nI u)] rfl rfl rfl rfl rfl rfl rfl (ih (m + 1) u (by omega) hu _ ?_)
    refine x_to 25 rfl ?_
    have loop : ∀ g i, i + g = S.B → xW Γ (n + (f + 1) + 1) hX8_mostKept rX8_mostKept 25 [some (xR 0 8 0), some (xI (nI m)), some (xI (nI u)), some (xI (nI (mC (mVal K S.B m u (mX K S.B f (m + 1))) (mX K S.B f (m + 1) u) i))), some (xI (nI i))] [] D post := by
      intro g
      induction g with
      | zero =>
        intro i hi
        obtain rfl : i = S.B := by omega
        refine xi_geN S.B S.B rfl rfl rfl hr.1 (by omega) (by omega) (fun _ => ?_) (fun h => absurd h (by omega))
        refine x_ret rfl rfl rfl rfl ?_
        rw [mC_is]
        exact hp
      | succ g ih2 =>
        intro i hi
        have IH := ih2 (i + 1) (by omega)
        have hb : mVal K S.B m u (mX K S.B f (m + 1)) i = if u.testBit i then none else some (K m i + mX K S.B f (m + 1) (u ||| 2 ^ i)) := by rw [mVal, if_pos (by omega)]
        have hc40 : mC (mVal K S.B m u (mX K S.B f (m + 1))) (mX K S.B f (m + 1) u) i ≤ 50 := by
          rcases mC_at (mVal K S.B m u (mX K S.B f (m + 1))) (mX K S.B f (m + 1) u) i with q | ⟨d, q1, q2⟩
          · rw [q]; have := hle u; omega
          · rw [mVal, if_pos (by omega)] at q2
            split at q2
            · cases q2
            · injection q2 with q2
              have := hle (u ||| 2 ^ d)
              have := hKl m d
              omega
        refine xi_geN i S.B rfl rfl rfl hr.1 (by omega) (by omega) (fun h => absurd h (by omega)) (fun h => ?_)
        refine x_to 43 rfl ?_
        have e : (nI u >>> (nI i &&& 31)) &&& xnum 1 = nI (u / 2 ^ i % 2) := xb_bit (by omega) (by omega)
        rw [e]
        rw [mC, hb, ← nI_1] at IH
        cases hq : u.testBit i with
        | true =>
          rw [hq] at IH
          rw [(xb_tb _ _).mpr hq]
          refine x0_ne rfl rfl (fun _ => ?_) (fun h => absurd h (by decide))
          exact x_goto rfl rfl IH
        | false =>
          rw [hq] at IH
          have : u / 2 ^ i % 2 = 0 := by
            have q : ¬ u / 2 ^ i % 2 = 1 := fun z => by rw [(xb_tb _ _).mp z] at hq; cases hq
            omega
          rw [this]
          refine x0_ne rfl rfl (fun h => absurd rfl h) (fun _ => ?_)
          refine x_aldN (m * 8 + i) rfl rfl (ix8 m i) (by omega) rfl ?_
          rw [hK m i (by omega) (by omega)]
          refine x_to 69 rfl ?_
          have e2 : nI u ||| (xnum 1 <<< (nI i &&& 31)) = nI (u ||| 2 ^ i) := by
            rw [← xb_or, ← xb_sh1 (by omega)]
            rfl
          rw [e1, e2]
          have hu2 : u ||| 2 ^ i < 256 := Nat.or_lt_two_pow (n := 8) hu (Nat.pow_lt_pow_right (by decide) (by omega))
          refine x_call [xI (nI (m + 1)), xI (nI (u ||| 2 ^ i))] rfl rfl rfl rfl rfl rfl rfl (ih (m + 1) (u ||| 2 ^ i) (by omega) hu2 _ ?_)
          refine x_max (rest := []) rfl rfl rfl ?_
          have hk := hKl m i
          have hx := hle (u ||| 2 ^ i)
          have em : (if nI (mC (mVal K S.B m u (mX K S.B f (m + 1))) (mX K S.B f (m + 1) u) i) < nI (K m i) + nI (mX K S.B f (m + 1) (u ||| 2 ^ i)) then nI (K m i) + nI (mX K S.B f (m + 1) (u ||| 2 ^ i)) else nI (mC (mVal K S.B m u (mX K S.B f (m + 1))) (mX K S.B f (m + 1) u) i)) = nI (max (mC (mVal K S.B m u (mX K S.B f (m + 1))) (mX K S.B f (m + 1) u) i) (K m i + mX K S.B f (m + 1) (u ||| 2 ^ i))) := by
            rw [nI_add]
            by_cases hlt : mC (mVal K S.B m u (mX K S.B f (m + 1))) (mX K S.B f (m + 1) u) i < K m i + mX K S.B f (m + 1) (u ||| 2 ^ i)
            · rw [if_pos (nI_lt hlt (by omega)), Nat.max_eq_right (by omega)]
            · rw [if_neg (nI_nlt (by omega) (by omega)), Nat.max_eq_left (by omega)]
          rw [em]
          exact x_goto rfl rfl IH
    exact loop S.B 0 (by omega)
theorem c_mostK {K : kT} {N f m u : Nat} (hr : rW D 21 S) (ho : wok S) (hK : ∀ m b, m < S.M → b < S.B → D 110 (m * 8 + b) = nI (K m b)) (hKl : ∀ m b, K m b ≤ 10) (hN : f + 1 ≤ N) (hm : m + f = S.M) (hu : u < 256) (hp : post (some (nI (mX K S.B f m u))) D) : xRuns Γ N hX8_mostKept [xR 0 8 0, xI (nI m), xI (nI u)] D post := by
  have C := c_mostKept (Γ := Γ) (n := N - f - 1) hr ho hK hKl f m u hm hu post hp
  have e : N - f - 1 + f + 1 = N := by omega
  rw [e] at C
  exact C
theorem c_leastChoice {K : kT} {f m u : Nat} (hr : rW D 21 S) (ho : wok S) (hK : ∀ m b, m < S.M → b < S.B → D 110 (m * 8 + b) = nI (K m b)) (hKl : ∀ m b, K m b ≤ 10) (hm : m + (f + 1) = S.M) (hu : u < 256) (hp : post (some (mNo S.B (gd K S.B f m u))) D) : xRuns Γ (n + 6) hX8_leastChoice [xR 0 8 0, xI (nI m), xI (nI u)] D post := by
  have h8 := ho.1
  have h4 := ho.2.1
  obtain ⟨ga, gb, gc, ge⟩ := wB_some _ _ _ _ (gd_spec K S.B f m u)
  have hle : ∀ u', mX K S.B f (m + 1) u' ≤ 40 := fun u' => by have := mX_le (K := K) (B := S.B) (c := 10) (fun m b _ => hKl m b) f (m + 1) u'; omega
  have hle1 : mX K S.B (f + 1) m u ≤ 40 := by have := mX_le (K := K) (B := S.B) (c := 10) (fun m b _ => hKl m b) (f + 1) m u; omega
  refine x_runs kX8_leastChoice (by decide +kernel) rfl ?_
  refine x_call [xI (nI m), xI (nI u)] rfl rfl rfl rfl rfl rfl rfl (c_mostK hr ho hK hKl (by omega) hm hu ?_)
  refine x_to 10 rfl ?_
  have loop : ∀ g i, i + g = S.B → i ≤ gd K S.B f m u → xW Γ (n + 6) hX8_leastChoice rX8_leastChoice 10 [some (xR 0 8 0), some (xI (nI m)), some (xI (nI u)), some (xI (nI (mX K S.B (f + 1) m u))), some (xI (nI i))] [] D post := by
    intro g
    induction g with
    | zero =>
      intro i hi hgi
      obtain rfl : i = S.B := by omega
      refine xi_geN S.B S.B rfl rfl rfl hr.1 (by omega) (by omega) (fun _ => ?_) (fun h => absurd h (by omega))
      rw [mNo, if_neg (by omega)] at hp
      exact x_ret rfl rfl rfl rfl hp
    | succ g ih =>
      intro i hi hgi
      have hb : mVal K S.B m u (mX K S.B f (m + 1)) i = if u.testBit i then none else some (K m i + mX K S.B f (m + 1) (u ||| 2 ^ i)) := by rw [mVal, if_pos (by omega)]
      refine xi_geN i S.B rfl rfl rfl hr.1 (by omega) (by omega) (fun h => absurd h (by omega)) (fun h => ?_)
      refine x_to 28 rfl ?_
      have e : (nI u >>> (nI i &&& 31)) &&& xnum 1 = nI (u / 2 ^ i % 2) := xb_bit (by omega) (by omega)
      rw [e]
      cases hq : u.testBit i with
      | true =>
        rw [hq] at hb
        have hne : i ≠ gd K S.B f m u := fun z => by rw [← z, hb] at ga; cases ga
        have IH := ih (i + 1) (by omega) (by omega)
        rw [← nI_1] at IH
        rw [(xb_tb _ _).mpr hq]
        refine x0_ne rfl rfl (fun _ => ?_) (fun h => absurd h (by decide))
        exact x_goto rfl rfl IH
      | false =>
        rw [hq] at hb
        have : u / 2 ^ i % 2 = 0 := by
          have q : ¬ u / 2 ^ i % 2 = 1 := fun z => by rw [(xb_tb _ _).mp z] at hq; cases hq
          omega
        rw [this]
        refine x0_ne rfl rfl (fun h => absurd rfl h) (fun _ => ?_)
        refine x_aldN (m * 8 + i) rfl rfl (ix8 m i) (by omega) rfl ?_
        rw [hK m i (by omega) (by omega)]
        refine x_to 53 rfl ?_
        have e1 : nI m + xnum 1 = nI (m + 1) := nI_1 m
        have e2 : nI u ||| (xnum 1 <<< (nI i &&& 31)) = nI (u ||| 2 ^ i) := by
          rw [← xb_or, ← xb_sh1 (by omega)]
          rfl
        rw [e1, e2]
        have hu2 : u ||| 2 ^ i < 256 := Nat.or_lt_two_pow (n := 8) hu (Nat.pow_lt_pow_right (by decide) (by omega))
        refine x_call [xI (nI (m + 1)), xI (nI (u ||| 2 ^ i))] rfl rfl rfl rfl rfl rfl rfl (c_mostK (f := f) hr ho hK hKl (by omega) (by omega) hu2 ?_)
        have hk := hKl m i
        have hx := hle (u ||| 2 ^ i)
        refine xi_neN (K m i + mX K S.B f (m + 1) (u ||| 2 ^ i)) (mX K S.B (f + 1) m u) rfl rfl (nI_add _ _) rfl (by omega) (by omega) (fun h2 => ?_) (fun h2 => ?_)
        · have hne : i ≠ gd K S.B f m u := fun z => by
            rw [← z, hb] at ga
            injection ga with ga
            exact h2 ga
          have IH := ih (i + 1) (by omega) (by omega)
          rw [← nI_1] at IH
          exact x_goto rfl rfl IH
        · have hi2 : i = gd K S.B f m u := by
            by_cases q : i = gd K S.B f m u
            · exact q
            · have := ge i _ (by omega) hb
              omega
          rw [mNo, ← hi2, if_pos (by omega)] at hp
          exact x_ret rfl rfl rfl rfl hp
  exact loop S.B 0 (by omega) (by omega)
theorem mUs_lt (K : kT) {B : Nat} (M : Nat) (hB : B ≤ 8) : ∀ m, mUs K B M m < 256
  | 0 => by show 0 < 256; decide
  | m + 1 => mU_lt hB (mUs_lt K M hB m)
theorem c_matchOf {K : kT} {man : Nat} (hr : rW D 21 S) (ho : wok S) (hK : ∀ m b, m < S.M → b < S.B → D 110 (m * 8 + b) = nI (K m b)) (hKl : ∀ m b, K m b ≤ 10) (hman : man < S.M) (hp : post (some (mNo S.B (mDg K S.B S.M man))) D) : xRuns Γ (n + 7) hX8_matchOf [xR 0 8 0, xI (nI man)] D post := by
  have h8 := ho.1
  have h4 := ho.2.1
  refine x_runs kX8_matchOf (by decide +kernel) rfl ?_
  refine x_to 7 rfl ?_
  have loop : ∀ g i (c : Int32), i + g = man + 1 → (i = man + 1 → c = mNo S.B (mDg K S.B S.M man)) → xW Γ (n + 7) hX8_matchOf rX8_matchOf 7 [some (xR 0 8 0), some (xI (nI man)), some (xI (nI (mUs K S.B S.M i))), some (xI c), some (xI (nI i))] [] D post := by
    intro g
    induction g with
    | zero =>
      intro i c hi hc
      obtain rfl : i = man + 1 := by omega
      refine xi_gtN (man + 1) man rfl rfl rfl rfl (by omega) (by omega) (fun _ => ?_) (fun h => absurd h (by omega))
      rw [← hc rfl] at hp
      exact x_ret rfl rfl rfl rfl hp
    | succ g ih =>
      intro i c hi hc
      have hul := mUs_lt K S.M h8 i
      refine xi_gtN i man rfl rfl rfl rfl (by omega) (by omega) (fun h => absurd h (by omega)) (fun h => ?_)
      refine x_call [xI (nI i), xI (nI (mUs K S.B S.M i))] rfl rfl rfl rfl rfl rfl rfl (c_leastChoice (f := S.M - i - 1) hr ho hK hKl (by omega) hul ?_)
      have IH := ih (i + 1) (mNo S.B (gd K S.B (S.M - i - 1) i (mUs K S.B S.M i))) (by omega) (fun e => by
        have : i = man := by omega
        subst this
        rfl)
      rw [mUs, ← nI_1] at IH
      by_cases hd : gd K S.B (S.M - i - 1) i (mUs K S.B S.M i) < S.B
      · rw [mU, if_pos hd] at IH
        have en : mNo S.B (gd K S.B (S.M - i - 1) i (mUs K S.B S.M i)) = nI (gd K S.B (S.M - i - 1) i (mUs K S.B S.M i)) := by rw [mNo, if_pos hd]
        rw [en] at IH ⊢
        refine xi_eq rfl rfl (fun (h2 : _ = -1) => ?_) (fun h2 => ?_)
        · have := congrArg Int32.toInt h2
          rw [nI_toInt (by omega)] at this
          have e1 : (-1 : Int32).toInt = -1 := rfl
          omega
        · refine x_to 32 rfl ?_
          have e2 : nI (mUs K S.B S.M i) ||| (xnum 1 <<< (nI (gd K S.B (S.M - i - 1) i (mUs K S.B S.M i)) &&& 31)) = nI (mUs K S.B S.M i ||| 2 ^ gd K S.B (S.M - i - 1) i (mUs K S.B S.M i)) := by
            rw [← xb_or, ← xb_sh1 (by omega)]
            rfl
          rw [e2]
          exact x_goto rfl rfl IH
      · rw [mU, if_neg hd] at IH
        have en : mNo S.B (gd K S.B (S.M - i - 1) i (mUs K S.B S.M i)) = -1 := by rw [mNo, if_neg hd]
        rw [en] at IH ⊢
        refine xi_eq rfl rfl (fun _ => ?_) (fun h2 => absurd rfl h2)
        exact x_goto rfl rfl IH
  exact loop (man + 1) 0 (-1) (by omega) (fun e => absurd e (by omega))
theorem a_match {x y : Int32} (h : RelC D G) (hg : gok G) (hp : ∀ D', RelC D' G → (∀ a, 111 ≤ a → D' a = D a) → post (some (aMatch G x y)) D') : xRuns Γ (n + 8) hX8_match [xR 0 8 0, xI x, xI y] D post := by
  have ho := hg.2.2.1.1
  have hE := hg.2.2.1.2
  have h8 := ho.1
  have h4 := ho.2.1
  have hr := h.2.1
  refine x_runs kX8_match (by decide +kernel) rfl ?_
  rw [aMatch] at hp
  have go : ∀ o, gO y ((G.now.M : Int) - 1) = some o → xW Γ (n + 8) hX8_match rX8_match 16 [some (xR 0 8 0), some (xI x), some (xI y), none, none] [] D post := by
    intro o hq
    rw [hq] at hp
    dsimp only at hp
    obtain ⟨ey, hb⟩ := gO_b hq
    refine x_scall [xI x, xI (nI 1), xI (nI 20)] rfl rfl rfl rfl rfl rfl rfl (c_isNot (lo := 1) (hi := 20) (by decide) (by decide) ?_)
    rcases hx_k : gI x 1 20 with _ | k
    · rw [hx_k] at hp
      refine x0_eq rfl rfl (fun h => absurd h (by decide)) (fun _ => ?_)
      exact x_ret rfl rfl rfl rfl (hp D h (fun _ _ => rfl))
    rw [hx_k] at hp
    dsimp only at hp
    obtain ⟨e1_k, e2_k, e3_k, e4_k⟩ := gI_some (by decide) hx_k
    subst e1_k
    have h_k : k < 21 := by omega
    refine x0_eq rfl rfl (fun _ => ?_) (fun h => absurd rfl h)
    refine x_to 31 rfl ?_
    have last : ∀ D1 : xM, (∀ a, (a < 27 ∨ 35 < a) → a ≠ 110 → D1 a = D a) → (∀ m b, m < G.now.M → b < G.now.B → D1 110 (m * 8 + b) = nI (mKK G.now k m b)) → ∀ c, xW Γ (n + 8) hX8_match rX8_match 89 [some (xR 0 8 0), some (xI (nI k)), some (xI y), some (xI c), none] [] D1 post := by
      intro D1 hs1 hK c
      have hr1 : rW D1 21 G.now := rW_out hr (fun a ha hb => hs1 a (by omega) (by omega))
      have R := hp D1 (RelC_out h hs1) (fun a ha => hs1 a (by omega) (by omega))
      cases o with
      | none =>
        subst ey
        refine xi_ne rfl rfl (fun h2 => absurd rfl h2) (fun _ => ?_)
        refine x_call [xI (nI 0), xI (nI 0)] rfl rfl rfl rfl rfl rfl rfl (c_mostK hr1 ho hK (mKK_le G.now k) (by omega) (Nat.zero_add _) (by omega) ?_)
        exact x_goto rfl rfl (x_ret rfl rfl rfl rfl R)
      | some m =>
        subst ey
        have hm := hb m rfl
        refine xi_ne rfl rfl (fun h2 => ?_) (fun (h2 : nI m = -1) => ?_)
        · refine x_call [xI (nI m)] rfl rfl rfl rfl rfl rfl rfl (c_matchOf hr1 ho hK (mKK_le G.now k) (by omega) ?_)
          exact x_ret rfl rfl rfl rfl R
        · have := congrArg Int32.toInt h2
          rw [nI_toInt (by omega)] at this
          have e1 : (-1 : Int32).toInt = -1 := rfl
          omega
    have loop : ∀ f m (D1 : xM), m + f = G.now.M → (∀ a, (a < 27 ∨ 35 < a) → a ≠ 110 → D1 a = D a) → (∀ m' b, m' < m → b < G.now.B → D1 110 (m' * 8 + b) = nI (mKK G.now k m' b)) → xW Γ (n + 8) hX8_match rX8_match 31 [some (xR 0 8 0), some (xI (nI k)), some (xI y), some (xI (nI m)), none] [] D1 post := by
      intro f
      induction f with
      | zero =>
        intro m D1 hm hs1 hK
        obtain rfl : m = G.now.M := by omega
        have hr1 : rW D1 21 G.now := rW_out hr (fun a ha hb => hs1 a (by omega) (by omega))
        refine xi_geN G.now.M G.now.M rfl rfl rfl hr1.2.1 (by omega) (by omega) (fun _ => ?_) (fun h => absurd h (by omega))
        exact last D1 hs1 hK _
      | succ f ih =>
        intro m D1 hm hs1 hK
        have hr1 : rW D1 21 G.now := rW_out hr (fun a ha hb => hs1 a (by omega) (by omega))
        refine xi_geN m G.now.M rfl rfl rfl hr1.2.1 (by omega) (by omega) (fun h => absurd h (by omega)) (fun h => ?_)
        refine x_to 45 rfl ?_
        have inner : ∀ g b (D2 : xM), b + g = G.now.B → (∀ a, (a < 27 ∨ 35 < a) → a ≠ 110 → D2 a = D a) → (∀ m' b, m' < m → b < G.now.B → D2 110 (m' * 8 + b) = nI (mKK G.now k m' b)) → (∀ b', b' < b → D2 110 (m * 8 + b') = nI (mKK G.now k m b')) → xW Γ (n + 8) hX8_match rX8_match 45 [some (xR 0 8 0), some (xI (nI k)), some (xI y), some (xI (nI m)), some (xI (nI b))] [] D2 post := by
          intro g
          induction g with
          | zero =>
            intro b D2 hb2 hs2 hK2 hK3
            obtain rfl : b = G.now.B := by omega
            have hr2 : rW D2 21 G.now := rW_out hr (fun a ha hb => hs2 a (by omega) (by omega))
            refine xi_geN G.now.B G.now.B rfl rfl rfl hr2.1 (by omega) (by omega) (fun _ => ?_) (fun h => absurd h (by omega))
            have IH := ih (m + 1) D2 (by omega) hs2 (fun m' b' q1 q2 => by
              by_cases e : m' = m
              · subst e; exact hK3 b' q2
              · exact hK2 m' b' (by omega) q2)
            rw [← nI_1] at IH
            refine x_drop 4 ?_
            exact x_goto rfl rfl IH
          | succ g ih2 =>
            intro b D2 hb2 hs2 hK2 hK3
            have hr2 : rW D2 21 G.now := rW_out hr (fun a ha hb => hs2 a (by omega) (by omega))
            refine xi_geN b G.now.B rfl rfl rfl hr2.1 (by omega) (by omega) (fun h => absurd h (by omega)) (fun h2 => ?_)
            refine x_call [xI (nI m), xI (nI b), xI (nI k)] rfl rfl rfl rfl rfl rfl rfl (c_keptWords hr2 ho (by omega) h2 (by omega) hE (fun D3 hs3 => ?_))
            refine x_astN (m * 8 + b) rfl rfl (ix8 m b) (by omega) rfl ?_
            have e110 : D3 110 = D2 110 := hs3 110 (by omega)
            have IH := ih2 (b + 1) (xup D3 110 (m * 8 + b) (nI (wKept G.now m b k))) (by omega) (fun a q1 q2 => by rw [xup_ne a q2, hs3 a q1]; exact hs2 a q1 q2) (fun m' b' q1 q2 => by rw [xup_o (by omega), e110]; exact hK2 m' b' q1 q2) (fun b' q => by
              by_cases e : b' = b
              · subst e; rw [xup_at]; rfl
              · rw [xup_o (by omega), e110]; exact hK3 b' (by omega))
            rw [← nI_1] at IH
            exact x_goto rfl rfl IH
        exact inner G.now.B 0 D1 (by omega) hs1 hK (fun b' q => absurd q (by omega))
    exact loop G.now.M 0 D (by omega) (fun _ _ _ => rfl) (fun m' b q => absurd q (by omega))
  refine xi_eq rfl rfl (fun (h2 : y = -1) => go none (by rw [gO, if_pos h2])) (fun (h2 : ¬ y = -1) => ?_)
  refine x_call [xI y] rfl rfl rfl rfl rfl rfl rfl (c_noMan hr ho ?_)
  rcases hy : gI y 0 ((G.now.M : Int) - 1) with _ | b
  · have e : gO y ((G.now.M : Int) - 1) = none := by rw [gO, if_neg h2, hy]
    rw [e] at hp
    refine x0_eq rfl rfl (fun h => absurd h (by decide)) (fun _ => ?_)
    exact x_ret rfl rfl rfl rfl (hp D h (fun _ _ => rfl))
  · refine x0_eq rfl rfl (fun _ => ?_) (fun h => absurd rfl h)
    exact go (some b) (by rw [gO, if_neg h2, hy])
end B3
end
section
/-! ===== match: the reference's lines ===== -/
def ps (K : kT) (B : Nat) (l : Nat → Nat) : Nat → Option (Nat × Nat)
  | 0 => some (0, 0)
  | m + 1 => match ps K B l m with
    | none => none
    | some (s, u) => if l m < B then (if u.testBit (l m) then none else some (s + K m (l m), u ||| 2 ^ l m)) else some (s, u)
theorem ps_cong {K : kT} {B : Nat} {l l' : Nat → Nat} : ∀ m, (∀ j, j < m → l j = l' j) → ps K B l m = ps K B l' m
  | 0, _ => rfl
  | m + 1, h => by rw [ps, ps, ps_cong m (fun j hj => h j (by omega)), h m (by omega)]
theorem ps_le {K : kT} {B : Nat} (hB : B ≤ 8) (hK : ∀ m b, K m b ≤ 10) {l : Nat → Nat} : ∀ m s u, ps K B l m = some (s, u) → s ≤ 10 * m ∧ u < 256
  | 0, s, u, h => by cases h; exact ⟨by omega, by omega⟩
  | m + 1, s, u, h => by
    rw [ps] at h
    split at h
    · cases h
    · rename_i s' u' hq
      obtain ⟨a, b⟩ := ps_le hB hK m s' u' hq
      split at h
      · split at h
        · cases h
        · injection h with h
          injection h with h1 h2
          have := hK m (l m)
          refine ⟨by omega, ?_⟩
          rw [← h2]
          exact Nat.or_lt_two_pow (n := 8) b (Nat.pow_lt_pow_right (by decide) (by omega))
      · injection h with h
        injection h with h1 h2
        exact ⟨by omega, by omega⟩
abbrev mSt : Type := Option Nat × (Nat → Int32)
def mUp (st : mSt) (x : Nat) (l : Nat → Nat) : mSt := match st.1 with
  | none => (some x, fun j => nI (l j))
  | some y => if y < x then (some x, fun j => nI (l j)) else st
theorem mUp2 (st : mSt) (x y : Nat) (l l' : Nat → Nat) : mUp (mUp st x l) y l' = if x < y then mUp st y l' else mUp st x l := by
  obtain ⟨q, b⟩ := st
  cases q with
  | none =>
    simp only [mUp]
  | some z =>
    simp only [mUp]
    by_cases h1 : z < x
    · rw [if_pos h1]
      by_cases h2 : x < y
      · simp only [if_pos h2, if_pos (show z < y by omega)]
      · simp only [if_neg h2]
    · rw [if_neg h1]
      by_cases h2 : x < y
      · simp only [if_pos h2]
      · simp only [if_neg h2, if_neg (show ¬ z < y by omega)]
def ext (K : kT) (B : Nat) : Nat → Nat → Nat → (Nat → Nat) → Nat → Nat
  | 0, _, _, l => l
  | f + 1, m, u, l => ext K B f (m + 1) (mU B u (gd K B f m u)) (wuf l m (gd K B f m u))
def mRes (K : kT) (B f m : Nat) (l : Nat → Nat) (st : mSt) : mSt := match ps K B l m with
  | none => st
  | some (s, u) => mUp st (s + mX K B f m u) (ext K B f m u l)
def mSd (K : kT) (B f m : Nat) (l : Nat → Nat) (st : mSt) (d : Nat) : mSt := match ps K B l m with
  | none => st
  | some (s, u) => match wB (mVal K B m u (mX K B f (m + 1))) d with
    | none => st
    | some (x, j) => mUp st (s + x) (ext K B f (m + 1) (mU B u j) (wuf l m j))
theorem mSd_last (K : kT) (B f m : Nat) (l : Nat → Nat) (st : mSt) : mSd K B f m l st (B + 1) = mRes K B (f + 1) m l st := by
  rw [mSd, mRes]
  split
  · rfl
  · rename_i s u hq
    rw [gd_spec]
    rfl
theorem wuf_at {α : Type} (f : Nat → α) (i : Nat) (v : α) : wuf f i v i = v := by simp [wuf]
theorem wuf_ne {α : Type} (f : Nat → α) {i j : Nat} (v : α) (h : j ≠ i) : wuf f i v j = f j := by simp [wuf, h]
theorem mSd_succ (K : kT) (B f m : Nat) (l : Nat → Nat) (st : mSt) (d : Nat) : mRes K B f (m + 1) (wuf l m d) (mSd K B f m l st d) = mSd K B f m l st (d + 1) := by
  have hc : ps K B (wuf l m d) m = ps K B l m := ps_cong m (fun j hj => wuf_ne l d (by omega))
  rw [mRes, ps, hc, wuf_at]
  rw [mSd, mSd]
  rcases hq : ps K B l m with _ | ⟨s, u⟩
  · rfl
  · dsimp only
    rw [wB]
    have hv : mVal K B m u (mX K B f (m + 1)) d = if d < B then (if u.testBit d then none else some (K m d + mX K B f (m + 1) (u ||| 2 ^ d))) else some (mX K B f (m + 1) u) := rfl
    have hmU : mU B u d = if d < B then u ||| 2 ^ d else u := rfl
    by_cases h1 : d < B
    · rw [if_pos h1] at hv hmU ⊢
      cases ht : u.testBit d with
      | true =>
        rw [ht] at hv
        rw [hv]
        rfl
      | false =>
        rw [ht, if_neg (by decide)] at hv
        rw [hv]
        simp only [Bool.false_eq_true, if_false]
        rcases hw : wB (mVal K B m u (mX K B f (m + 1))) d with _ | ⟨y, j⟩
        · dsimp only
          rw [hmU, Nat.add_assoc]
        · dsimp only
          rw [mUp2, Nat.add_assoc]
          by_cases h3 : y < K m d + mX K B f (m + 1) (u ||| 2 ^ d)
          · rw [if_pos (by omega), if_pos h3]
            dsimp only
            rw [hmU]
          · rw [if_neg (by omega), if_neg h3]
    · rw [if_neg h1] at hv hmU ⊢
      rw [hv]
      dsimp only
      rcases hw : wB (mVal K B m u (mX K B f (m + 1))) d with _ | ⟨y, j⟩
      · dsimp only
        rw [hmU]
      · dsimp only
        rw [mUp2]
        by_cases h3 : y < mX K B f (m + 1) u
        · rw [if_pos (by omega), if_pos h3]
          dsimp only
          rw [hmU]
        · rw [if_neg (by omega), if_neg h3]
theorem ext_lo (K : kT) (B : Nat) : ∀ f m u l j, j < m → ext K B f m u l j = l j
  | 0, _, _, _, _, _ => rfl
  | f + 1, m, u, l, j, h => by
    rw [ext, ext_lo K B f (m + 1) _ _ j (by omega)]
    exact wuf_ne l _ (by omega)
theorem ext_dg (K : kT) (B M : Nat) : ∀ f m l, m + f = M → ∀ j, m ≤ j → j < M → ext K B f m (mUs K B M m) l j = mDg K B M j
  | 0, m, _, h, j, h1, h2 => absurd h2 (by omega)
  | f + 1, m, l, h, j, h1, h2 => by
    have hf : M - m - 1 = f := by omega
    have e : mU B (mUs K B M m) (gd K B f m (mUs K B M m)) = mUs K B M (m + 1) := by rw [mUs, hf]
    rw [ext, e]
    by_cases q : j = m
    · subst q
      rw [ext_lo K B f (j + 1) _ _ j (by omega), wuf_at, mDg, hf]
    · exact ext_dg K B M f (m + 1) _ (by omega) j (by omega) h2
theorem xby_leI {p q : Option Nat} (hp : ∀ x, p = some x → x < 2 ^ 31) (hq : ∀ x, q = some x → x < 2 ^ 31) : xby p ≤ xby q ↔ (match p, q with
  | none, _ => True
  | some _, none => False
  | some x, some y => x ≤ y) := by
  cases p with
  | none =>
    cases q with
    | none => exact ⟨fun _ => trivial, fun _ => Int32.le_refl _⟩
    | some y =>
      refine ⟨fun _ => trivial, fun _ => ?_⟩
      rw [Int32.le_iff_toInt_le]
      have : (xby (some y)).toInt = (y : Int) := nI_toInt (hq y rfl)
      have e1 : (xby none).toInt = -1 := rfl
      omega
  | some x =>
    cases q with
    | none =>
      refine ⟨fun h => ?_, fun h => h.elim⟩
      rw [Int32.le_iff_toInt_le] at h
      have : (xby (some x)).toInt = (x : Int) := nI_toInt (hp x rfl)
      have e1 : (xby none).toInt = -1 := rfl
      omega
    | some y => exact nI_leI (hp x rfl) (hq y rfl)
section B4
variable {Γ : xG} {n : Nat} {D : xM} {post : Option Int32 → xM → Prop} {G : gS} {S : wS}
theorem ix8' (m b : Nat) : xnum 8 * nI m + nI b = nI (8 * m + b) := by
  show nI 8 * nI m + nI b = _
  rw [pk_mul, nI_add]
theorem c_keptByLine {K : kT} {l : Nat → Nat} (hr : rM D 0 S) (ho : wok S) (hK : ∀ m b, m < S.M → b < S.B → D 140 (8 * m + b) = nI (K m b)) (hKl : ∀ m b, K m b ≤ 10) (hl : ∀ j, j < 4 → D 141 j = nI (l j)) (hlB : ∀ j, j < S.M → l j ≤ S.B) (hp : post (some (xby ((ps K S.B l S.M).map Prod.fst))) D) : xRuns Γ (n + 1) hX9_keptByLine [xR 0 9 111] D post := by
  have h8 := ho.1
  have h4 := ho.2.1
  refine x_runs kX9_keptByLine (by decide +kernel) rfl ?_
  refine x_to 9 rfl ?_
  have loop : ∀ f m (sm tk is : Int32), m + f = S.M → (match ps K S.B l m with
      | none => is = 0
      | some (s, u) => is = 1 ∧ sm = nI s ∧ tk = nI u) → xW Γ (n + 1) hX9_keptByLine rX9_keptByLine 9 [some (xR 0 9 111), some (xI sm), some (xI tk), some (xI is), some (xI (nI m)), none] [] D post := by
    intro f
    induction f with
    | zero =>
      intro m sm tk is hm hj
      obtain rfl : m = S.M := by omega
      refine x_aldN (0 + 1) rfl rfl rfl (by omega) rfl ?_
      refine xi_geN S.M S.M rfl rfl rfl hr.2.1 (by omega) (by omega) (fun _ => ?_) (fun h => absurd h (by omega))
      rcases hq : ps K S.B l S.M with _ | ⟨s, u⟩
      · rw [hq] at hp hj
        refine x0_eq rfl rfl (fun _ => ?_) (fun h => absurd hj h)
        exact x_ret rfl rfl rfl rfl hp
      · rw [hq] at hp hj
        obtain ⟨j1, j2, j3⟩ := hj
        subst j1 j2
        refine x0_eq rfl rfl (fun h => absurd h (by decide)) (fun _ => ?_)
        exact x_goto rfl rfl (x_ret rfl rfl rfl rfl hp)
    | succ f ih =>
      intro m sm tk is hm hj
      have hlm := hlB m (by omega)
      have hl2 := hl m (by omega)
      refine x_aldN (0 + 1) rfl rfl rfl (by omega) rfl ?_
      refine xi_geN m S.M rfl rfl rfl hr.2.1 (by omega) (by omega) (fun h => absurd h (by omega)) (fun h => ?_)
      refine x_aldN m rfl rfl rfl (by omega) rfl ?_
      refine x_aldN 0 rfl rfl rfl (by omega) rfl ?_
      rw [hl2]
      refine xi_geN (l m) S.B rfl rfl rfl hr.1 (by omega) (by omega) (fun h2 => ?_) (fun h2 => ?_)
      · -- nobody
        have IH := fun sm' tk' is' hj' => ih (m + 1) sm' tk' is' (by omega) hj'
        have tail : ∀ is' : Int32, is' = is → xW Γ (n + 1) hX9_keptByLine rX9_keptByLine 72 [some (xR 0 9 111), some (xI sm), some (xI tk), some (xI is'), some (xI (nI m)), some (xI (xnum 0))] [] D post := by
          intro is' e
          subst e
          refine x0_eq rfl rfl (fun _ => ?_) (fun h => absurd rfl h)
          refine x0_eq rfl rfl (fun _ => ?_) (fun h => absurd rfl h)
          have I := IH (sm + xnum 0) (tk ||| xnum 0) is' (by
            rw [ps]
            rcases hq : ps K S.B l m with _ | ⟨s, u⟩
            · rw [hq] at hj; exact hj
            · rw [hq] at hj
              obtain ⟨j1, j2, j3⟩ := hj
              dsimp only
              rw [if_neg (by omega)]
              refine ⟨j1, ?_, ?_⟩
              · rw [j2]; exact nI_add s 0
              · rw [j3]
                show nI u ||| nI 0 = _
                rw [xb_or, Nat.or_zero])
          rw [← nI_1] at I
          refine x_to 123 rfl ?_
          refine x_drop 5 ?_
          exact x_goto rfl rfl I
        refine x0_eq rfl rfl (fun h3 => ?_) (fun h3 => ?_)
        · refine x_to 72 rfl ?_
          exact tail _ h3.symm
        · refine x0_eq rfl rfl (fun _ => ?_) (fun h => absurd rfl h)
          refine x_goto rfl rfl ?_
          refine x_to 72 rfl ?_
          refine tail _ ?_
          rcases hq : ps K S.B l m with _ | ⟨s, u⟩
          · rw [hq] at hj; exact absurd hj h3
          · rw [hq] at hj; exact hj.1.symm
      · refine x_goto rfl rfl ?_
        have IH := fun sm' tk' is' hj' => ih (m + 1) sm' tk' is' (by omega) hj'
        have tail : ∀ is' : Int32, (match ps K S.B l (m + 1) with
            | none => is' = 0
            | some (s, u) => is' = 1 ∧ sm + nI (K m (l m)) = nI s ∧ (tk ||| (xnum 1 <<< (nI (l m) &&& 31))) = nI u) → xW Γ (n + 1) hX9_keptByLine rX9_keptByLine 72 [some (xR 0 9 111), some (xI sm), some (xI tk), some (xI is'), some (xI (nI m)), some (xI (xnum 1))] [] D post := by
          intro is' hj'
          refine x0_eq rfl rfl (fun h => absurd h (by decide)) (fun _ => ?_)
          refine x_aldN m rfl rfl rfl (by omega) rfl ?_
          rw [hl2]
          refine x_goto rfl rfl ?_
          refine x0_eq rfl rfl (fun h => absurd h (by decide)) (fun _ => ?_)
          refine x_aldN m rfl rfl rfl (by omega) rfl ?_
          rw [hl2]
          refine x_aldN (8 * m + l m) rfl rfl (ix8' m (l m)) (by omega) rfl ?_
          rw [hK m (l m) (by omega) h2]
          refine x_goto rfl rfl ?_
          have I := IH (sm + nI (K m (l m))) (tk ||| (xnum 1 <<< (nI (l m) &&& 31))) is' hj'
          rw [← nI_1] at I
          refine x_to 123 rfl ?_
          refine x_drop 5 ?_
          exact x_goto rfl rfl I
        refine x0_eq rfl rfl (fun h3 => ?_) (fun h3 => ?_)
        · refine x_to 72 rfl ?_
          refine tail _ ?_
          have hn : ps K S.B l m = none := by
            rcases hq : ps K S.B l m with _ | ⟨s, u⟩
            · rfl
            · rw [hq] at hj; rw [hj.1] at h3; exact absurd h3 (by decide)
          rw [ps, hn]
          rfl
        · refine x0_eq rfl rfl (fun h => absurd h (by decide)) (fun _ => ?_)
          refine x_aldN m rfl rfl rfl (by omega) rfl ?_
          rw [hl2]
          rcases hq : ps K S.B l m with _ | ⟨s, u⟩
          · rw [hq] at hj; exact absurd hj h3
          · rw [hq] at hj
            obtain ⟨j1, j2, j3⟩ := hj
            obtain ⟨b1, b2⟩ := ps_le h8 hKl m s u hq
            subst j1 j2 j3
            have e2 : nI u ||| (xnum 1 <<< (nI (l m) &&& 31)) = nI (u ||| 2 ^ l m) := by
              rw [← xb_or, ← xb_sh1 (by omega)]
              rfl
            have hps : ps K S.B l (m + 1) = if u.testBit (l m) then none else some (s + K m (l m), u ||| 2 ^ l m) := by
              rw [ps, hq]
              dsimp only
              rw [if_pos h2]
            refine x_scall [xI (nI u), xI (nI (l m))] rfl rfl rfl rfl rfl rfl rfl (c_has (by omega) (by omega) ?_)
            cases ht : u.testBit (l m) with
            | true =>
              rw [ht] at hps
              refine x0_ne rfl rfl (fun _ => ?_) (fun h => absurd h (by decide))
              refine x_to 72 rfl ?_
              refine tail _ ?_
              rw [hps]
              rfl
            | false =>
              rw [ht] at hps
              refine x0_ne rfl rfl (fun h => absurd rfl h) (fun _ => ?_)
              refine x_goto rfl rfl ?_
              refine x_to 72 rfl ?_
              refine tail _ ?_
              rw [hps, if_neg (by decide)]
              exact ⟨rfl, nI_add _ _, e2⟩
  exact loop S.M 0 0 0 1 (by omega) ⟨rfl, rfl, rfl⟩
theorem dec_nI (k : Nat) : nI (k + 1) - xnum 1 + xnum (-1) = nI k - xnum 1 := by
  have e : nI (k + 1) - xnum 1 = nI k := nI_pred k
  rw [e, Int32.sub_eq_add_neg]
  rfl
theorem l_next {l : Nat → Nat} {k0 : Nat} (hr : rM D 0 S) (ho : wok S) (hlB : ∀ j, j < S.M → l j ≤ S.B) (hk0 : k0 ≤ S.M) (hd : k0 = 0 ∨ l (k0 - 1) ≠ S.B) (hB : ∀ j, k0 ≤ j → j < S.M → l j = S.B) (kk : ∀ D1 : xM, (∀ j, j < 4 → D1 141 j = nI (if k0 ≤ j ∧ j < S.M then 0 else l j)) → (∀ a, a ≠ 141 → D1 a = D a) → xW Γ n hX9_nextLine rX9_nextLine 41 [some (xR 0 9 111), some (xI (nI k0 - xnum 1))] [] D1 post) : ∀ k (D1 : xM), k0 ≤ k → k ≤ S.M → (∀ j, j < 4 → D1 141 j = nI (if k ≤ j ∧ j < S.M then 0 else l j)) → (∀ a, a ≠ 141 → D1 a = D a) → xW Γ n hX9_nextLine rX9_nextLine 9 [some (xR 0 9 111), some (xI (nI k - xnum 1))] [] D1 post := by
  have h8 := ho.1
  have h4 := ho.2.1
  intro k
  induction k with
  | zero =>
    intro D1 h1 h2 hl hs
    obtain rfl : k0 = 0 := by omega
    refine x0_lt rfl rfl (fun _ => kk D1 hl hs) (fun h => absurd (by decide) h)
  | succ k ih =>
    intro D1 h1 h2 hl hs
    have ek : nI (k + 1) - xnum 1 = nI k := nI_pred k
    have e112 : D1 112 = D 112 := hs 112 (by omega)
    have hlk : D1 141 k = nI (l k) := by rw [hl k (by omega), if_neg (by omega)]
    have hlb := hlB k (by omega)
    rw [ek]
    refine x0_lt rfl rfl (fun h => absurd h (nI_pos (by omega))) (fun _ => ?_)
    refine x_aldN k rfl rfl rfl (by omega) rfl ?_
    refine x_aldN 0 rfl rfl rfl (by omega) rfl ?_
    refine xi_neN (l k) S.B rfl rfl hlk (by rw [e112]; exact hr.1) (by omega) (by omega) (fun h3 => ?_) (fun h3 => ?_)
    · have : k0 = k + 1 := by
        by_cases q : k0 = k + 1
        · exact q
        · exact absurd (hB k (by omega) (by omega)) h3
      subst this
      have K := kk D1 hl hs
      rw [ek] at K
      exact K
    · have hne : k0 ≠ k + 1 := fun z => by
        rcases hd with q | q
        · omega
        · rw [z] at q; exact q h3
      refine x_astN k rfl rfl rfl (by omega) rfl ?_
      have IH := ih (xup D1 141 k (xnum 0)) (by omega) (by omega) (fun j hj => by
        by_cases q : j = k
        · subst q; rw [xup_at, if_pos (by omega)]; rfl
        · rw [xup_o (by omega), hl j hj]
          by_cases q2 : k + 1 ≤ j ∧ j < S.M
          · rw [if_pos q2, if_pos (by omega)]
          · rw [if_neg q2, if_neg (by omega)]) (fun a ha => by rw [xup_ne a ha]; exact hs a ha)
      rw [← dec_nI, ek] at IH
      exact x_goto rfl rfl IH
theorem c_next_inc {l : Nat → Nat} {m : Nat} (hr : rM D 0 S) (ho : wok S) (hl : ∀ j, j < 4 → D 141 j = nI (l j)) (hlB : ∀ j, j < S.M → l j ≤ S.B) (hm : m < S.M) (hd : l m < S.B) (hB : ∀ j, m < j → j < S.M → l j = S.B) (hp : ∀ D', (∀ j, j < 4 → D' 141 j = nI (if j = m then l m + 1 else if m < j ∧ j < S.M then 0 else l j)) → (∀ a, a ≠ 141 → D' a = D a) → post (some 1) D') : xRuns Γ n hX9_nextLine [xR 0 9 111] D post := by
  have h4 := ho.2.1
  have h8 := ho.1
  refine x_runs kX9_nextLine (by decide +kernel) rfl ?_
  refine x_aldN (0 + 1) rfl rfl rfl (by omega) rfl ?_
  refine x_to 9 rfl ?_
  rw [hr.2.1]
  refine l_next (k0 := m + 1) hr ho hlB (by omega) (Or.inr (by rw [Nat.add_sub_cancel]; omega)) (fun j q1 q2 => hB j (by omega) q2) (fun D1 hl1 hs1 => ?_) S.M D (by omega) (Nat.le_refl _) (fun j hj => by rw [if_neg (by omega)]; exact hl j hj) (fun _ _ => rfl)
  have ek : nI (m + 1) - xnum 1 = nI m := nI_pred m
  rw [ek]
  refine x0_lt rfl rfl (fun h => absurd h (nI_pos (by omega))) (fun _ => ?_)
  refine x_aldN m rfl rfl rfl (by omega) rfl ?_
  refine x_astN m rfl rfl rfl (by omega) rfl ?_
  refine x0_lt rfl rfl (fun h => absurd h (nI_pos (by omega))) (fun _ => ?_)
  refine x_goto rfl rfl ?_
  refine x_ret rfl rfl rfl rfl ?_
  refine hp _ (fun j hj => ?_) (fun a ha => by rw [xup_ne a ha]; exact hs1 a ha)
  by_cases q : j = m
  · subst q
    rw [xup_at, if_pos rfl, hl1 j hj, if_neg (by omega)]
    exact nI_1 _
  · rw [xup_o (by omega), if_neg q, hl1 j hj]
    by_cases q2 : m + 1 ≤ j ∧ j < S.M
    · rw [if_pos q2, if_pos (by omega)]
    · rw [if_neg q2, if_neg (by omega)]
theorem c_next_end {l : Nat → Nat} (hr : rM D 0 S) (ho : wok S) (hl : ∀ j, j < 4 → D 141 j = nI (l j)) (hB : ∀ j, j < S.M → l j = S.B) (hp : ∀ D', (∀ a, a ≠ 141 → D' a = D a) → post (some 0) D') : xRuns Γ n hX9_nextLine [xR 0 9 111] D post := by
  have h4 := ho.2.1
  refine x_runs kX9_nextLine (by decide +kernel) rfl ?_
  refine x_aldN (0 + 1) rfl rfl rfl (by omega) rfl ?_
  refine x_to 9 rfl ?_
  rw [hr.2.1]
  refine l_next (k0 := 0) hr ho (fun j hj => by rw [hB j hj]; exact Nat.le_refl _) (by omega) (Or.inl rfl) (fun j q1 q2 => hB j q2) (fun D1 hl1 hs1 => ?_) S.M D (by omega) (Nat.le_refl _) (fun j hj => by rw [if_neg (by omega)]; exact hl j hj) (fun _ _ => rfl)
  refine x0_lt rfl rfl (fun _ => ?_) (fun h => absurd (by decide) h)
  refine x0_lt rfl rfl (fun _ => ?_) (fun h => absurd (by decide) h)
  exact x_ret rfl rfl rfl rfl (hp D1 hs1)
end B4
end
