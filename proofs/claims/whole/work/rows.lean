section
-- ===== PART A: goes FIRST, ahead of the names: the tables' words, and 'selects' of the private methods out of them =====
/-- a private method of a class that the tables say can be made, by its rows of tables_1 -/
def lw_okq (q : MethodName × Nat) : Prop := (q.1.cls ≠ "java/lang/invoke/MethodHandle" ∧ q.1.cls ≠ "java/lang/invoke/VarHandle") ∧ Cond.instantiable q.1.cls q.2 ∈ tables_1 ∧ Cond.privateMethod q.1 ∈ tables_1 ∧ Cond.instanceMethod q.1 ∈ tables_1
theorem lw_p0 : lw_okq (⟨"ParrotSpeech$HarbourReader", "readClause", "()Z"⟩, 3) := ⟨⟨by decide +kernel, by decide +kernel⟩, List.mem_of_getElem? (i := 52) (by decide +kernel), List.mem_of_getElem? (i := 323) (by decide +kernel), List.mem_of_getElem? (i := 324) (by decide +kernel)⟩
theorem lw_p1 : lw_okq (⟨"ParrotSpeech$HarbourReader", "kindNamed", "()I"⟩, 3) := ⟨⟨by decide +kernel, by decide +kernel⟩, List.mem_of_getElem? (i := 52) (by decide +kernel), List.mem_of_getElem? (i := 327) (by decide +kernel), List.mem_of_getElem? (i := 328) (by decide +kernel)⟩
theorem lw_p2 : lw_okq (⟨"ParrotSpeech$HarbourReader", "readBird", "(I)Z"⟩, 3) := ⟨⟨by decide +kernel, by decide +kernel⟩, List.mem_of_getElem? (i := 52) (by decide +kernel), List.mem_of_getElem? (i := 388) (by decide +kernel), List.mem_of_getElem? (i := 389) (by decide +kernel)⟩
theorem lw_p3 : lw_okq (⟨"ParrotSpeech$HarbourReader", "readNumber", "(I)I"⟩, 3) := ⟨⟨by decide +kernel, by decide +kernel⟩, List.mem_of_getElem? (i := 52) (by decide +kernel), List.mem_of_getElem? (i := 392) (by decide +kernel), List.mem_of_getElem? (i := 393) (by decide +kernel)⟩
theorem lw_p4 : lw_okq (⟨"ParrotSpeech$HarbourReader", "readMan", "()Z"⟩, 3) := ⟨⟨by decide +kernel, by decide +kernel⟩, List.mem_of_getElem? (i := 52) (by decide +kernel), List.mem_of_getElem? (i := 410) (by decide +kernel), List.mem_of_getElem? (i := 411) (by decide +kernel)⟩
theorem lw_p5 : lw_okq (⟨"ParrotSpeech$HarbourReader", "readKnows", "()Z"⟩, 3) := ⟨⟨by decide +kernel, by decide +kernel⟩, List.mem_of_getElem? (i := 52) (by decide +kernel), List.mem_of_getElem? (i := 426) (by decide +kernel), List.mem_of_getElem? (i := 427) (by decide +kernel)⟩
theorem lw_p6 : lw_okq (⟨"ParrotSpeech$HarbourReader", "readSits", "()Z"⟩, 3) := ⟨⟨by decide +kernel, by decide +kernel⟩, List.mem_of_getElem? (i := 52) (by decide +kernel), List.mem_of_getElem? (i := 435) (by decide +kernel), List.mem_of_getElem? (i := 436) (by decide +kernel)⟩
theorem lw_p7 : lw_okq (⟨"ParrotSpeech$HarbourReader", "readCover", "()Z"⟩, 3) := ⟨⟨by decide +kernel, by decide +kernel⟩, List.mem_of_getElem? (i := 52) (by decide +kernel), List.mem_of_getElem? (i := 449) (by decide +kernel), List.mem_of_getElem? (i := 450) (by decide +kernel)⟩
theorem lw_p8 : lw_okq (⟨"ParrotSpeech", "noBird", "(I)Z"⟩, 11) := ⟨⟨by decide +kernel, by decide +kernel⟩, List.mem_of_getElem? (i := 19) (by decide +kernel), List.mem_of_getElem? (i := 493) (by decide +kernel), List.mem_of_getElem? (i := 494) (by decide +kernel)⟩
theorem lw_p9 : lw_okq (⟨"ParrotSpeech", "noMan", "(I)Z"⟩, 11) := ⟨⟨by decide +kernel, by decide +kernel⟩, List.mem_of_getElem? (i := 19) (by decide +kernel), List.mem_of_getElem? (i := 514) (by decide +kernel), List.mem_of_getElem? (i := 515) (by decide +kernel)⟩
theorem lw_p10 : lw_okq (⟨"ParrotSpeech$World", "handOver", "(I)V"⟩, 9) := ⟨⟨by decide +kernel, by decide +kernel⟩, List.mem_of_getElem? (i := 58) (by decide +kernel), List.mem_of_getElem? (i := 529) (by decide +kernel), List.mem_of_getElem? (i := 530) (by decide +kernel)⟩
theorem lw_p11 : lw_okq (⟨"ParrotSpeech$World", "awakeOn", "(I)I"⟩, 9) := ⟨⟨by decide +kernel, by decide +kernel⟩, List.mem_of_getElem? (i := 58) (by decide +kernel), List.mem_of_getElem? (i := 548) (by decide +kernel), List.mem_of_getElem? (i := 549) (by decide +kernel)⟩
theorem lw_p12 : lw_okq (⟨"ParrotSpeech$World", "isSilenced", "(I)Z"⟩, 9) := ⟨⟨by decide +kernel, by decide +kernel⟩, List.mem_of_getElem? (i := 58) (by decide +kernel), List.mem_of_getElem? (i := 552) (by decide +kernel), List.mem_of_getElem? (i := 553) (by decide +kernel)⟩
theorem lw_p13 : lw_okq (⟨"ParrotSpeech$World", "speakOn", "(IILParrotSpeech$Speech;)V"⟩, 9) := ⟨⟨by decide +kernel, by decide +kernel⟩, List.mem_of_getElem? (i := 58) (by decide +kernel), List.mem_of_getElem? (i := 556) (by decide +kernel), List.mem_of_getElem? (i := 557) (by decide +kernel)⟩
theorem lw_p14 : lw_okq (⟨"ParrotSpeech$World", "speak", "(IIILParrotSpeech$Speech;)V"⟩, 9) := ⟨⟨by decide +kernel, by decide +kernel⟩, List.mem_of_getElem? (i := 58) (by decide +kernel), List.mem_of_getElem? (i := 560) (by decide +kernel), List.mem_of_getElem? (i := 561) (by decide +kernel)⟩
theorem lw_p15 : lw_okq (⟨"ParrotSpeech$World", "bestKnown", "(II)I"⟩, 9) := ⟨⟨by decide +kernel, by decide +kernel⟩, List.mem_of_getElem? (i := 58) (by decide +kernel), List.mem_of_getElem? (i := 566) (by decide +kernel), List.mem_of_getElem? (i := 567) (by decide +kernel)⟩
def lw_privs_1 : List (MethodName × Nat) := [(⟨"ParrotSpeech$HarbourReader", "readClause", "()Z"⟩, 3), (⟨"ParrotSpeech$HarbourReader", "kindNamed", "()I"⟩, 3), (⟨"ParrotSpeech$HarbourReader", "readBird", "(I)Z"⟩, 3), (⟨"ParrotSpeech$HarbourReader", "readNumber", "(I)I"⟩, 3), (⟨"ParrotSpeech$HarbourReader", "readMan", "()Z"⟩, 3), (⟨"ParrotSpeech$HarbourReader", "readKnows", "()Z"⟩, 3), (⟨"ParrotSpeech$HarbourReader", "readSits", "()Z"⟩, 3), (⟨"ParrotSpeech$HarbourReader", "readCover", "()Z"⟩, 3), (⟨"ParrotSpeech", "noBird", "(I)Z"⟩, 11), (⟨"ParrotSpeech", "noMan", "(I)Z"⟩, 11), (⟨"ParrotSpeech$World", "handOver", "(I)V"⟩, 9), (⟨"ParrotSpeech$World", "awakeOn", "(I)I"⟩, 9), (⟨"ParrotSpeech$World", "isSilenced", "(I)Z"⟩, 9), (⟨"ParrotSpeech$World", "speakOn", "(IILParrotSpeech$Speech;)V"⟩, 9), (⟨"ParrotSpeech$World", "speak", "(IIILParrotSpeech$Speech;)V"⟩, 9), (⟨"ParrotSpeech$World", "bestKnown", "(II)I"⟩, 9)]
theorem lw_r1 : ∀ q ∈ lw_privs_1, lw_okq q := List.forall_mem_cons.mpr ⟨lw_p0, List.forall_mem_cons.mpr ⟨lw_p1, List.forall_mem_cons.mpr ⟨lw_p2, List.forall_mem_cons.mpr ⟨lw_p3, List.forall_mem_cons.mpr ⟨lw_p4, List.forall_mem_cons.mpr ⟨lw_p5, List.forall_mem_cons.mpr ⟨lw_p6, List.forall_mem_cons.mpr ⟨lw_p7, List.forall_mem_cons.mpr ⟨lw_p8, List.forall_mem_cons.mpr ⟨lw_p9, List.forall_mem_cons.mpr ⟨lw_p10, List.forall_mem_cons.mpr ⟨lw_p11, List.forall_mem_cons.mpr ⟨lw_p12, List.forall_mem_cons.mpr ⟨lw_p13, List.forall_mem_cons.mpr ⟨lw_p14, List.forall_mem_cons.mpr ⟨lw_p15, fun _ h => absurd h List.not_mem_nil⟩⟩⟩⟩⟩⟩⟩⟩⟩⟩⟩⟩⟩⟩⟩⟩
theorem lw_p16 : lw_okq (⟨"ParrotSpeech$World", "spread", "(II)V"⟩, 9) := ⟨⟨by decide +kernel, by decide +kernel⟩, List.mem_of_getElem? (i := 58) (by decide +kernel), List.mem_of_getElem? (i := 574) (by decide +kernel), List.mem_of_getElem? (i := 575) (by decide +kernel)⟩
theorem lw_p17 : lw_okq (⟨"ParrotSpeech$World", "lose", "(I)V"⟩, 9) := ⟨⟨by decide +kernel, by decide +kernel⟩, List.mem_of_getElem? (i := 58) (by decide +kernel), List.mem_of_getElem? (i := 580) (by decide +kernel), List.mem_of_getElem? (i := 581) (by decide +kernel)⟩
theorem lw_p18 : lw_okq (⟨"ParrotSpeech", "foretellSpeech", "()V"⟩, 11) := ⟨⟨by decide +kernel, by decide +kernel⟩, List.mem_of_getElem? (i := 19) (by decide +kernel), List.mem_of_getElem? (i := 672) (by decide +kernel), List.mem_of_getElem? (i := 673) (by decide +kernel)⟩
theorem lw_p19 : lw_okq (⟨"ParrotSpeech", "keptWords", "(III)I"⟩, 11) := ⟨⟨by decide +kernel, by decide +kernel⟩, List.mem_of_getElem? (i := 19) (by decide +kernel), List.mem_of_getElem? (i := 688) (by decide +kernel), List.mem_of_getElem? (i := 689) (by decide +kernel)⟩
theorem lw_p20 : lw_okq (⟨"ParrotSpeech", "mostKept", "(II)I"⟩, 11) := ⟨⟨by decide +kernel, by decide +kernel⟩, List.mem_of_getElem? (i := 19) (by decide +kernel), List.mem_of_getElem? (i := 702) (by decide +kernel), List.mem_of_getElem? (i := 703) (by decide +kernel)⟩
theorem lw_p21 : lw_okq (⟨"ParrotSpeech", "matchOf", "(I)I"⟩, 11) := ⟨⟨by decide +kernel, by decide +kernel⟩, List.mem_of_getElem? (i := 19) (by decide +kernel), List.mem_of_getElem? (i := 707) (by decide +kernel), List.mem_of_getElem? (i := 708) (by decide +kernel)⟩
theorem lw_p22 : lw_okq (⟨"ParrotSpeech", "leastChoice", "(II)I"⟩, 11) := ⟨⟨by decide +kernel, by decide +kernel⟩, List.mem_of_getElem? (i := 19) (by decide +kernel), List.mem_of_getElem? (i := 711) (by decide +kernel), List.mem_of_getElem? (i := 712) (by decide +kernel)⟩
theorem lw_p23 : lw_okq (⟨"ParrotSpeech", "staysClean", "(IIII)Z"⟩, 11) := ⟨⟨by decide +kernel, by decide +kernel⟩, List.mem_of_getElem? (i := 19) (by decide +kernel), List.mem_of_getElem? (i := 723) (by decide +kernel), List.mem_of_getElem? (i := 724) (by decide +kernel)⟩
theorem lw_p24 : lw_okq (⟨"ParrotSpeech$Tongue", "sumEnds", "(IIII)I"⟩, 7) := ⟨⟨by decide +kernel, by decide +kernel⟩, List.mem_of_getElem? (i := 116) (by decide +kernel), List.mem_of_getElem? (i := 736) (by decide +kernel), List.mem_of_getElem? (i := 737) (by decide +kernel)⟩
theorem lw_p25 : lw_okq (⟨"ParrotSpeech$Tongue", "behindPart", "(I)I"⟩, 7) := ⟨⟨by decide +kernel, by decide +kernel⟩, List.mem_of_getElem? (i := 116) (by decide +kernel), List.mem_of_getElem? (i := 740) (by decide +kernel), List.mem_of_getElem? (i := 741) (by decide +kernel)⟩
theorem lw_p26 : lw_okq (⟨"ParrotSpeech$Tongue", "repeatedEnds", "(IIII)I"⟩, 7) := ⟨⟨by decide +kernel, by decide +kernel⟩, List.mem_of_getElem? (i := 116) (by decide +kernel), List.mem_of_getElem? (i := 745) (by decide +kernel), List.mem_of_getElem? (i := 746) (by decide +kernel)⟩
theorem lw_p27 : lw_okq (⟨"ParrotSpeech$Tongue", "partEnds", "(IIII)I"⟩, 7) := ⟨⟨by decide +kernel, by decide +kernel⟩, List.mem_of_getElem? (i := 116) (by decide +kernel), List.mem_of_getElem? (i := 749) (by decide +kernel), List.mem_of_getElem? (i := 750) (by decide +kernel)⟩
theorem lw_p28 : lw_okq (⟨"ParrotSpeech$Tongue", "wordEnds", "(II)I"⟩, 7) := ⟨⟨by decide +kernel, by decide +kernel⟩, List.mem_of_getElem? (i := 116) (by decide +kernel), List.mem_of_getElem? (i := 753) (by decide +kernel), List.mem_of_getElem? (i := 754) (by decide +kernel)⟩
theorem lw_p29 : lw_okq (⟨"ParrotSpeech", "reelsThere", "()I"⟩, 11) := ⟨⟨by decide +kernel, by decide +kernel⟩, List.mem_of_getElem? (i := 19) (by decide +kernel), List.mem_of_getElem? (i := 844) (by decide +kernel), List.mem_of_getElem? (i := 845) (by decide +kernel)⟩
theorem lw_p30 : lw_okq (⟨"ParrotSpeechModel", "reads", "(Z)Z"⟩, 42) := ⟨⟨by decide +kernel, by decide +kernel⟩, List.mem_of_getElem? (i := 853) (by decide +kernel), List.mem_of_getElem? (i := 1003) (by decide +kernel), List.mem_of_getElem? (i := 1004) (by decide +kernel)⟩
theorem lw_p31 : lw_okq (⟨"ParrotSpeechModel", "nextToken", "()V"⟩, 42) := ⟨⟨by decide +kernel, by decide +kernel⟩, List.mem_of_getElem? (i := 853) (by decide +kernel), List.mem_of_getElem? (i := 1007) (by decide +kernel), List.mem_of_getElem? (i := 1008) (by decide +kernel)⟩
def lw_privs_2 : List (MethodName × Nat) := [(⟨"ParrotSpeech$World", "spread", "(II)V"⟩, 9), (⟨"ParrotSpeech$World", "lose", "(I)V"⟩, 9), (⟨"ParrotSpeech", "foretellSpeech", "()V"⟩, 11), (⟨"ParrotSpeech", "keptWords", "(III)I"⟩, 11), (⟨"ParrotSpeech", "mostKept", "(II)I"⟩, 11), (⟨"ParrotSpeech", "matchOf", "(I)I"⟩, 11), (⟨"ParrotSpeech", "leastChoice", "(II)I"⟩, 11), (⟨"ParrotSpeech", "staysClean", "(IIII)Z"⟩, 11), (⟨"ParrotSpeech$Tongue", "sumEnds", "(IIII)I"⟩, 7), (⟨"ParrotSpeech$Tongue", "behindPart", "(I)I"⟩, 7), (⟨"ParrotSpeech$Tongue", "repeatedEnds", "(IIII)I"⟩, 7), (⟨"ParrotSpeech$Tongue", "partEnds", "(IIII)I"⟩, 7), (⟨"ParrotSpeech$Tongue", "wordEnds", "(II)I"⟩, 7), (⟨"ParrotSpeech", "reelsThere", "()I"⟩, 11), (⟨"ParrotSpeechModel", "reads", "(Z)Z"⟩, 42), (⟨"ParrotSpeechModel", "nextToken", "()V"⟩, 42)]
theorem lw_r2 : ∀ q ∈ lw_privs_2, lw_okq q := List.forall_mem_cons.mpr ⟨lw_p16, List.forall_mem_cons.mpr ⟨lw_p17, List.forall_mem_cons.mpr ⟨lw_p18, List.forall_mem_cons.mpr ⟨lw_p19, List.forall_mem_cons.mpr ⟨lw_p20, List.forall_mem_cons.mpr ⟨lw_p21, List.forall_mem_cons.mpr ⟨lw_p22, List.forall_mem_cons.mpr ⟨lw_p23, List.forall_mem_cons.mpr ⟨lw_p24, List.forall_mem_cons.mpr ⟨lw_p25, List.forall_mem_cons.mpr ⟨lw_p26, List.forall_mem_cons.mpr ⟨lw_p27, List.forall_mem_cons.mpr ⟨lw_p28, List.forall_mem_cons.mpr ⟨lw_p29, List.forall_mem_cons.mpr ⟨lw_p30, List.forall_mem_cons.mpr ⟨lw_p31, fun _ h => absurd h List.not_mem_nil⟩⟩⟩⟩⟩⟩⟩⟩⟩⟩⟩⟩⟩⟩⟩⟩
theorem lw_p32 : lw_okq (⟨"ParrotSpeechModel", "readsClause", "()Z"⟩, 42) := ⟨⟨by decide +kernel, by decide +kernel⟩, List.mem_of_getElem? (i := 853) (by decide +kernel), List.mem_of_getElem? (i := 1021) (by decide +kernel), List.mem_of_getElem? (i := 1022) (by decide +kernel)⟩
theorem lw_p33 : lw_okq (⟨"ParrotSpeechModel", "kindHere", "()I"⟩, 42) := ⟨⟨by decide +kernel, by decide +kernel⟩, List.mem_of_getElem? (i := 853) (by decide +kernel), List.mem_of_getElem? (i := 1025) (by decide +kernel), List.mem_of_getElem? (i := 1026) (by decide +kernel)⟩
theorem lw_p34 : lw_okq (⟨"ParrotSpeechModel", "isWord", "([I)Z"⟩, 42) := ⟨⟨by decide +kernel, by decide +kernel⟩, List.mem_of_getElem? (i := 853) (by decide +kernel), List.mem_of_getElem? (i := 1029) (by decide +kernel), List.mem_of_getElem? (i := 1030) (by decide +kernel)⟩
theorem lw_p35 : lw_okq (⟨"ParrotSpeechModel", "readsBird", "(I)Z"⟩, 42) := ⟨⟨by decide +kernel, by decide +kernel⟩, List.mem_of_getElem? (i := 853) (by decide +kernel), List.mem_of_getElem? (i := 1033) (by decide +kernel), List.mem_of_getElem? (i := 1034) (by decide +kernel)⟩
theorem lw_p36 : lw_okq (⟨"ParrotSpeechModel", "number", "(I)I"⟩, 42) := ⟨⟨by decide +kernel, by decide +kernel⟩, List.mem_of_getElem? (i := 853) (by decide +kernel), List.mem_of_getElem? (i := 1037) (by decide +kernel), List.mem_of_getElem? (i := 1038) (by decide +kernel)⟩
theorem lw_p37 : lw_okq (⟨"ParrotSpeechModel", "numberHere", "(I)I"⟩, 42) := ⟨⟨by decide +kernel, by decide +kernel⟩, List.mem_of_getElem? (i := 853) (by decide +kernel), List.mem_of_getElem? (i := 1041) (by decide +kernel), List.mem_of_getElem? (i := 1042) (by decide +kernel)⟩
theorem lw_p38 : lw_okq (⟨"ParrotSpeechModel", "readsMan", "()Z"⟩, 42) := ⟨⟨by decide +kernel, by decide +kernel⟩, List.mem_of_getElem? (i := 853) (by decide +kernel), List.mem_of_getElem? (i := 1045) (by decide +kernel), List.mem_of_getElem? (i := 1046) (by decide +kernel)⟩
theorem lw_p39 : lw_okq (⟨"ParrotSpeechModel", "words", "(I)I"⟩, 42) := ⟨⟨by decide +kernel, by decide +kernel⟩, List.mem_of_getElem? (i := 853) (by decide +kernel), List.mem_of_getElem? (i := 1049) (by decide +kernel), List.mem_of_getElem? (i := 1050) (by decide +kernel)⟩
theorem lw_p40 : lw_okq (⟨"ParrotSpeechModel", "readsHarbour", "()Z"⟩, 42) := ⟨⟨by decide +kernel, by decide +kernel⟩, List.mem_of_getElem? (i := 853) (by decide +kernel), List.mem_of_getElem? (i := 1053) (by decide +kernel), List.mem_of_getElem? (i := 1054) (by decide +kernel)⟩
theorem lw_p41 : lw_okq (⟨"ParrotSpeechModel", "readsKnows", "()Z"⟩, 42) := ⟨⟨by decide +kernel, by decide +kernel⟩, List.mem_of_getElem? (i := 853) (by decide +kernel), List.mem_of_getElem? (i := 1057) (by decide +kernel), List.mem_of_getElem? (i := 1058) (by decide +kernel)⟩
theorem lw_p42 : lw_okq (⟨"ParrotSpeechModel", "readsSits", "()Z"⟩, 42) := ⟨⟨by decide +kernel, by decide +kernel⟩, List.mem_of_getElem? (i := 853) (by decide +kernel), List.mem_of_getElem? (i := 1064) (by decide +kernel), List.mem_of_getElem? (i := 1065) (by decide +kernel)⟩
theorem lw_p43 : lw_okq (⟨"ParrotSpeechModel", "readsCover", "()Z"⟩, 42) := ⟨⟨by decide +kernel, by decide +kernel⟩, List.mem_of_getElem? (i := 853) (by decide +kernel), List.mem_of_getElem? (i := 1068) (by decide +kernel), List.mem_of_getElem? (i := 1069) (by decide +kernel)⟩
theorem lw_p44 : lw_okq (⟨"ParrotSpeechModel", "copyHarbour", "(II)V"⟩, 42) := ⟨⟨by decide +kernel, by decide +kernel⟩, List.mem_of_getElem? (i := 853) (by decide +kernel), List.mem_of_getElem? (i := 1072) (by decide +kernel), List.mem_of_getElem? (i := 1073) (by decide +kernel)⟩
theorem lw_p45 : lw_okq (⟨"ParrotSpeechModel", "tongueFault", "()I"⟩, 42) := ⟨⟨by decide +kernel, by decide +kernel⟩, List.mem_of_getElem? (i := 853) (by decide +kernel), List.mem_of_getElem? (i := 1080) (by decide +kernel), List.mem_of_getElem? (i := 1081) (by decide +kernel)⟩
theorem lw_p46 : lw_okq (⟨"ParrotSpeechModel", "layTongue", "()V"⟩, 42) := ⟨⟨by decide +kernel, by decide +kernel⟩, List.mem_of_getElem? (i := 853) (by decide +kernel), List.mem_of_getElem? (i := 1089) (by decide +kernel), List.mem_of_getElem? (i := 1090) (by decide +kernel)⟩
theorem lw_p47 : lw_okq (⟨"ParrotSpeechModel", "isBird", "(I)Z"⟩, 42) := ⟨⟨by decide +kernel, by decide +kernel⟩, List.mem_of_getElem? (i := 853) (by decide +kernel), List.mem_of_getElem? (i := 1097) (by decide +kernel), List.mem_of_getElem? (i := 1098) (by decide +kernel)⟩
def lw_privs_3 : List (MethodName × Nat) := [(⟨"ParrotSpeechModel", "readsClause", "()Z"⟩, 42), (⟨"ParrotSpeechModel", "kindHere", "()I"⟩, 42), (⟨"ParrotSpeechModel", "isWord", "([I)Z"⟩, 42), (⟨"ParrotSpeechModel", "readsBird", "(I)Z"⟩, 42), (⟨"ParrotSpeechModel", "number", "(I)I"⟩, 42), (⟨"ParrotSpeechModel", "numberHere", "(I)I"⟩, 42), (⟨"ParrotSpeechModel", "readsMan", "()Z"⟩, 42), (⟨"ParrotSpeechModel", "words", "(I)I"⟩, 42), (⟨"ParrotSpeechModel", "readsHarbour", "()Z"⟩, 42), (⟨"ParrotSpeechModel", "readsKnows", "()Z"⟩, 42), (⟨"ParrotSpeechModel", "readsSits", "()Z"⟩, 42), (⟨"ParrotSpeechModel", "readsCover", "()Z"⟩, 42), (⟨"ParrotSpeechModel", "copyHarbour", "(II)V"⟩, 42), (⟨"ParrotSpeechModel", "tongueFault", "()I"⟩, 42), (⟨"ParrotSpeechModel", "layTongue", "()V"⟩, 42), (⟨"ParrotSpeechModel", "isBird", "(I)Z"⟩, 42)]
theorem lw_r3 : ∀ q ∈ lw_privs_3, lw_okq q := List.forall_mem_cons.mpr ⟨lw_p32, List.forall_mem_cons.mpr ⟨lw_p33, List.forall_mem_cons.mpr ⟨lw_p34, List.forall_mem_cons.mpr ⟨lw_p35, List.forall_mem_cons.mpr ⟨lw_p36, List.forall_mem_cons.mpr ⟨lw_p37, List.forall_mem_cons.mpr ⟨lw_p38, List.forall_mem_cons.mpr ⟨lw_p39, List.forall_mem_cons.mpr ⟨lw_p40, List.forall_mem_cons.mpr ⟨lw_p41, List.forall_mem_cons.mpr ⟨lw_p42, List.forall_mem_cons.mpr ⟨lw_p43, List.forall_mem_cons.mpr ⟨lw_p44, List.forall_mem_cons.mpr ⟨lw_p45, List.forall_mem_cons.mpr ⟨lw_p46, List.forall_mem_cons.mpr ⟨lw_p47, fun _ h => absurd h List.not_mem_nil⟩⟩⟩⟩⟩⟩⟩⟩⟩⟩⟩⟩⟩⟩⟩⟩
theorem lw_p48 : lw_okq (⟨"ParrotSpeechModel", "manOf", "(II)I"⟩, 42) := ⟨⟨by decide +kernel, by decide +kernel⟩, List.mem_of_getElem? (i := 853) (by decide +kernel), List.mem_of_getElem? (i := 1101) (by decide +kernel), List.mem_of_getElem? (i := 1102) (by decide +kernel)⟩
theorem lw_p49 : lw_okq (⟨"ParrotSpeechModel", "wellKnown", "(II)I"⟩, 42) := ⟨⟨by decide +kernel, by decide +kernel⟩, List.mem_of_getElem? (i := 853) (by decide +kernel), List.mem_of_getElem? (i := 1105) (by decide +kernel), List.mem_of_getElem? (i := 1106) (by decide +kernel)⟩
theorem lw_p50 : lw_okq (⟨"ParrotSpeechModel", "isMan", "(I)Z"⟩, 42) := ⟨⟨by decide +kernel, by decide +kernel⟩, List.mem_of_getElem? (i := 853) (by decide +kernel), List.mem_of_getElem? (i := 1113) (by decide +kernel), List.mem_of_getElem? (i := 1114) (by decide +kernel)⟩
theorem lw_p51 : lw_okq (⟨"ParrotSpeechModel", "layTried", "()V"⟩, 42) := ⟨⟨by decide +kernel, by decide +kernel⟩, List.mem_of_getElem? (i := 853) (by decide +kernel), List.mem_of_getElem? (i := 1134) (by decide +kernel), List.mem_of_getElem? (i := 1135) (by decide +kernel)⟩
theorem lw_p52 : lw_okq (⟨"ParrotSpeechModel", "passTried", "(I)V"⟩, 42) := ⟨⟨by decide +kernel, by decide +kernel⟩, List.mem_of_getElem? (i := 853) (by decide +kernel), List.mem_of_getElem? (i := 1138) (by decide +kernel), List.mem_of_getElem? (i := 1139) (by decide +kernel)⟩
theorem lw_p53 : lw_okq (⟨"ParrotSpeechModel", "passes", "(I)V"⟩, 42) := ⟨⟨by decide +kernel, by decide +kernel⟩, List.mem_of_getElem? (i := 853) (by decide +kernel), List.mem_of_getElem? (i := 1142) (by decide +kernel), List.mem_of_getElem? (i := 1143) (by decide +kernel)⟩
theorem lw_p54 : lw_okq (⟨"ParrotSpeechModel", "handOver", "(I)V"⟩, 42) := ⟨⟨by decide +kernel, by decide +kernel⟩, List.mem_of_getElem? (i := 853) (by decide +kernel), List.mem_of_getElem? (i := 1146) (by decide +kernel), List.mem_of_getElem? (i := 1147) (by decide +kernel)⟩
theorem lw_p55 : lw_okq (⟨"ParrotSpeechModel", "isOpen", "(II)Z"⟩, 42) := ⟨⟨by decide +kernel, by decide +kernel⟩, List.mem_of_getElem? (i := 853) (by decide +kernel), List.mem_of_getElem? (i := 1150) (by decide +kernel), List.mem_of_getElem? (i := 1151) (by decide +kernel)⟩
theorem lw_p56 : lw_okq (⟨"ParrotSpeechModel", "learns", "(IIII)V"⟩, 42) := ⟨⟨by decide +kernel, by decide +kernel⟩, List.mem_of_getElem? (i := 853) (by decide +kernel), List.mem_of_getElem? (i := 1154) (by decide +kernel), List.mem_of_getElem? (i := 1155) (by decide +kernel)⟩
theorem lw_p57 : lw_okq (⟨"ParrotSpeechModel", "isSilent", "(II)Z"⟩, 42) := ⟨⟨by decide +kernel, by decide +kernel⟩, List.mem_of_getElem? (i := 853) (by decide +kernel), List.mem_of_getElem? (i := 1158) (by decide +kernel), List.mem_of_getElem? (i := 1159) (by decide +kernel)⟩
theorem lw_p58 : lw_okq (⟨"ParrotSpeechModel", "speak", "(II)V"⟩, 42) := ⟨⟨by decide +kernel, by decide +kernel⟩, List.mem_of_getElem? (i := 853) (by decide +kernel), List.mem_of_getElem? (i := 1162) (by decide +kernel), List.mem_of_getElem? (i := 1163) (by decide +kernel)⟩
theorem lw_p59 : lw_okq (⟨"ParrotSpeechModel", "bestWord", "(III)I"⟩, 42) := ⟨⟨by decide +kernel, by decide +kernel⟩, List.mem_of_getElem? (i := 853) (by decide +kernel), List.mem_of_getElem? (i := 1166) (by decide +kernel), List.mem_of_getElem? (i := 1167) (by decide +kernel)⟩
theorem lw_p60 : lw_okq (⟨"ParrotSpeechModel", "say", "(IIII)V"⟩, 42) := ⟨⟨by decide +kernel, by decide +kernel⟩, List.mem_of_getElem? (i := 853) (by decide +kernel), List.mem_of_getElem? (i := 1173) (by decide +kernel), List.mem_of_getElem? (i := 1174) (by decide +kernel)⟩
theorem lw_p61 : lw_okq (⟨"ParrotSpeechModel", "lose", "(I)V"⟩, 42) := ⟨⟨by decide +kernel, by decide +kernel⟩, List.mem_of_getElem? (i := 853) (by decide +kernel), List.mem_of_getElem? (i := 1180) (by decide +kernel), List.mem_of_getElem? (i := 1181) (by decide +kernel)⟩
theorem lw_p62 : lw_okq (⟨"ParrotSpeechModel", "keepPast", "()V"⟩, 42) := ⟨⟨by decide +kernel, by decide +kernel⟩, List.mem_of_getElem? (i := 853) (by decide +kernel), List.mem_of_getElem? (i := 1193) (by decide +kernel), List.mem_of_getElem? (i := 1194) (by decide +kernel)⟩
theorem lw_p63 : lw_okq (⟨"ParrotSpeechModel", "sets", "(III)V"⟩, 42) := ⟨⟨by decide +kernel, by decide +kernel⟩, List.mem_of_getElem? (i := 853) (by decide +kernel), List.mem_of_getElem? (i := 1218) (by decide +kernel), List.mem_of_getElem? (i := 1219) (by decide +kernel)⟩
def lw_privs_4 : List (MethodName × Nat) := [(⟨"ParrotSpeechModel", "manOf", "(II)I"⟩, 42), (⟨"ParrotSpeechModel", "wellKnown", "(II)I"⟩, 42), (⟨"ParrotSpeechModel", "isMan", "(I)Z"⟩, 42), (⟨"ParrotSpeechModel", "layTried", "()V"⟩, 42), (⟨"ParrotSpeechModel", "passTried", "(I)V"⟩, 42), (⟨"ParrotSpeechModel", "passes", "(I)V"⟩, 42), (⟨"ParrotSpeechModel", "handOver", "(I)V"⟩, 42), (⟨"ParrotSpeechModel", "isOpen", "(II)Z"⟩, 42), (⟨"ParrotSpeechModel", "learns", "(IIII)V"⟩, 42), (⟨"ParrotSpeechModel", "isSilent", "(II)Z"⟩, 42), (⟨"ParrotSpeechModel", "speak", "(II)V"⟩, 42), (⟨"ParrotSpeechModel", "bestWord", "(III)I"⟩, 42), (⟨"ParrotSpeechModel", "say", "(IIII)V"⟩, 42), (⟨"ParrotSpeechModel", "lose", "(I)V"⟩, 42), (⟨"ParrotSpeechModel", "keepPast", "()V"⟩, 42), (⟨"ParrotSpeechModel", "sets", "(III)V"⟩, 42)]
theorem lw_r4 : ∀ q ∈ lw_privs_4, lw_okq q := List.forall_mem_cons.mpr ⟨lw_p48, List.forall_mem_cons.mpr ⟨lw_p49, List.forall_mem_cons.mpr ⟨lw_p50, List.forall_mem_cons.mpr ⟨lw_p51, List.forall_mem_cons.mpr ⟨lw_p52, List.forall_mem_cons.mpr ⟨lw_p53, List.forall_mem_cons.mpr ⟨lw_p54, List.forall_mem_cons.mpr ⟨lw_p55, List.forall_mem_cons.mpr ⟨lw_p56, List.forall_mem_cons.mpr ⟨lw_p57, List.forall_mem_cons.mpr ⟨lw_p58, List.forall_mem_cons.mpr ⟨lw_p59, List.forall_mem_cons.mpr ⟨lw_p60, List.forall_mem_cons.mpr ⟨lw_p61, List.forall_mem_cons.mpr ⟨lw_p62, List.forall_mem_cons.mpr ⟨lw_p63, fun _ h => absurd h List.not_mem_nil⟩⟩⟩⟩⟩⟩⟩⟩⟩⟩⟩⟩⟩⟩⟩⟩
theorem lw_p64 : lw_okq (⟨"ParrotSpeechModel", "saidAt", "(II)I"⟩, 42) := ⟨⟨by decide +kernel, by decide +kernel⟩, List.mem_of_getElem? (i := 853) (by decide +kernel), List.mem_of_getElem? (i := 1239) (by decide +kernel), List.mem_of_getElem? (i := 1240) (by decide +kernel)⟩
theorem lw_p65 : lw_okq (⟨"ParrotSpeechModel", "keptBy", "(III)I"⟩, 42) := ⟨⟨by decide +kernel, by decide +kernel⟩, List.mem_of_getElem? (i := 853) (by decide +kernel), List.mem_of_getElem? (i := 1252) (by decide +kernel), List.mem_of_getElem? (i := 1253) (by decide +kernel)⟩
theorem lw_p66 : lw_okq (⟨"ParrotSpeechModel", "keptByLine", "()I"⟩, 42) := ⟨⟨by decide +kernel, by decide +kernel⟩, List.mem_of_getElem? (i := 853) (by decide +kernel), List.mem_of_getElem? (i := 1263) (by decide +kernel), List.mem_of_getElem? (i := 1264) (by decide +kernel)⟩
theorem lw_p67 : lw_okq (⟨"ParrotSpeechModel", "nextLine", "()Z"⟩, 42) := ⟨⟨by decide +kernel, by decide +kernel⟩, List.mem_of_getElem? (i := 853) (by decide +kernel), List.mem_of_getElem? (i := 1267) (by decide +kernel), List.mem_of_getElem? (i := 1268) (by decide +kernel)⟩
theorem lw_p68 : lw_okq (⟨"ParrotSpeechModel", "goOnAll", "()V"⟩, 42) := ⟨⟨by decide +kernel, by decide +kernel⟩, List.mem_of_getElem? (i := 853) (by decide +kernel), List.mem_of_getElem? (i := 1279) (by decide +kernel), List.mem_of_getElem? (i := 1280) (by decide +kernel)⟩
theorem lw_p69 : lw_okq (⟨"ParrotSpeechModel", "goesOn", "(I)Z"⟩, 42) := ⟨⟨by decide +kernel, by decide +kernel⟩, List.mem_of_getElem? (i := 853) (by decide +kernel), List.mem_of_getElem? (i := 1283) (by decide +kernel), List.mem_of_getElem? (i := 1284) (by decide +kernel)⟩
theorem lw_p70 : lw_okq (⟨"ParrotSpeechModel", "mark", "(I)Z"⟩, 42) := ⟨⟨by decide +kernel, by decide +kernel⟩, List.mem_of_getElem? (i := 853) (by decide +kernel), List.mem_of_getElem? (i := 1287) (by decide +kernel), List.mem_of_getElem? (i := 1288) (by decide +kernel)⟩
theorem lw_p71 : lw_okq (⟨"ParrotSpeechModel", "hearWord", "(I)V"⟩, 42) := ⟨⟨by decide +kernel, by decide +kernel⟩, List.mem_of_getElem? (i := 853) (by decide +kernel), List.mem_of_getElem? (i := 1291) (by decide +kernel), List.mem_of_getElem? (i := 1292) (by decide +kernel)⟩
theorem lw_p72 : lw_okq (⟨"ParrotSpeechModel", "noPlace", "(III)I"⟩, 42) := ⟨⟨by decide +kernel, by decide +kernel⟩, List.mem_of_getElem? (i := 853) (by decide +kernel), List.mem_of_getElem? (i := 1324) (by decide +kernel), List.mem_of_getElem? (i := 1325) (by decide +kernel)⟩
theorem lw_p73 : lw_okq (⟨"ParrotSpeechModel", "isSpan", "(III)Z"⟩, 42) := ⟨⟨by decide +kernel, by decide +kernel⟩, List.mem_of_getElem? (i := 853) (by decide +kernel), List.mem_of_getElem? (i := 1339) (by decide +kernel), List.mem_of_getElem? (i := 1340) (by decide +kernel)⟩
theorem lw_p74 : lw_okq (⟨"ParrotSpeechModel", "menWords", "()I"⟩, 42) := ⟨⟨by decide +kernel, by decide +kernel⟩, List.mem_of_getElem? (i := 853) (by decide +kernel), List.mem_of_getElem? (i := 1351) (by decide +kernel), List.mem_of_getElem? (i := 1352) (by decide +kernel)⟩
theorem lw_p75 : lw_okq (⟨"ParrotSpeechModel", "reelsThere", "()I"⟩, 42) := ⟨⟨by decide +kernel, by decide +kernel⟩, List.mem_of_getElem? (i := 853) (by decide +kernel), List.mem_of_getElem? (i := 1355) (by decide +kernel), List.mem_of_getElem? (i := 1356) (by decide +kernel)⟩
theorem lw_p76 : lw_okq (⟨"ParrotSpeechModel", "allWellKnown", "()I"⟩, 42) := ⟨⟨by decide +kernel, by decide +kernel⟩, List.mem_of_getElem? (i := 853) (by decide +kernel), List.mem_of_getElem? (i := 1359) (by decide +kernel), List.mem_of_getElem? (i := 1360) (by decide +kernel)⟩
def lw_privs_5 : List (MethodName × Nat) := [(⟨"ParrotSpeechModel", "saidAt", "(II)I"⟩, 42), (⟨"ParrotSpeechModel", "keptBy", "(III)I"⟩, 42), (⟨"ParrotSpeechModel", "keptByLine", "()I"⟩, 42), (⟨"ParrotSpeechModel", "nextLine", "()Z"⟩, 42), (⟨"ParrotSpeechModel", "goOnAll", "()V"⟩, 42), (⟨"ParrotSpeechModel", "goesOn", "(I)Z"⟩, 42), (⟨"ParrotSpeechModel", "mark", "(I)Z"⟩, 42), (⟨"ParrotSpeechModel", "hearWord", "(I)V"⟩, 42), (⟨"ParrotSpeechModel", "noPlace", "(III)I"⟩, 42), (⟨"ParrotSpeechModel", "isSpan", "(III)Z"⟩, 42), (⟨"ParrotSpeechModel", "menWords", "()I"⟩, 42), (⟨"ParrotSpeechModel", "reelsThere", "()I"⟩, 42), (⟨"ParrotSpeechModel", "allWellKnown", "()I"⟩, 42)]
theorem lw_r5 : ∀ q ∈ lw_privs_5, lw_okq q := List.forall_mem_cons.mpr ⟨lw_p64, List.forall_mem_cons.mpr ⟨lw_p65, List.forall_mem_cons.mpr ⟨lw_p66, List.forall_mem_cons.mpr ⟨lw_p67, List.forall_mem_cons.mpr ⟨lw_p68, List.forall_mem_cons.mpr ⟨lw_p69, List.forall_mem_cons.mpr ⟨lw_p70, List.forall_mem_cons.mpr ⟨lw_p71, List.forall_mem_cons.mpr ⟨lw_p72, List.forall_mem_cons.mpr ⟨lw_p73, List.forall_mem_cons.mpr ⟨lw_p74, List.forall_mem_cons.mpr ⟨lw_p75, List.forall_mem_cons.mpr ⟨lw_p76, fun _ h => absurd h List.not_mem_nil⟩⟩⟩⟩⟩⟩⟩⟩⟩⟩⟩⟩⟩
def lw_privs : List (MethodName × Nat) := lw_privs_1 ++ (lw_privs_2 ++ (lw_privs_3 ++ (lw_privs_4 ++ (lw_privs_5))))
def lw_tbl : List Cond := k2_sels lw_privs ++ tables_1
theorem lw_privs_ok : ∀ q ∈ lw_privs, lw_okq q := by
  show ∀ q ∈ lw_privs_1 ++ (lw_privs_2 ++ (lw_privs_3 ++ (lw_privs_4 ++ (lw_privs_5)))), lw_okq q
  exact List.forall_mem_append.mpr ⟨lw_r1, List.forall_mem_append.mpr ⟨lw_r2, List.forall_mem_append.mpr ⟨lw_r3, List.forall_mem_append.mpr ⟨lw_r4, lw_r5⟩⟩⟩⟩
def RX0 : String := "ParrotSpeech$HarbourReader"
def TX0 : u_T := fun k => match k with
  | 0 => ("ParrotSpeech$HarbourReader", "text", "LParrotSpeech$Text;", true)
  | 1 => ("ParrotSpeech$HarbourReader", "world", "LParrotSpeech$World;", true)
  | _ => ("ParrotSpeech$HarbourReader", "clauses", "I", false)
def tyX0 : Nat → FieldType := fun k => match k with
  | 0 => .object "ParrotSpeech$Text"
  | 1 => .object "ParrotSpeech$World"
  | _ => .int
abbrev wsX00 : List Cond := u_ws RX0 TX0 3
theorem nmX0 : ∀ a, a < 3 → ∀ b, b < 3 → a ≠ b → (TX0 a).2.1 ≠ (TX0 b).2.1 := by decide +kernel
theorem tyX0_ok : ∀ k, k < 3 → parseFieldDescriptor (TX0 k).2.2.1 = some (tyX0 k) := by decide +kernel
abbrev cX0_init : ByteArray := prog_2_method_1_code
def yX0_init : MethodName := ⟨RX0, "<init>", "(LParrotSpeech$Text;)V"⟩
abbrev cX0_readOver : ByteArray := prog_2_method_2_code
def yX0_readOver : MethodName := ⟨RX0, "readOver", "(LParrotSpeech$World;)I"⟩
abbrev cX0_readClause : ByteArray := prog_2_method_3_code
def yX0_readClause : MethodName := ⟨RX0, "readClause", "()Z"⟩
abbrev cX0_kindNamed : ByteArray := prog_2_method_4_code
def yX0_kindNamed : MethodName := ⟨RX0, "kindNamed", "()I"⟩
abbrev cX0_readBird : ByteArray := prog_2_method_5_code
def yX0_readBird : MethodName := ⟨RX0, "readBird", "(I)Z"⟩
abbrev cX0_readMan : ByteArray := prog_2_method_6_code
def yX0_readMan : MethodName := ⟨RX0, "readMan", "()Z"⟩
abbrev cX0_readKnows : ByteArray := prog_2_method_7_code
def yX0_readKnows : MethodName := ⟨RX0, "readKnows", "()Z"⟩
abbrev cX0_readSits : ByteArray := prog_2_method_8_code
def yX0_readSits : MethodName := ⟨RX0, "readSits", "()Z"⟩
abbrev cX0_readCover : ByteArray := prog_2_method_9_code
def yX0_readCover : MethodName := ⟨RX0, "readCover", "()Z"⟩
abbrev cX0_readNumber : ByteArray := prog_2_method_10_code
def yX0_readNumber : MethodName := ⟨RX0, "readNumber", "(I)I"⟩
def RX1 : String := "ParrotSpeech$History"
def TX1 : u_T := fun k => match k with
  | 0 => ("ParrotSpeech$History", "before", "[LParrotSpeech$World;", true)
  | 1 => ("ParrotSpeech$History", "kept", "[LParrotSpeech$World;", true)
  | 2 => ("ParrotSpeech$History", "next", "I", false)
  | 3 => ("ParrotSpeech$History", "storedBits", "I", false)
  | _ => ("ParrotSpeech$History", "size", "I", false)
def tyX1 : Nat → FieldType := fun k => match k with
  | 0 => .array (.object "ParrotSpeech$World")
  | 1 => .array (.object "ParrotSpeech$World")
  | 2 => .int
  | 3 => .int
  | _ => .int
abbrev wsX10 : List Cond := u_ws RX1 TX1 5
theorem nmX1 : ∀ a, a < 5 → ∀ b, b < 5 → a ≠ b → (TX1 a).2.1 ≠ (TX1 b).2.1 := by decide +kernel
theorem tyX1_ok : ∀ k, k < 5 → parseFieldDescriptor (TX1 k).2.2.1 = some (tyX1 k) := by decide +kernel
abbrev cX1_init : ByteArray := prog_3_method_1_code
def yX1_init : MethodName := ⟨RX1, "<init>", "()V"⟩
abbrev cX1_clear : ByteArray := prog_3_method_2_code
def yX1_clear : MethodName := ⟨RX1, "clear", "()V"⟩
abbrev cX1_remember : ByteArray := prog_3_method_3_code
def yX1_remember : MethodName := ⟨RX1, "remember", "(LParrotSpeech$World;)V"⟩
abbrev cX1_takeBack : ByteArray := prog_3_method_4_code
def yX1_takeBack : MethodName := ⟨RX1, "takeBack", "(LParrotSpeech$World;)V"⟩
abbrev cX1_store : ByteArray := prog_3_method_5_code
def yX1_store : MethodName := ⟨RX1, "store", "(ILParrotSpeech$World;)V"⟩
abbrev cX1_isStored : ByteArray := prog_3_method_6_code
def yX1_isStored : MethodName := ⟨RX1, "isStored", "(I)Z"⟩
abbrev cX1_restore : ByteArray := prog_3_method_7_code
def yX1_restore : MethodName := ⟨RX1, "restore", "(ILParrotSpeech$World;)V"⟩
def RX2 : String := "ParrotSpeech$Reel"
def TX2 : u_T := fun k => match k with
  | 0 => ("ParrotSpeech$Reel", "places", "[I", true)
  | 1 => ("ParrotSpeech$Reel", "there", "Z", false)
  | 2 => ("ParrotSpeech$Reel", "sort", "I", false)
  | _ => ("ParrotSpeech$Reel", "length", "I", false)
def tyX2 : Nat → FieldType := fun k => match k with
  | 0 => .array .int
  | 1 => .boolean
  | 2 => .int
  | _ => .int
abbrev wsX20 : List Cond := u_ws RX2 TX2 4
theorem nmX2 : ∀ a, a < 4 → ∀ b, b < 4 → a ≠ b → (TX2 a).2.1 ≠ (TX2 b).2.1 := by decide +kernel
theorem tyX2_ok : ∀ k, k < 4 → parseFieldDescriptor (TX2 k).2.2.1 = some (tyX2 k) := by decide +kernel
abbrev cX2_init : ByteArray := prog_4_method_1_code
def yX2_init : MethodName := ⟨RX2, "<init>", "()V"⟩
abbrev cX2_wind : ByteArray := prog_4_method_2_code
def yX2_wind : MethodName := ⟨RX2, "wind", "(II)V"⟩
abbrev cX2_find : ByteArray := prog_4_method_3_code
def yX2_find : MethodName := ⟨RX2, "find", "(II)I"⟩
abbrev cX2_holds : ByteArray := prog_4_method_4_code
def yX2_holds : MethodName := ⟨RX2, "holds", "(II)Z"⟩
abbrev cX2_put : ByteArray := prog_4_method_5_code
def yX2_put : MethodName := ⟨RX2, "put", "(II)I"⟩
abbrev cX2_sound : ByteArray := prog_4_method_6_code
def yX2_sound : MethodName := ⟨RX2, "sound", "(I)I"⟩
def RX3 : String := "ParrotSpeech$Sightings"
def TX3 : u_T := fun k => match k with
  | 0 => ("ParrotSpeech$Sightings", "perches", "[I", true)
  | 1 => ("ParrotSpeech$Sightings", "turns", "[I", true)
  | 2 => ("ParrotSpeech$Sightings", "words", "[I", true)
  | _ => ("ParrotSpeech$Sightings", "size", "I", false)
def tyX3 : Nat → FieldType := fun k => match k with
  | 0 => .array .int
  | 1 => .array .int
  | 2 => .array .int
  | _ => .int
abbrev wsX30 : List Cond := u_ws RX3 TX3 4
theorem nmX3 : ∀ a, a < 4 → ∀ b, b < 4 → a ≠ b → (TX3 a).2.1 ≠ (TX3 b).2.1 := by decide +kernel
theorem tyX3_ok : ∀ k, k < 4 → parseFieldDescriptor (TX3 k).2.2.1 = some (tyX3 k) := by decide +kernel
abbrev cX3_init : ByteArray := prog_5_method_1_code
def yX3_init : MethodName := ⟨RX3, "<init>", "()V"⟩
abbrev cX3_clear : ByteArray := prog_5_method_2_code
def yX3_clear : MethodName := ⟨RX3, "clear", "()V"⟩
abbrev cX3_add : ByteArray := prog_5_method_3_code
def yX3_add : MethodName := ⟨RX3, "add", "(III)V"⟩
abbrev cX3_agreeWith : ByteArray := prog_5_method_4_code
def yX3_agreeWith : MethodName := ⟨RX3, "agreeWith", "(LParrotSpeech$Speech;)Z"⟩
def RX4 : String := "ParrotSpeech$Speech"
def TX4 : u_T := fun k => match k with
  | 0 => ("ParrotSpeech$Speech", "words", "[I", true)
  | _ => ("ParrotSpeech$Speech", "count", "[I", true)
def tyX4 : Nat → FieldType := fun k => match k with
  | 0 => .array .int
  | _ => .array .int
abbrev wsX40 : List Cond := u_ws RX4 TX4 2
theorem nmX4 : ∀ a, a < 2 → ∀ b, b < 2 → a ≠ b → (TX4 a).2.1 ≠ (TX4 b).2.1 := by decide +kernel
theorem tyX4_ok : ∀ k, k < 2 → parseFieldDescriptor (TX4 k).2.2.1 = some (tyX4 k) := by decide +kernel
abbrev cX4_init : ByteArray := prog_6_method_1_code
def yX4_init : MethodName := ⟨RX4, "<init>", "()V"⟩
abbrev cX4_clear : ByteArray := prog_6_method_2_code
def yX4_clear : MethodName := ⟨RX4, "clear", "()V"⟩
abbrev cX4_add : ByteArray := prog_6_method_3_code
def yX4_add : MethodName := ⟨RX4, "add", "(II)V"⟩
abbrev cX4_wordAt : ByteArray := prog_6_method_4_code
def yX4_wordAt : MethodName := ⟨RX4, "wordAt", "(II)I"⟩
def RX5 : String := "ParrotSpeech$Text"
def TX5 : u_T := fun k => match k with
  | 0 => ("ParrotSpeech$Text", "letters", "[I", true)
  | 1 => ("ParrotSpeech$Text", "length", "I", false)
  | 2 => ("ParrotSpeech$Text", "place", "I", false)
  | _ => ("ParrotSpeech$Text", "behind", "I", false)
def tyX5 : Nat → FieldType := fun k => match k with
  | 0 => .array .int
  | 1 => .int
  | 2 => .int
  | _ => .int
abbrev wsX50 : List Cond := u_ws RX5 TX5 4
theorem nmX5 : ∀ a, a < 4 → ∀ b, b < 4 → a ≠ b → (TX5 a).2.1 ≠ (TX5 b).2.1 := by decide +kernel
theorem tyX5_ok : ∀ k, k < 4 → parseFieldDescriptor (TX5 k).2.2.1 = some (tyX5 k) := by decide +kernel
abbrev cX5_init : ByteArray := prog_7_method_1_code
def yX5_init : MethodName := ⟨RX5, "<init>", "()V"⟩
abbrev cX5_add : ByteArray := prog_7_method_2_code
def yX5_add : MethodName := ⟨RX5, "add", "(I)V"⟩
abbrev cX5_clear : ByteArray := prog_7_method_3_code
def yX5_clear : MethodName := ⟨RX5, "clear", "()V"⟩
abbrev cX5_begin : ByteArray := prog_7_method_4_code
def yX5_begin : MethodName := ⟨RX5, "begin", "()V"⟩
abbrev cX5_readToken : ByteArray := prog_7_method_5_code
def yX5_readToken : MethodName := ⟨RX5, "readToken", "()V"⟩
abbrev cX5_readLetter : ByteArray := prog_7_method_6_code
def yX5_readLetter : MethodName := ⟨RX5, "readLetter", "()V"⟩
abbrev cX5_isOver : ByteArray := prog_7_method_7_code
def yX5_isOver : MethodName := ⟨RX5, "isOver", "()Z"⟩
abbrev cX5_isSign : ByteArray := prog_7_method_8_code
def yX5_isSign : MethodName := ⟨RX5, "isSign", "(C)Z"⟩
abbrev cX5_isRow : ByteArray := prog_7_method_9_code
def yX5_isRow : MethodName := ⟨RX5, "isRow", "(Ljava/lang/String;)Z"⟩
abbrev cX5_numberBelow : ByteArray := prog_7_method_10_code
def yX5_numberBelow : MethodName := ⟨RX5, "numberBelow", "(I)I"⟩
abbrev cX5_oneWord : ByteArray := prog_7_method_11_code
def yX5_oneWord : MethodName := ⟨RX5, "oneWord", "()I"⟩
abbrev cX5_risingWords : ByteArray := prog_7_method_12_code
def yX5_risingWords : MethodName := ⟨RX5, "risingWords", "()I"⟩
abbrev cX5_wordOf : ByteArray := prog_7_method_13_code
def yX5_wordOf : MethodName := ⟨RX5, "wordOf", "(I)I"⟩
abbrev cX5_sortOf : ByteArray := prog_7_method_14_code
def yX5_sortOf : MethodName := ⟨RX5, "sortOf", "(I)I"⟩
def RX6 : String := "ParrotSpeech$Tongue"
def TX6 : u_T := fun k => match k with
  | 0 => ("ParrotSpeech$Tongue", "signs", "[I", true)
  | 1 => ("ParrotSpeech$Tongue", "closedAt", "[I", true)
  | 2 => ("ParrotSpeech$Tongue", "open", "[I", true)
  | 3 => ("ParrotSpeech$Tongue", "heard", "[I", true)
  | 4 => ("ParrotSpeech$Tongue", "heardCount", "I", false)
  | 5 => ("ParrotSpeech$Tongue", "length", "I", false)
  | _ => ("ParrotSpeech$Tongue", "words", "I", false)
def tyX6 : Nat → FieldType := fun k => match k with
  | 0 => .array .int
  | 1 => .array .int
  | 2 => .array .int
  | 3 => .array .int
  | 4 => .int
  | 5 => .int
  | _ => .int
abbrev wsX60 : List Cond := u_ws RX6 TX6 7
theorem nmX6 : ∀ a, a < 7 → ∀ b, b < 7 → a ≠ b → (TX6 a).2.1 ≠ (TX6 b).2.1 := by decide +kernel
theorem tyX6_ok : ∀ k, k < 7 → parseFieldDescriptor (TX6 k).2.2.1 = some (tyX6 k) := by decide +kernel
abbrev cX6_init : ByteArray := prog_8_method_1_code
def yX6_init : MethodName := ⟨RX6, "<init>", "()V"⟩
abbrev cX6_faultIn : ByteArray := prog_8_method_2_code
def yX6_faultIn : MethodName := ⟨RX6, "faultIn", "(LParrotSpeech$Text;)I"⟩
abbrev cX6_take : ByteArray := prog_8_method_3_code
def yX6_take : MethodName := ⟨RX6, "take", "(LParrotSpeech$Text;)V"⟩
abbrev cX6_endsIn : ByteArray := prog_8_method_4_code
def yX6_endsIn : MethodName := ⟨RX6, "endsIn", "(LParrotSpeech$Speech;I)I"⟩
abbrev cX6_sumEnds : ByteArray := prog_8_method_5_code
def yX6_sumEnds : MethodName := ⟨RX6, "sumEnds", "(IIII)I"⟩
abbrev cX6_behindPart : ByteArray := prog_8_method_6_code
def yX6_behindPart : MethodName := ⟨RX6, "behindPart", "(I)I"⟩
abbrev cX6_repeatedEnds : ByteArray := prog_8_method_7_code
def yX6_repeatedEnds : MethodName := ⟨RX6, "repeatedEnds", "(IIII)I"⟩
abbrev cX6_partEnds : ByteArray := prog_8_method_8_code
def yX6_partEnds : MethodName := ⟨RX6, "partEnds", "(IIII)I"⟩
abbrev cX6_wordEnds : ByteArray := prog_8_method_9_code
def yX6_wordEnds : MethodName := ⟨RX6, "wordEnds", "(II)I"⟩
def RX7 : String := "ParrotSpeech$World"
def TX7 : u_T := fun k => match k with
  | 0 => ("ParrotSpeech$World", "birds", "I", false)
  | 1 => ("ParrotSpeech$World", "men", "I", false)
  | 2 => ("ParrotSpeech$World", "evening", "I", false)
  | 3 => ("ParrotSpeech$World", "covered", "I", false)
  | 4 => ("ParrotSpeech$World", "kind", "[I", true)
  | 5 => ("ParrotSpeech$World", "standsOn", "[I", true)
  | 6 => ("ParrotSpeech$World", "knows", "[I", true)
  | 7 => ("ParrotSpeech$World", "has", "[I", true)
  | _ => ("ParrotSpeech$World", "beside", "[I", true)
def tyX7 : Nat → FieldType := fun k => match k with
  | 0 => .int
  | 1 => .int
  | 2 => .int
  | 3 => .int
  | 4 => .array .int
  | 5 => .array .int
  | 6 => .array .int
  | 7 => .array .int
  | _ => .array .int
abbrev wsX70 : List Cond := u_ws RX7 TX7 9
theorem nmX7 : ∀ a, a < 9 → ∀ b, b < 9 → a ≠ b → (TX7 a).2.1 ≠ (TX7 b).2.1 := by decide +kernel
theorem tyX7_ok : ∀ k, k < 9 → parseFieldDescriptor (TX7 k).2.2.1 = some (tyX7 k) := by decide +kernel
abbrev cX7_init : ByteArray := prog_9_method_1_code
def yX7_init : MethodName := ⟨RX7, "<init>", "()V"⟩
abbrev cX7_become : ByteArray := prog_9_method_2_code
def yX7_become : MethodName := ⟨RX7, "become", "(LParrotSpeech$World;)V"⟩
abbrev cX7_clear : ByteArray := prog_9_method_3_code
def yX7_clear : MethodName := ⟨RX7, "clear", "()V"⟩
abbrev cX7_addBird : ByteArray := prog_9_method_4_code
def yX7_addBird : MethodName := ⟨RX7, "addBird", "(II)V"⟩
abbrev cX7_addMan : ByteArray := prog_9_method_5_code
def yX7_addMan : MethodName := ⟨RX7, "addMan", "(I)V"⟩
abbrev cX7_isCovered : ByteArray := prog_9_method_6_code
def yX7_isCovered : MethodName := ⟨RX7, "isCovered", "(I)Z"⟩
abbrev cX7_knowledge : ByteArray := prog_9_method_7_code
def yX7_knowledge : MethodName := ⟨RX7, "knowledge", "(II)I"⟩
abbrev cX7_allKnowledge : ByteArray := prog_9_method_8_code
def yX7_allKnowledge : MethodName := ⟨RX7, "allKnowledge", "(I)I"⟩
abbrev cX7_wellKnown : ByteArray := prog_9_method_9_code
def yX7_wellKnown : MethodName := ⟨RX7, "wellKnown", "(I)I"⟩
abbrev cX7_wellKnownBySome : ByteArray := prog_9_method_10_code
def yX7_wellKnownBySome : MethodName := ⟨RX7, "wellKnownBySome", "()I"⟩
abbrev cX7_allWordsOfMen : ByteArray := prog_9_method_11_code
def yX7_allWordsOfMen : MethodName := ⟨RX7, "allWordsOfMen", "()I"⟩
abbrev cX7_manBeside : ByteArray := prog_9_method_12_code
def yX7_manBeside : MethodName := ⟨RX7, "manBeside", "(I)I"⟩
abbrev cX7_seat : ByteArray := prog_9_method_13_code
def yX7_seat : MethodName := ⟨RX7, "seat", "(II)V"⟩
abbrev cX7_learn : ByteArray := prog_9_method_14_code
def yX7_learn : MethodName := ⟨RX7, "learn", "(III)V"⟩
abbrev cX7_halve : ByteArray := prog_9_method_15_code
def yX7_halve : MethodName := ⟨RX7, "halve", "(I)V"⟩
abbrev cX7_hearable : ByteArray := prog_9_method_16_code
def yX7_hearable : MethodName := ⟨RX7, "hearable", "(I)I"⟩
abbrev cX7_passEvening : ByteArray := prog_9_method_17_code
def yX7_passEvening : MethodName := ⟨RX7, "passEvening", "(LParrotSpeech$Speech;)V"⟩
abbrev cX7_handOver : ByteArray := prog_9_method_18_code
def yX7_handOver : MethodName := ⟨RX7, "handOver", "(I)V"⟩
abbrev cX7_awakeOn : ByteArray := prog_9_method_19_code
def yX7_awakeOn : MethodName := ⟨RX7, "awakeOn", "(I)I"⟩
abbrev cX7_isSilenced : ByteArray := prog_9_method_20_code
def yX7_isSilenced : MethodName := ⟨RX7, "isSilenced", "(I)Z"⟩
abbrev cX7_speakOn : ByteArray := prog_9_method_21_code
def yX7_speakOn : MethodName := ⟨RX7, "speakOn", "(IILParrotSpeech$Speech;)V"⟩
abbrev cX7_speak : ByteArray := prog_9_method_22_code
def yX7_speak : MethodName := ⟨RX7, "speak", "(IIILParrotSpeech$Speech;)V"⟩
abbrev cX7_bestKnown : ByteArray := prog_9_method_23_code
def yX7_bestKnown : MethodName := ⟨RX7, "bestKnown", "(II)I"⟩
abbrev cX7_spread : ByteArray := prog_9_method_24_code
def yX7_spread : MethodName := ⟨RX7, "spread", "(II)V"⟩
abbrev cX7_lose : ByteArray := prog_9_method_25_code
def yX7_lose : MethodName := ⟨RX7, "lose", "(I)V"⟩
def RX8 : String := "ParrotSpeech"
def TX8 : u_T := fun k => match k with
  | 0 => ("ParrotSpeech", "text", "LParrotSpeech$Text;", true)
  | 1 => ("ParrotSpeech", "reader", "LParrotSpeech$HarbourReader;", true)
  | 2 => ("ParrotSpeech", "grammar", "LParrotSpeech$Tongue;", true)
  | 3 => ("ParrotSpeech", "told", "LParrotSpeech$World;", true)
  | 4 => ("ParrotSpeech", "now", "LParrotSpeech$World;", true)
  | 5 => ("ParrotSpeech", "trial", "LParrotSpeech$World;", true)
  | 6 => ("ParrotSpeech", "speech", "LParrotSpeech$Speech;", true)
  | 7 => ("ParrotSpeech", "history", "LParrotSpeech$History;", true)
  | 8 => ("ParrotSpeech", "sightings", "LParrotSpeech$Sightings;", true)
  | 9 => ("ParrotSpeech", "reels", "[LParrotSpeech$Reel;", true)
  | _ => ("ParrotSpeech", "keptBy", "[I", true)
def tyX8 : Nat → FieldType := fun k => match k with
  | 0 => .object "ParrotSpeech$Text"
  | 1 => .object "ParrotSpeech$HarbourReader"
  | 2 => .object "ParrotSpeech$Tongue"
  | 3 => .object "ParrotSpeech$World"
  | 4 => .object "ParrotSpeech$World"
  | 5 => .object "ParrotSpeech$World"
  | 6 => .object "ParrotSpeech$Speech"
  | 7 => .object "ParrotSpeech$History"
  | 8 => .object "ParrotSpeech$Sightings"
  | 9 => .array (.object "ParrotSpeech$Reel")
  | _ => .array .int
abbrev wsX80 : List Cond := u_ws RX8 TX8 11
theorem nmX8 : ∀ a, a < 11 → ∀ b, b < 11 → a ≠ b → (TX8 a).2.1 ≠ (TX8 b).2.1 := by decide +kernel
theorem tyX8_ok : ∀ k, k < 11 → parseFieldDescriptor (TX8 k).2.2.1 = some (tyX8 k) := by decide +kernel
abbrev cX8_init : ByteArray := prog_1_method_1_code
def yX8_init : MethodName := ⟨RX8, "<init>", "()V"⟩
abbrev cX8_write : ByteArray := prog_1_method_2_code
def yX8_write : MethodName := ⟨RX8, "write", "(I)I"⟩
abbrev cX8_erase : ByteArray := prog_1_method_3_code
def yX8_erase : MethodName := ⟨RX8, "erase", "()I"⟩
abbrev cX8_fault : ByteArray := prog_1_method_4_code
def yX8_fault : MethodName := ⟨RX8, "fault", "(I)I"⟩
abbrev cX8_harbour : ByteArray := prog_1_method_5_code
def yX8_harbour : MethodName := ⟨RX8, "harbour", "()I"⟩
abbrev cX8_tongue : ByteArray := prog_1_method_6_code
def yX8_tongue : MethodName := ⟨RX8, "tongue", "()I"⟩
abbrev cX8_bird : ByteArray := prog_1_method_7_code
def yX8_bird : MethodName := ⟨RX8, "bird", "(II)I"⟩
abbrev cX8_man : ByteArray := prog_1_method_8_code
def yX8_man : MethodName := ⟨RX8, "man", "(II)I"⟩
abbrev cX8_known : ByteArray := prog_1_method_9_code
def yX8_known : MethodName := ⟨RX8, "known", "(III)I"⟩
abbrev cX8_as : ByteArray := prog_1_method_10_code
def yX8_as : MethodName := ⟨RX8, "as", "(II)I"⟩
abbrev cX8_evening : ByteArray := prog_1_method_11_code
def yX8_evening : MethodName := ⟨RX8, "evening", "(I)I"⟩
abbrev cX8_teach : ByteArray := prog_1_method_12_code
def yX8_teach : MethodName := ⟨RX8, "teach", "(II)I"⟩
abbrev cX8_moult : ByteArray := prog_1_method_13_code
def yX8_moult : MethodName := ⟨RX8, "moult", "(I)I"⟩
abbrev cX8_perch : ByteArray := prog_1_method_14_code
def yX8_perch : MethodName := ⟨RX8, "perch", "(II)I"⟩
abbrev cX8_cover : ByteArray := prog_1_method_15_code
def yX8_cover : MethodName := ⟨RX8, "cover", "(I)I"⟩
abbrev cX8_sit : ByteArray := prog_1_method_16_code
def yX8_sit : MethodName := ⟨RX8, "sit", "(II)I"⟩
abbrev cX8_undo : ByteArray := prog_1_method_17_code
def yX8_undo : MethodName := ⟨RX8, "undo", "()I"⟩
abbrev cX8_keep : ByteArray := prog_1_method_18_code
def yX8_keep : MethodName := ⟨RX8, "keep", "(I)I"⟩
abbrev cX8_back : ByteArray := prog_1_method_19_code
def yX8_back : MethodName := ⟨RX8, "back", "(I)I"⟩
abbrev cX8_said : ByteArray := prog_1_method_20_code
def yX8_said : MethodName := ⟨RX8, "said", "(II)I"⟩
abbrev cX8_when : ByteArray := prog_1_method_21_code
def yX8_when : MethodName := ⟨RX8, "when", "(III)I"⟩
abbrev cX8_keeps : ByteArray := prog_1_method_22_code
def yX8_keeps : MethodName := ⟨RX8, "keeps", "(III)I"⟩
abbrev cX8_match : ByteArray := prog_1_method_23_code
def yX8_match : MethodName := ⟨RX8, "match", "(II)I"⟩
abbrev cX8_clean : ByteArray := prog_1_method_24_code
def yX8_clean : MethodName := ⟨RX8, "clean", "(III)I"⟩
abbrev cX8_of : ByteArray := prog_1_method_25_code
def yX8_of : MethodName := ⟨RX8, "of", "(II)I"⟩
abbrev cX8_left : ByteArray := prog_1_method_26_code
def yX8_left : MethodName := ⟨RX8, "left", "(III)I"⟩
abbrev cX8_seen : ByteArray := prog_1_method_27_code
def yX8_seen : MethodName := ⟨RX8, "seen", "(III)I"⟩
abbrev cX8_forget : ByteArray := prog_1_method_28_code
def yX8_forget : MethodName := ⟨RX8, "forget", "()I"⟩
abbrev cX8_kinds : ByteArray := prog_1_method_29_code
def yX8_kinds : MethodName := ⟨RX8, "kinds", "(I)I"⟩
abbrev cX8_reel : ByteArray := prog_1_method_30_code
def yX8_reel : MethodName := ⟨RX8, "reel", "(III)I"⟩
abbrev cX8_record : ByteArray := prog_1_method_31_code
def yX8_record : MethodName := ⟨RX8, "record", "(IIII)I"⟩
abbrev cX8_play : ByteArray := prog_1_method_32_code
def yX8_play : MethodName := ⟨RX8, "play", "(III)I"⟩
abbrev cX8_splice : ByteArray := prog_1_method_33_code
def yX8_splice : MethodName := ⟨RX8, "splice", "(IIIII)I"⟩
abbrev cX8_drop : ByteArray := prog_1_method_34_code
def yX8_drop : MethodName := ⟨RX8, "drop", "(I)I"⟩
abbrev cX8_count : ByteArray := prog_1_method_35_code
def yX8_count : MethodName := ⟨RX8, "count", "(I)I"⟩
abbrev cX8_isNot : ByteArray := prog_1_method_36_code
def yX8_isNot : MethodName := ⟨RX8, "isNot", "(III)Z"⟩
abbrev cX8_noBird : ByteArray := prog_1_method_37_code
def yX8_noBird : MethodName := ⟨RX8, "noBird", "(I)Z"⟩
abbrev cX8_noMan : ByteArray := prog_1_method_38_code
def yX8_noMan : MethodName := ⟨RX8, "noMan", "(I)Z"⟩
abbrev cX8_noWord : ByteArray := prog_1_method_39_code
def yX8_noWord : MethodName := ⟨RX8, "noWord", "(I)Z"⟩
abbrev cX8_noPerch : ByteArray := prog_1_method_40_code
def yX8_noPerch : MethodName := ⟨RX8, "noPerch", "(I)Z"⟩
abbrev cX8_noReel : ByteArray := prog_1_method_41_code
def yX8_noReel : MethodName := ⟨RX8, "noReel", "(I)Z"⟩
abbrev cX8_noSort : ByteArray := prog_1_method_42_code
def yX8_noSort : MethodName := ⟨RX8, "noSort", "(I)Z"⟩
abbrev cX8_foretellSpeech : ByteArray := prog_1_method_43_code
def yX8_foretellSpeech : MethodName := ⟨RX8, "foretellSpeech", "()V"⟩
abbrev cX8_keptWords : ByteArray := prog_1_method_44_code
def yX8_keptWords : MethodName := ⟨RX8, "keptWords", "(III)I"⟩
abbrev cX8_mostKept : ByteArray := prog_1_method_45_code
def yX8_mostKept : MethodName := ⟨RX8, "mostKept", "(II)I"⟩
abbrev cX8_matchOf : ByteArray := prog_1_method_46_code
def yX8_matchOf : MethodName := ⟨RX8, "matchOf", "(I)I"⟩
abbrev cX8_leastChoice : ByteArray := prog_1_method_47_code
def yX8_leastChoice : MethodName := ⟨RX8, "leastChoice", "(II)I"⟩
abbrev cX8_staysClean : ByteArray := prog_1_method_48_code
def yX8_staysClean : MethodName := ⟨RX8, "staysClean", "(IIII)Z"⟩
abbrev cX8_commonDivisor : ByteArray := prog_1_method_49_code
def yX8_commonDivisor : MethodName := ⟨RX8, "commonDivisor", "(II)I"⟩
abbrev cX8_reelsThere : ByteArray := prog_1_method_50_code
def yX8_reelsThere : MethodName := ⟨RX8, "reelsThere", "()I"⟩
def RX9 : String := "ParrotSpeechModel"
def TX9 : u_T := fun k => match k with
  | 0 => ("ParrotSpeechModel", "row", "[I", true)
  | 1 => ("ParrotSpeechModel", "undos", "I", false)
  | 2 => ("ParrotSpeechModel", "isKept", "[Z", true)
  | 3 => ("ParrotSpeechModel", "text", "[I", true)
  | 4 => ("ParrotSpeechModel", "length", "I", false)
  | 5 => ("ParrotSpeechModel", "seenMany", "I", false)
  | 6 => ("ParrotSpeechModel", "seenPerch", "[I", true)
  | 7 => ("ParrotSpeechModel", "seenPlace", "[I", true)
  | 8 => ("ParrotSpeechModel", "seenWord", "[I", true)
  | 9 => ("ParrotSpeechModel", "tongueSize", "I", false)
  | 10 => ("ParrotSpeechModel", "letters", "[I", true)
  | 11 => ("ParrotSpeechModel", "ends", "[I", true)
  | 12 => ("ParrotSpeechModel", "begins", "[I", true)
  | 13 => ("ParrotSpeechModel", "sizes", "[I", true)
  | 14 => ("ParrotSpeechModel", "sorts", "[I", true)
  | 15 => ("ParrotSpeechModel", "places", "[I", true)
  | 16 => ("ParrotSpeechModel", "first", "I", false)
  | 17 => ("ParrotSpeechModel", "behind", "I", false)
  | 18 => ("ParrotSpeechModel", "readBirds", "I", false)
  | 19 => ("ParrotSpeechModel", "readMen", "I", false)
  | 20 => ("ParrotSpeechModel", "readBy", "[I", true)
  | 21 => ("ParrotSpeechModel", "clauses", "I", false)
  | 22 => ("ParrotSpeechModel", "doing", "Z", false)
  | 23 => ("ParrotSpeechModel", "harbourWord", "[I", true)
  | 24 => ("ParrotSpeechModel", "parrotWord", "[I", true)
  | 25 => ("ParrotSpeechModel", "greyWord", "[I", true)
  | 26 => ("ParrotSpeechModel", "cockatooWord", "[I", true)
  | 27 => ("ParrotSpeechModel", "hawkWord", "[I", true)
  | 28 => ("ParrotSpeechModel", "greenWord", "[I", true)
  | 29 => ("ParrotSpeechModel", "manWord", "[I", true)
  | 30 => ("ParrotSpeechModel", "knowsWord", "[I", true)
  | 31 => ("ParrotSpeechModel", "sitsWord", "[I", true)
  | 32 => ("ParrotSpeechModel", "coverWord", "[I", true)
  | 33 => ("ParrotSpeechModel", "open", "[I", true)
  | 34 => ("ParrotSpeechModel", "isNow", "[Z", true)
  | 35 => ("ParrotSpeechModel", "isThen", "[Z", true)
  | 36 => ("ParrotSpeechModel", "saidWords", "[I", true)
  | 37 => ("ParrotSpeechModel", "saidMany", "[I", true)
  | 38 => ("ParrotSpeechModel", "keepsBy", "[I", true)
  | 39 => ("ParrotSpeechModel", "line", "[I", true)
  | 40 => ("ParrotSpeechModel", "bestLine", "[I", true)
  | _ => ("ParrotSpeechModel", "moved", "[I", true)
def tyX9 : Nat → FieldType := fun k => match k with
  | 0 => .array .int
  | 1 => .int
  | 2 => .array .boolean
  | 3 => .array .int
  | 4 => .int
  | 5 => .int
  | 6 => .array .int
  | 7 => .array .int
  | 8 => .array .int
  | 9 => .int
  | 10 => .array .int
  | 11 => .array .int
  | 12 => .array .int
  | 13 => .array .int
  | 14 => .array .int
  | 15 => .array .int
  | 16 => .int
  | 17 => .int
  | 18 => .int
  | 19 => .int
  | 20 => .array .int
  | 21 => .int
  | 22 => .boolean
  | 23 => .array .int
  | 24 => .array .int
  | 25 => .array .int
  | 26 => .array .int
  | 27 => .array .int
  | 28 => .array .int
  | 29 => .array .int
  | 30 => .array .int
  | 31 => .array .int
  | 32 => .array .int
  | 33 => .array .int
  | 34 => .array .boolean
  | 35 => .array .boolean
  | 36 => .array .int
  | 37 => .array .int
  | 38 => .array .int
  | 39 => .array .int
  | 40 => .array .int
  | _ => .array .int
abbrev wsX90 : List Cond := u_ws RX9 TX9 42
theorem nmX9 : ∀ a, a < 42 → ∀ b, b < 42 → a ≠ b → (TX9 a).2.1 ≠ (TX9 b).2.1 := by decide +kernel
theorem tyX9_ok : ∀ k, k < 42 → parseFieldDescriptor (TX9 k).2.2.1 = some (tyX9 k) := by decide +kernel
abbrev cX9_init : ByteArray := prog_11_method_1_code
def yX9_init : MethodName := ⟨RX9, "<init>", "()V"⟩
abbrev cX9_in : ByteArray := prog_11_method_2_code
def yX9_in : MethodName := ⟨RX9, "in", "(JJJ)Z"⟩
abbrev cX9_has : ByteArray := prog_11_method_3_code
def yX9_has : MethodName := ⟨RX9, "has", "(II)Z"⟩
abbrev cX9_bits : ByteArray := prog_11_method_4_code
def yX9_bits : MethodName := ⟨RX9, "bits", "(I)I"⟩
abbrev cX9_write : ByteArray := prog_11_method_5_code
def yX9_write : MethodName := ⟨RX9, "write", "(I)I"⟩
abbrev cX9_erase : ByteArray := prog_11_method_6_code
def yX9_erase : MethodName := ⟨RX9, "erase", "()I"⟩
abbrev cX9_isLetter : ByteArray := prog_11_method_7_code
def yX9_isLetter : MethodName := ⟨RX9, "isLetter", "(I)Z"⟩
abbrev cX9_isDigit : ByteArray := prog_11_method_8_code
def yX9_isDigit : MethodName := ⟨RX9, "isDigit", "(I)Z"⟩
abbrev cX9_nextToken : ByteArray := prog_11_method_9_code
def yX9_nextToken : MethodName := ⟨RX9, "nextToken", "()V"⟩
abbrev cX9_isWord : ByteArray := prog_11_method_10_code
def yX9_isWord : MethodName := ⟨RX9, "isWord", "([I)Z"⟩
abbrev cX9_numberHere : ByteArray := prog_11_method_11_code
def yX9_numberHere : MethodName := ⟨RX9, "numberHere", "(I)I"⟩
abbrev cX9_number : ByteArray := prog_11_method_12_code
def yX9_number : MethodName := ⟨RX9, "number", "(I)I"⟩
abbrev cX9_words : ByteArray := prog_11_method_13_code
def yX9_words : MethodName := ⟨RX9, "words", "(I)I"⟩
abbrev cX9_kindHere : ByteArray := prog_11_method_14_code
def yX9_kindHere : MethodName := ⟨RX9, "kindHere", "()I"⟩
abbrev cX9_readsBird : ByteArray := prog_11_method_15_code
def yX9_readsBird : MethodName := ⟨RX9, "readsBird", "(I)Z"⟩
abbrev cX9_readsMan : ByteArray := prog_11_method_16_code
def yX9_readsMan : MethodName := ⟨RX9, "readsMan", "()Z"⟩
abbrev cX9_readsKnows : ByteArray := prog_11_method_17_code
def yX9_readsKnows : MethodName := ⟨RX9, "readsKnows", "()Z"⟩
abbrev cX9_readsSits : ByteArray := prog_11_method_18_code
def yX9_readsSits : MethodName := ⟨RX9, "readsSits", "()Z"⟩
abbrev cX9_readsCover : ByteArray := prog_11_method_19_code
def yX9_readsCover : MethodName := ⟨RX9, "readsCover", "()Z"⟩
abbrev cX9_readsHarbour : ByteArray := prog_11_method_20_code
def yX9_readsHarbour : MethodName := ⟨RX9, "readsHarbour", "()Z"⟩
abbrev cX9_readsClause : ByteArray := prog_11_method_21_code
def yX9_readsClause : MethodName := ⟨RX9, "readsClause", "()Z"⟩
abbrev cX9_reads : ByteArray := prog_11_method_22_code
def yX9_reads : MethodName := ⟨RX9, "reads", "(Z)Z"⟩
abbrev cX9_copyHarbour : ByteArray := prog_11_method_23_code
def yX9_copyHarbour : MethodName := ⟨RX9, "copyHarbour", "(II)V"⟩
abbrev cX9_harbour : ByteArray := prog_11_method_24_code
def yX9_harbour : MethodName := ⟨RX9, "harbour", "()I"⟩
abbrev cX9_tongueFault : ByteArray := prog_11_method_25_code
def yX9_tongueFault : MethodName := ⟨RX9, "tongueFault", "()I"⟩
abbrev cX9_fault : ByteArray := prog_11_method_26_code
def yX9_fault : MethodName := ⟨RX9, "fault", "(I)I"⟩
abbrev cX9_layTongue : ByteArray := prog_11_method_27_code
def yX9_layTongue : MethodName := ⟨RX9, "layTongue", "()V"⟩
abbrev cX9_tongue : ByteArray := prog_11_method_28_code
def yX9_tongue : MethodName := ⟨RX9, "tongue", "()I"⟩
abbrev cX9_mark : ByteArray := prog_11_method_29_code
def yX9_mark : MethodName := ⟨RX9, "mark", "(I)Z"⟩
abbrev cX9_goesOn : ByteArray := prog_11_method_30_code
def yX9_goesOn : MethodName := ⟨RX9, "goesOn", "(I)Z"⟩
abbrev cX9_goOnAll : ByteArray := prog_11_method_31_code
def yX9_goOnAll : MethodName := ⟨RX9, "goOnAll", "()V"⟩
abbrev cX9_hearWord : ByteArray := prog_11_method_32_code
def yX9_hearWord : MethodName := ⟨RX9, "hearWord", "(I)V"⟩
abbrev cX9_hears : ByteArray := prog_11_method_33_code
def yX9_hears : MethodName := ⟨RX9, "hears", "(I)I"⟩
abbrev cX9_gets : ByteArray := prog_11_method_34_code
def yX9_gets : MethodName := ⟨RX9, "gets", "(I)I"⟩
abbrev cX9_says : ByteArray := prog_11_method_35_code
def yX9_says : MethodName := ⟨RX9, "says", "(I)I"⟩
abbrev cX9_loses : ByteArray := prog_11_method_36_code
def yX9_loses : MethodName := ⟨RX9, "loses", "(I)I"⟩
abbrev cX9_isBird : ByteArray := prog_11_method_37_code
def yX9_isBird : MethodName := ⟨RX9, "isBird", "(I)Z"⟩
abbrev cX9_isMan : ByteArray := prog_11_method_38_code
def yX9_isMan : MethodName := ⟨RX9, "isMan", "(I)Z"⟩
abbrev cX9_isWordNumber : ByteArray := prog_11_method_39_code
def yX9_isWordNumber : MethodName := ⟨RX9, "isWordNumber", "(I)Z"⟩
abbrev cX9_isOpen : ByteArray := prog_11_method_40_code
def yX9_isOpen : MethodName := ⟨RX9, "isOpen", "(II)Z"⟩
abbrev cX9_learns : ByteArray := prog_11_method_41_code
def yX9_learns : MethodName := ⟨RX9, "learns", "(IIII)V"⟩
abbrev cX9_manOf : ByteArray := prog_11_method_42_code
def yX9_manOf : MethodName := ⟨RX9, "manOf", "(II)I"⟩
abbrev cX9_wellKnown : ByteArray := prog_11_method_43_code
def yX9_wellKnown : MethodName := ⟨RX9, "wellKnown", "(II)I"⟩
abbrev cX9_bird : ByteArray := prog_11_method_44_code
def yX9_bird : MethodName := ⟨RX9, "bird", "(II)I"⟩
abbrev cX9_man : ByteArray := prog_11_method_45_code
def yX9_man : MethodName := ⟨RX9, "man", "(II)I"⟩
abbrev cX9_as : ByteArray := prog_11_method_46_code
def yX9_as : MethodName := ⟨RX9, "as", "(II)I"⟩
abbrev cX9_handOver : ByteArray := prog_11_method_47_code
def yX9_handOver : MethodName := ⟨RX9, "handOver", "(I)V"⟩
abbrev cX9_isSilent : ByteArray := prog_11_method_48_code
def yX9_isSilent : MethodName := ⟨RX9, "isSilent", "(II)Z"⟩
abbrev cX9_bestWord : ByteArray := prog_11_method_49_code
def yX9_bestWord : MethodName := ⟨RX9, "bestWord", "(III)I"⟩
abbrev cX9_say : ByteArray := prog_11_method_50_code
def yX9_say : MethodName := ⟨RX9, "say", "(IIII)V"⟩
abbrev cX9_speak : ByteArray := prog_11_method_51_code
def yX9_speak : MethodName := ⟨RX9, "speak", "(II)V"⟩
abbrev cX9_lose : ByteArray := prog_11_method_52_code
def yX9_lose : MethodName := ⟨RX9, "lose", "(I)V"⟩
abbrev cX9_passes : ByteArray := prog_11_method_53_code
def yX9_passes : MethodName := ⟨RX9, "passes", "(I)V"⟩
abbrev cX9_layTried : ByteArray := prog_11_method_54_code
def yX9_layTried : MethodName := ⟨RX9, "layTried", "()V"⟩
abbrev cX9_passTried : ByteArray := prog_11_method_55_code
def yX9_passTried : MethodName := ⟨RX9, "passTried", "(I)V"⟩
abbrev cX9_known : ByteArray := prog_11_method_56_code
def yX9_known : MethodName := ⟨RX9, "known", "(III)I"⟩
abbrev cX9_keepPast : ByteArray := prog_11_method_57_code
def yX9_keepPast : MethodName := ⟨RX9, "keepPast", "()V"⟩
abbrev cX9_evening : ByteArray := prog_11_method_58_code
def yX9_evening : MethodName := ⟨RX9, "evening", "(I)I"⟩
abbrev cX9_teach : ByteArray := prog_11_method_59_code
def yX9_teach : MethodName := ⟨RX9, "teach", "(II)I"⟩
abbrev cX9_moult : ByteArray := prog_11_method_60_code
def yX9_moult : MethodName := ⟨RX9, "moult", "(I)I"⟩
abbrev cX9_perch : ByteArray := prog_11_method_61_code
def yX9_perch : MethodName := ⟨RX9, "perch", "(II)I"⟩
abbrev cX9_cover : ByteArray := prog_11_method_62_code
def yX9_cover : MethodName := ⟨RX9, "cover", "(I)I"⟩
abbrev cX9_sets : ByteArray := prog_11_method_63_code
def yX9_sets : MethodName := ⟨RX9, "sets", "(III)V"⟩
abbrev cX9_sit : ByteArray := prog_11_method_64_code
def yX9_sit : MethodName := ⟨RX9, "sit", "(II)I"⟩
abbrev cX9_undo : ByteArray := prog_11_method_65_code
def yX9_undo : MethodName := ⟨RX9, "undo", "()I"⟩
abbrev cX9_keep : ByteArray := prog_11_method_66_code
def yX9_keep : MethodName := ⟨RX9, "keep", "(I)I"⟩
abbrev cX9_back : ByteArray := prog_11_method_67_code
def yX9_back : MethodName := ⟨RX9, "back", "(I)I"⟩
abbrev cX9_saidAt : ByteArray := prog_11_method_68_code
def yX9_saidAt : MethodName := ⟨RX9, "saidAt", "(II)I"⟩
abbrev cX9_said : ByteArray := prog_11_method_69_code
def yX9_said : MethodName := ⟨RX9, "said", "(II)I"⟩
abbrev cX9_when : ByteArray := prog_11_method_70_code
def yX9_when : MethodName := ⟨RX9, "when", "(III)I"⟩
abbrev cX9_keptBy : ByteArray := prog_11_method_71_code
def yX9_keptBy : MethodName := ⟨RX9, "keptBy", "(III)I"⟩
abbrev cX9_keeps : ByteArray := prog_11_method_72_code
def yX9_keeps : MethodName := ⟨RX9, "keeps", "(III)I"⟩
abbrev cX9_keptByLine : ByteArray := prog_11_method_73_code
def yX9_keptByLine : MethodName := ⟨RX9, "keptByLine", "()I"⟩
abbrev cX9_nextLine : ByteArray := prog_11_method_74_code
def yX9_nextLine : MethodName := ⟨RX9, "nextLine", "()Z"⟩
abbrev cX9_match : ByteArray := prog_11_method_75_code
def yX9_match : MethodName := ⟨RX9, "match", "(II)I"⟩
abbrev cX9_clean : ByteArray := prog_11_method_76_code
def yX9_clean : MethodName := ⟨RX9, "clean", "(III)I"⟩
abbrev cX9_of : ByteArray := prog_11_method_77_code
def yX9_of : MethodName := ⟨RX9, "of", "(II)I"⟩
abbrev cX9_left : ByteArray := prog_11_method_78_code
def yX9_left : MethodName := ⟨RX9, "left", "(III)I"⟩
abbrev cX9_seen : ByteArray := prog_11_method_79_code
def yX9_seen : MethodName := ⟨RX9, "seen", "(III)I"⟩
abbrev cX9_forget : ByteArray := prog_11_method_80_code
def yX9_forget : MethodName := ⟨RX9, "forget", "()I"⟩
abbrev cX9_kinds : ByteArray := prog_11_method_81_code
def yX9_kinds : MethodName := ⟨RX9, "kinds", "(I)I"⟩
abbrev cX9_isReel : ByteArray := prog_11_method_82_code
def yX9_isReel : MethodName := ⟨RX9, "isReel", "(I)Z"⟩
abbrev cX9_reel : ByteArray := prog_11_method_83_code
def yX9_reel : MethodName := ⟨RX9, "reel", "(III)I"⟩
abbrev cX9_noPlace : ByteArray := prog_11_method_84_code
def yX9_noPlace : MethodName := ⟨RX9, "noPlace", "(III)I"⟩
abbrev cX9_record : ByteArray := prog_11_method_85_code
def yX9_record : MethodName := ⟨RX9, "record", "(IIII)I"⟩
abbrev cX9_play : ByteArray := prog_11_method_86_code
def yX9_play : MethodName := ⟨RX9, "play", "(III)I"⟩
abbrev cX9_isSpan : ByteArray := prog_11_method_87_code
def yX9_isSpan : MethodName := ⟨RX9, "isSpan", "(III)Z"⟩
abbrev cX9_splice : ByteArray := prog_11_method_88_code
def yX9_splice : MethodName := ⟨RX9, "splice", "(IIIII)I"⟩
abbrev cX9_drop : ByteArray := prog_11_method_89_code
def yX9_drop : MethodName := ⟨RX9, "drop", "(I)I"⟩
abbrev cX9_menWords : ByteArray := prog_11_method_90_code
def yX9_menWords : MethodName := ⟨RX9, "menWords", "()I"⟩
abbrev cX9_allWellKnown : ByteArray := prog_11_method_91_code
def yX9_allWellKnown : MethodName := ⟨RX9, "allWellKnown", "()I"⟩
abbrev cX9_reelsThere : ByteArray := prog_11_method_92_code
def yX9_reelsThere : MethodName := ⟨RX9, "reelsThere", "()I"⟩
abbrev cX9_count : ByteArray := prog_11_method_93_code
def yX9_count : MethodName := ⟨RX9, "count", "(I)I"⟩
def RJ6 : String := "java/lang/Integer"
def TJ6 : u_T := fun k => match k with
  | _ => ("", "", "", false)
def tyJ6 : Nat → FieldType := fun k => match k with
  | _ => .int
abbrev wsJ60 : List Cond := u_ws RJ6 TJ6 0
theorem nmJ6 : ∀ a, a < 0 → ∀ b, b < 0 → a ≠ b → (TJ6 a).2.1 ≠ (TJ6 b).2.1 := by decide +kernel
theorem tyJ6_ok : ∀ k, k < 0 → parseFieldDescriptor (TJ6 k).2.2.1 = some (tyJ6 k) := by decide +kernel
abbrev cJ6_numberOfTrailingZeros_0f7a4 : ByteArray := prog_12_method_48_code
def yJ6_numberOfTrailingZeros_0f7a4 : MethodName := ⟨RJ6, "numberOfTrailingZeros", "(I)I"⟩
abbrev cJ6_bitCount_0f7a4 : ByteArray := prog_12_method_49_code
def yJ6_bitCount_0f7a4 : MethodName := ⟨RJ6, "bitCount", "(I)I"⟩
def RJ9 : String := "java/lang/Math"
def TJ9 : u_T := fun k => match k with
  | _ => ("", "", "", false)
def tyJ9 : Nat → FieldType := fun k => match k with
  | _ => .int
abbrev wsJ90 : List Cond := u_ws RJ9 TJ9 0
theorem nmJ9 : ∀ a, a < 0 → ∀ b, b < 0 → a ≠ b → (TJ9 a).2.1 ≠ (TJ9 b).2.1 := by decide +kernel
theorem tyJ9_ok : ∀ k, k < 0 → parseFieldDescriptor (TJ9 k).2.2.1 = some (tyJ9 k) := by decide +kernel
abbrev cJ9_max_7cf53 : ByteArray := prog_13_method_65_code
def yJ9_max_7cf53 : MethodName := ⟨RJ9, "max", "(II)I"⟩
abbrev cJ9_min_7cf53 : ByteArray := prog_13_method_69_code
def yJ9_min_7cf53 : MethodName := ⟨RJ9, "min", "(II)I"⟩
def RJ0 : String := "java/lang/String"
def TJ0 : u_T := fun k => match k with
  | _ => ("", "", "", false)
def tyJ0 : Nat → FieldType := fun k => match k with
  | _ => .int
abbrev wsJ00 : List Cond := u_ws RJ0 TJ0 0
theorem nmJ0 : ∀ a, a < 0 → ∀ b, b < 0 → a ≠ b → (TJ0 a).2.1 ≠ (TJ0 b).2.1 := by decide +kernel
theorem tyJ0_ok : ∀ k, k < 0 → parseFieldDescriptor (TJ0 k).2.2.1 = some (tyJ0 k) := by decide +kernel
abbrev cJ0_length_8abf5 : ByteArray := prog_14_method_54_code
def yJ0_length_8abf5 : MethodName := ⟨RJ0, "length", "()I"⟩
abbrev cJ0_charAt_5068e : ByteArray := prog_14_method_56_code
def yJ0_charAt_5068e : MethodName := ⟨RJ0, "charAt", "(I)C"⟩
abbrev cJ0_coder_7d493 : ByteArray := prog_14_method_152_code
def yJ0_coder_7d493 : MethodName := ⟨RJ0, "coder", "()B"⟩
abbrev cJ0_isLatin1_aae02 : ByteArray := prog_14_method_154_code
def yJ0_isLatin1_aae02 : MethodName := ⟨RJ0, "isLatin1", "()Z"⟩
abbrev cJ0_checkIndex_df160 : ByteArray := prog_14_method_155_code
def yJ0_checkIndex_df160 : MethodName := ⟨RJ0, "checkIndex", "(II)V"⟩
def RJ1 : String := "java/lang/StringLatin1"
def TJ1 : u_T := fun k => match k with
  | _ => ("", "", "", false)
def tyJ1 : Nat → FieldType := fun k => match k with
  | _ => .int
abbrev wsJ10 : List Cond := u_ws RJ1 TJ1 0
theorem nmJ1 : ∀ a, a < 0 → ∀ b, b < 0 → a ≠ b → (TJ1 a).2.1 ≠ (TJ1 b).2.1 := by decide +kernel
theorem tyJ1_ok : ∀ k, k < 0 → parseFieldDescriptor (TJ1 k).2.2.1 = some (tyJ1 k) := by decide +kernel
abbrev cJ1_charAt_3b067 : ByteArray := prog_15_method_2_code
def yJ1_charAt_3b067 : MethodName := ⟨RJ1, "charAt", "([BI)C"⟩
def RJ2 : String := "java/lang/StringUTF16"
def TJ2 : u_T := fun k => match k with
  | _ => ("", "", "", false)
def tyJ2 : Nat → FieldType := fun k => match k with
  | _ => .int
abbrev wsJ20 : List Cond := u_ws RJ2 TJ2 0
theorem nmJ2 : ∀ a, a < 0 → ∀ b, b < 0 → a ≠ b → (TJ2 a).2.1 ≠ (TJ2 b).2.1 := by decide +kernel
theorem tyJ2_ok : ∀ k, k < 0 → parseFieldDescriptor (TJ2 k).2.2.1 = some (tyJ2 k) := by decide +kernel
abbrev cJ2_getChar_3b067 : ByteArray := prog_16_method_5_code
def yJ2_getChar_3b067 : MethodName := ⟨RJ2, "getChar", "([BI)C"⟩
abbrev cJ2_length_9d52b : ByteArray := prog_16_method_6_code
def yJ2_length_9d52b : MethodName := ⟨RJ2, "length", "([B)I"⟩
abbrev cJ2_charAt_3b067 : ByteArray := prog_16_method_83_code
def yJ2_charAt_3b067 : MethodName := ⟨RJ2, "charAt", "([BI)C"⟩
abbrev cJ2_checkIndex_2214a : ByteArray := prog_16_method_91_code
def yJ2_checkIndex_2214a : MethodName := ⟨RJ2, "checkIndex", "(I[B)V"⟩
def RJ10 : String := "java/lang/System"
def TJ10 : u_T := fun k => match k with
  | _ => ("", "", "", false)
def tyJ10 : Nat → FieldType := fun k => match k with
  | _ => .int
abbrev wsJ100 : List Cond := u_ws RJ10 TJ10 0
theorem nmJ10 : ∀ a, a < 0 → ∀ b, b < 0 → a ≠ b → (TJ10 a).2.1 ≠ (TJ10 b).2.1 := by decide +kernel
theorem tyJ10_ok : ∀ k, k < 0 → parseFieldDescriptor (TJ10 k).2.2.1 = some (tyJ10 k) := by decide +kernel
def RJ3 : String := "jdk/internal/util/Preconditions"
def TJ3 : u_T := fun k => match k with
  | _ => ("", "", "", false)
def tyJ3 : Nat → FieldType := fun k => match k with
  | _ => .int
abbrev wsJ30 : List Cond := u_ws RJ3 TJ3 0
theorem nmJ3 : ∀ a, a < 0 → ∀ b, b < 0 → a ≠ b → (TJ3 a).2.1 ≠ (TJ3 b).2.1 := by decide +kernel
theorem tyJ3_ok : ∀ k, k < 0 → parseFieldDescriptor (TJ3 k).2.2.1 = some (tyJ3 k) := by decide +kernel
abbrev cJ3_checkIndex_8e157 : ByteArray := prog_18_method_11_code
def yJ3_checkIndex_8e157 : MethodName := ⟨RJ3, "checkIndex", "(IILjava/util/function/BiFunction;)I"⟩
def RL : String := "ParrotSpeechLaw"
abbrev cL_law : ByteArray := code
abbrev vwCl : List vw_C := [(RX0, TX0, 3), (RX1, TX1, 5), (RX2, TX2, 4), (RX3, TX3, 4), (RX4, TX4, 2), (RX5, TX5, 4), (RX6, TX6, 7), (RX7, TX7, 9), (RX8, TX8, 11), (RX9, TX9, 42)]
end
section
/-! ===== the layout: cells by number, in the order in which the two constructors make them; method heads ===== -/
abbrev xV : Type := Int32 ⊕ (Int64 ⊕ (Nat × Nat × Nat))
abbrev xI (x : Int32) : xV := .inl x
abbrev xL (x : Int64) : xV := .inr (.inl x)
abbrev xR (s k i : Nat) : xV := .inr (.inr (s, k, i))
abbrev xM : Type := Nat → Nat → Int32
abbrev xRow : Type := Nat × Instr × Nat × Nat × Nat
abbrev xHd : Type := MethodName × ByteArray × Nat × Option FieldType
def xkd : List (Nat × Nat) := [(0, 8), (0, 5), (1, 200), (0, 0), (0, 7), (1, 8), (1, 8), (1, 80), (1, 4), (1, 4), (0, 6), (1, 200), (1, 200), (1, 6), (1, 16), (0, 7), (1, 8), (1, 8), (1, 80), (1, 4), (1, 4), (0, 7), (1, 8), (1, 8), (1, 80), (1, 4), (1, 4), (0, 7), (1, 8), (1, 8), (1, 80), (1, 4), (1, 4), (0, 4), (1, 64), (1, 4), (0, 1), (3, 8), (3, 2), (0, 7), (1, 8), (1, 8), (1, 80), (1, 4), (1, 4), (0, 7), (1, 8), (1, 8), (1, 80), (1, 4), (1, 4), (0, 7), (1, 8), (1, 8), (1, 80), (1, 4), (1, 4), (0, 7), (1, 8), (1, 8), (1, 80), (1, 4), (1, 4), (0, 7), (1, 8), (1, 8), (1, 80), (1, 4), (1, 4), (0, 7), (1, 8), (1, 8), (1, 80), (1, 4), (1, 4), (0, 7), (1, 8), (1, 8), (1, 80), (1, 4), (1, 4), (0, 7), (1, 8), (1, 8), (1, 80), (1, 4), (1, 4), (0, 7), (1, 8), (1, 8), (1, 80), (1, 4), (1, 4), (0, 7), (1, 8), (1, 8), (1, 80), (1, 4), (1, 4), (0, 3), (1, 6), (1, 6), (1, 6), (6, 3), (0, 2), (1, 12), (0, 2), (1, 12), (0, 2), (1, 12), (1, 32), (0, 9), (1, 1404), (2, 2), (1, 200), (1, 6), (1, 6), (1, 6), (1, 202), (1, 202), (1, 202), (1, 3), (1, 3), (1, 36), (1, 4), (1, 7), (1, 6), (1, 4), (1, 8), (1, 4), (1, 5), (1, 3), (1, 5), (1, 4), (1, 5), (1, 8), (2, 203), (2, 203), (1, 64), (1, 4), (1, 32), (1, 4), (1, 4), (1, 12)]
def xfr : List (List (Option (Nat × Nat × Nat × Bool))) := [[some (0, 5, 1, false), some (0, 7, 4, false), none],
  [some (3, 8, 37, false), some (3, 2, 38, false), none, none, none],
  [some (1, 12, 1, true), none, none, none],
  [some (1, 6, 100, false), some (1, 6, 101, false), some (1, 6, 102, false), none],
  [some (1, 64, 34, false), some (1, 4, 35, false)],
  [some (1, 200, 2, false), none, none, none],
  [some (1, 200, 11, false), some (1, 200, 12, false), some (1, 6, 13, false), some (1, 16, 14, false), none, none, none],
  [none, none, none, none, some (1, 8, 1, true), some (1, 8, 2, true), some (1, 80, 3, true), some (1, 4, 4, true), some (1, 4, 5, true)],
  [some (0, 5, 1, false), some (0, 0, 3, false), some (0, 6, 10, false), some (0, 7, 15, false), some (0, 7, 21, false), some (0, 7, 27, false), some (0, 4, 33, false), some (0, 1, 36, false), some (0, 3, 99, false), some (6, 3, 103, false), some (1, 32, 110, false)],
  [some (1, 1404, 112, false), none, some (2, 2, 113, false), some (1, 200, 114, false), none, none, some (1, 6, 115, false), some (1, 6, 116, false), some (1, 6, 117, false), none, some (1, 202, 118, false), some (1, 202, 119, false), some (1, 202, 120, false), some (1, 3, 121, false), some (1, 3, 122, false), some (1, 36, 123, false), none, none, none, none, some (1, 4, 124, false), none, none, some (1, 7, 125, false), some (1, 6, 126, false), some (1, 4, 127, false), some (1, 8, 128, false), some (1, 4, 129, false), some (1, 5, 130, false), some (1, 3, 131, false), some (1, 5, 132, false), some (1, 4, 133, false), some (1, 5, 134, false), some (1, 8, 135, false), some (2, 203, 136, false), some (2, 203, 137, false), some (1, 64, 138, false), some (1, 4, 139, false), some (1, 32, 140, false), some (1, 4, 141, false), some (1, 4, 142, false), some (1, 12, 143, false)]]
abbrev q_x : Nat := 0
abbrev q_text : Nat := 1
abbrev q_reader : Nat := 3
abbrev q_rworld : Nat := 4
abbrev q_grammar : Nat := 10
abbrev q_told : Nat := 15
abbrev q_now : Nat := 21
abbrev q_trial : Nat := 27
abbrev q_speech : Nat := 33
abbrev q_history : Nat := 36
abbrev q_sightings : Nat := 99
abbrev q_keptBy : Nat := 110
abbrev q_m : Nat := 111
abbrev q_m_row : Nat := 112
abbrev q_m_isKept : Nat := 113
abbrev q_m_text : Nat := 114
abbrev q_m_seenPerch : Nat := 115
abbrev q_m_seenPlace : Nat := 116
abbrev q_m_seenWord : Nat := 117
abbrev q_m_letters : Nat := 118
abbrev q_m_ends : Nat := 119
abbrev q_m_begins : Nat := 120
abbrev q_m_sizes : Nat := 121
abbrev q_m_sorts : Nat := 122
abbrev q_m_places : Nat := 123
abbrev q_m_readBy : Nat := 124
abbrev q_m_harbourWord : Nat := 125
abbrev q_m_parrotWord : Nat := 126
abbrev q_m_greyWord : Nat := 127
abbrev q_m_cockatooWord : Nat := 128
abbrev q_m_hawkWord : Nat := 129
abbrev q_m_greenWord : Nat := 130
abbrev q_m_manWord : Nat := 131
abbrev q_m_knowsWord : Nat := 132
abbrev q_m_sitsWord : Nat := 133
abbrev q_m_coverWord : Nat := 134
abbrev q_m_open : Nat := 135
abbrev q_m_isNow : Nat := 136
abbrev q_m_isThen : Nat := 137
abbrev q_m_saidWords : Nat := 138
abbrev q_m_saidMany : Nat := 139
abbrev q_m_keepsBy : Nat := 140
abbrev q_m_line : Nat := 141
abbrev q_m_bestLine : Nat := 142
abbrev q_m_moved : Nat := 143
abbrev xB0 : Nat := 39
abbrev xK0 : Nat := 87
abbrev xR0 : Nat := 104
abbrev xNC : Nat := 144
def xsg : List (MethodName × ByteArray × Nat × Option FieldType) := [
  (yX0_init, cX0_init, 2, none),
  (yX0_readOver, cX0_readOver, 2, some .int),
  (yX0_readClause, cX0_readClause, 2, some .boolean),
  (yX0_kindNamed, cX0_kindNamed, 1, some .int),
  (yX0_readBird, cX0_readBird, 3, some .boolean),
  (yX0_readMan, cX0_readMan, 2, some .boolean),
  (yX0_readKnows, cX0_readKnows, 4, some .boolean),
  (yX0_readSits, cX0_readSits, 4, some .boolean),
  (yX0_readCover, cX0_readCover, 2, some .boolean),
  (yX0_readNumber, cX0_readNumber, 2, some .int),
  (yX1_init, cX1_init, 2, none),
  (yX1_clear, cX1_clear, 1, none),
  (yX1_remember, cX1_remember, 2, none),
  (yX1_takeBack, cX1_takeBack, 2, none),
  (yX1_store, cX1_store, 3, none),
  (yX1_isStored, cX1_isStored, 2, some .boolean),
  (yX1_restore, cX1_restore, 3, none),
  (yX2_init, cX2_init, 1, none),
  (yX2_wind, cX2_wind, 4, none),
  (yX2_find, cX2_find, 3, some .int),
  (yX2_holds, cX2_holds, 3, some .boolean),
  (yX2_put, cX2_put, 3, some .int),
  (yX2_sound, cX2_sound, 3, some .int),
  (yX3_init, cX3_init, 1, none),
  (yX3_clear, cX3_clear, 1, none),
  (yX3_add, cX3_add, 4, none),
  (yX3_agreeWith, cX3_agreeWith, 3, some .boolean),
  (yX4_init, cX4_init, 1, none),
  (yX4_clear, cX4_clear, 2, none),
  (yX4_add, cX4_add, 3, none),
  (yX4_wordAt, cX4_wordAt, 3, some .int),
  (yX5_init, cX5_init, 1, none),
  (yX5_add, cX5_add, 2, none),
  (yX5_clear, cX5_clear, 1, none),
  (yX5_begin, cX5_begin, 1, none),
  (yX5_readToken, cX5_readToken, 1, none),
  (yX5_readLetter, cX5_readLetter, 1, none),
  (yX5_isOver, cX5_isOver, 1, some .boolean),
  (yX5_isSign, cX5_isSign, 2, some .boolean),
  (yX5_isRow, cX5_isRow, 3, some .boolean),
  (yX5_numberBelow, cX5_numberBelow, 3, some .int),
  (yX5_oneWord, cX5_oneWord, 1, some .int),
  (yX5_risingWords, cX5_risingWords, 5, some .int),
  (yX5_wordOf, cX5_wordOf, 1, some .int),
  (yX5_sortOf, cX5_sortOf, 1, some .int),
  (yX6_init, cX6_init, 1, none),
  (yX6_faultIn, cX6_faultIn, 5, some .int),
  (yX6_take, cX6_take, 5, none),
  (yX6_endsIn, cX6_endsIn, 4, some .int),
  (yX6_sumEnds, cX6_sumEnds, 9, some .int),
  (yX6_behindPart, cX6_behindPart, 2, some .int),
  (yX6_repeatedEnds, cX6_repeatedEnds, 8, some .int),
  (yX6_partEnds, cX6_partEnds, 5, some .int),
  (yX6_wordEnds, cX6_wordEnds, 5, some .int),
  (yX7_init, cX7_init, 1, none),
  (yX7_become, cX7_become, 2, none),
  (yX7_clear, cX7_clear, 1, none),
  (yX7_addBird, cX7_addBird, 4, none),
  (yX7_addMan, cX7_addMan, 2, none),
  (yX7_isCovered, cX7_isCovered, 2, some .boolean),
  (yX7_knowledge, cX7_knowledge, 3, some .int),
  (yX7_allKnowledge, cX7_allKnowledge, 4, some .int),
  (yX7_wellKnown, cX7_wellKnown, 4, some .int),
  (yX7_wellKnownBySome, cX7_wellKnownBySome, 3, some .int),
  (yX7_allWordsOfMen, cX7_allWordsOfMen, 3, some .int),
  (yX7_manBeside, cX7_manBeside, 3, some .int),
  (yX7_seat, cX7_seat, 4, none),
  (yX7_learn, cX7_learn, 5, none),
  (yX7_halve, cX7_halve, 3, none),
  (yX7_hearable, cX7_hearable, 2, some .int),
  (yX7_passEvening, cX7_passEvening, 4, none),
  (yX7_handOver, cX7_handOver, 4, none),
  (yX7_awakeOn, cX7_awakeOn, 4, some .int),
  (yX7_isSilenced, cX7_isSilenced, 3, some .boolean),
  (yX7_speakOn, cX7_speakOn, 5, none),
  (yX7_speak, cX7_speak, 8, none),
  (yX7_bestKnown, cX7_bestKnown, 7, some .int),
  (yX7_spread, cX7_spread, 4, none),
  (yX7_lose, cX7_lose, 4, none),
  (yX8_init, cX8_init, 2, none),
  (yX8_write, cX8_write, 2, some .int),
  (yX8_erase, cX8_erase, 2, some .int),
  (yX8_fault, cX8_fault, 2, some .int),
  (yX8_harbour, cX8_harbour, 1, some .int),
  (yX8_tongue, cX8_tongue, 1, some .int),
  (yX8_bird, cX8_bird, 3, some .int),
  (yX8_man, cX8_man, 3, some .int),
  (yX8_known, cX8_known, 5, some .int),
  (yX8_as, cX8_as, 4, some .int),
  (yX8_evening, cX8_evening, 3, some .int),
  (yX8_teach, cX8_teach, 3, some .int),
  (yX8_moult, cX8_moult, 2, some .int),
  (yX8_perch, cX8_perch, 4, some .int),
  (yX8_cover, cX8_cover, 2, some .int),
  (yX8_sit, cX8_sit, 4, some .int),
  (yX8_undo, cX8_undo, 1, some .int),
  (yX8_keep, cX8_keep, 2, some .int),
  (yX8_back, cX8_back, 2, some .int),
  (yX8_said, cX8_said, 3, some .int),
  (yX8_when, cX8_when, 5, some .int),
  (yX8_keeps, cX8_keeps, 4, some .int),
  (yX8_match, cX8_match, 5, some .int),
  (yX8_clean, cX8_clean, 7, some .int),
  (yX8_of, cX8_of, 5, some .int),
  (yX8_left, cX8_left, 8, some .int),
  (yX8_seen, cX8_seen, 4, some .int),
  (yX8_forget, cX8_forget, 2, some .int),
  (yX8_kinds, cX8_kinds, 4, some .int),
  (yX8_reel, cX8_reel, 4, some .int),
  (yX8_record, cX8_record, 6, some .int),
  (yX8_play, cX8_play, 5, some .int),
  (yX8_splice, cX8_splice, 8, some .int),
  (yX8_drop, cX8_drop, 2, some .int),
  (yX8_count, cX8_count, 2, some .int),
  (yX8_isNot, cX8_isNot, 3, some .boolean),
  (yX8_noBird, cX8_noBird, 2, some .boolean),
  (yX8_noMan, cX8_noMan, 2, some .boolean),
  (yX8_noWord, cX8_noWord, 1, some .boolean),
  (yX8_noPerch, cX8_noPerch, 1, some .boolean),
  (yX8_noReel, cX8_noReel, 1, some .boolean),
  (yX8_noSort, cX8_noSort, 1, some .boolean),
  (yX8_foretellSpeech, cX8_foretellSpeech, 1, none),
  (yX8_keptWords, cX8_keptWords, 5, some .int),
  (yX8_mostKept, cX8_mostKept, 5, some .int),
  (yX8_matchOf, cX8_matchOf, 5, some .int),
  (yX8_leastChoice, cX8_leastChoice, 5, some .int),
  (yX8_staysClean, cX8_staysClean, 6, some .boolean),
  (yX8_commonDivisor, cX8_commonDivisor, 6, some .int),
  (yX8_reelsThere, cX8_reelsThere, 3, some .int),
  (yX9_init, cX9_init, 1, none),
  (yX9_in, cX9_in, 6, some .boolean),
  (yX9_has, cX9_has, 2, some .boolean),
  (yX9_bits, cX9_bits, 3, some .int),
  (yX9_write, cX9_write, 2, some .int),
  (yX9_erase, cX9_erase, 2, some .int),
  (yX9_isLetter, cX9_isLetter, 1, some .boolean),
  (yX9_isDigit, cX9_isDigit, 1, some .boolean),
  (yX9_nextToken, cX9_nextToken, 1, none),
  (yX9_isWord, cX9_isWord, 4, some .boolean),
  (yX9_numberHere, cX9_numberHere, 3, some .int),
  (yX9_number, cX9_number, 3, some .int),
  (yX9_words, cX9_words, 6, some .int),
  (yX9_kindHere, cX9_kindHere, 1, some .int),
  (yX9_readsBird, cX9_readsBird, 3, some .boolean),
  (yX9_readsMan, cX9_readsMan, 2, some .boolean),
  (yX9_readsKnows, cX9_readsKnows, 5, some .boolean),
  (yX9_readsSits, cX9_readsSits, 5, some .boolean),
  (yX9_readsCover, cX9_readsCover, 2, some .boolean),
  (yX9_readsHarbour, cX9_readsHarbour, 2, some .boolean),
  (yX9_readsClause, cX9_readsClause, 1, some .boolean),
  (yX9_reads, cX9_reads, 3, some .boolean),
  (yX9_copyHarbour, cX9_copyHarbour, 4, none),
  (yX9_harbour, cX9_harbour, 1, some .int),
  (yX9_tongueFault, cX9_tongueFault, 8, some .int),
  (yX9_fault, cX9_fault, 2, some .int),
  (yX9_layTongue, cX9_layTongue, 4, none),
  (yX9_tongue, cX9_tongue, 3, some .int),
  (yX9_mark, cX9_mark, 3, some .boolean),
  (yX9_goesOn, cX9_goesOn, 5, some .boolean),
  (yX9_goOnAll, cX9_goOnAll, 3, none),
  (yX9_hearWord, cX9_hearWord, 3, none),
  (yX9_hears, cX9_hears, 1, some .int),
  (yX9_gets, cX9_gets, 1, some .int),
  (yX9_says, cX9_says, 1, some .int),
  (yX9_loses, cX9_loses, 1, some .int),
  (yX9_isBird, cX9_isBird, 2, some .boolean),
  (yX9_isMan, cX9_isMan, 2, some .boolean),
  (yX9_isWordNumber, cX9_isWordNumber, 1, some .boolean),
  (yX9_isOpen, cX9_isOpen, 3, some .boolean),
  (yX9_learns, cX9_learns, 6, none),
  (yX9_manOf, cX9_manOf, 5, some .int),
  (yX9_wellKnown, cX9_wellKnown, 5, some .int),
  (yX9_bird, cX9_bird, 3, some .int),
  (yX9_man, cX9_man, 3, some .int),
  (yX9_as, cX9_as, 5, some .int),
  (yX9_handOver, cX9_handOver, 6, none),
  (yX9_isSilent, cX9_isSilent, 5, some .boolean),
  (yX9_bestWord, cX9_bestWord, 8, some .int),
  (yX9_say, cX9_say, 6, none),
  (yX9_speak, cX9_speak, 7, none),
  (yX9_lose, cX9_lose, 5, none),
  (yX9_passes, cX9_passes, 3, none),
  (yX9_layTried, cX9_layTried, 1, none),
  (yX9_passTried, cX9_passTried, 3, none),
  (yX9_known, cX9_known, 4, some .int),
  (yX9_keepPast, cX9_keepPast, 2, none),
  (yX9_evening, cX9_evening, 3, some .int),
  (yX9_teach, cX9_teach, 3, some .int),
  (yX9_moult, cX9_moult, 4, some .int),
  (yX9_perch, cX9_perch, 4, some .int),
  (yX9_cover, cX9_cover, 2, some .int),
  (yX9_sets, cX9_sets, 5, none),
  (yX9_sit, cX9_sit, 4, some .int),
  (yX9_undo, cX9_undo, 1, some .int),
  (yX9_keep, cX9_keep, 2, some .int),
  (yX9_back, cX9_back, 2, some .int),
  (yX9_saidAt, cX9_saidAt, 3, some .int),
  (yX9_said, cX9_said, 3, some .int),
  (yX9_when, cX9_when, 5, some .int),
  (yX9_keptBy, cX9_keptBy, 4, some .int),
  (yX9_keeps, cX9_keeps, 4, some .int),
  (yX9_keptByLine, cX9_keptByLine, 6, some .int),
  (yX9_nextLine, cX9_nextLine, 2, some .boolean),
  (yX9_match, cX9_match, 7, some .int),
  (yX9_clean, cX9_clean, 7, some .int),
  (yX9_of, cX9_of, 5, some .int),
  (yX9_left, cX9_left, 9, some .int),
  (yX9_seen, cX9_seen, 4, some .int),
  (yX9_forget, cX9_forget, 2, some .int),
  (yX9_kinds, cX9_kinds, 6, some .int),
  (yX9_isReel, cX9_isReel, 1, some .boolean),
  (yX9_reel, cX9_reel, 5, some .int),
  (yX9_noPlace, cX9_noPlace, 4, some .int),
  (yX9_record, cX9_record, 7, some .int),
  (yX9_play, cX9_play, 6, some .int),
  (yX9_isSpan, cX9_isSpan, 4, some .boolean),
  (yX9_splice, cX9_splice, 7, some .int),
  (yX9_drop, cX9_drop, 3, some .int),
  (yX9_menWords, cX9_menWords, 3, some .int),
  (yX9_allWellKnown, cX9_allWellKnown, 3, some .int),
  (yX9_reelsThere, cX9_reelsThere, 3, some .int),
  (yX9_count, cX9_count, 2, some .int),
  (yJ6_numberOfTrailingZeros_0f7a4, cJ6_numberOfTrailingZeros_0f7a4, 2, some .int),
  (yJ6_bitCount_0f7a4, cJ6_bitCount_0f7a4, 1, some .int),
  (yJ9_max_7cf53, cJ9_max_7cf53, 2, some .int),
  (yJ9_min_7cf53, cJ9_min_7cf53, 2, some .int),
  (yJ0_length_8abf5, cJ0_length_8abf5, 1, some .int),
  (yJ0_charAt_5068e, cJ0_charAt_5068e, 2, some .char),
  (yJ0_coder_7d493, cJ0_coder_7d493, 1, some .byte),
  (yJ0_isLatin1_aae02, cJ0_isLatin1_aae02, 1, some .boolean),
  (yJ0_checkIndex_df160, cJ0_checkIndex_df160, 2, none),
  (yJ1_charAt_3b067, cJ1_charAt_3b067, 2, some .char),
  (yJ2_getChar_3b067, cJ2_getChar_3b067, 2, some .char),
  (yJ2_length_9d52b, cJ2_length_9d52b, 1, some .int),
  (yJ2_charAt_3b067, cJ2_charAt_3b067, 2, some .char),
  (yJ2_checkIndex_2214a, cJ2_checkIndex_2214a, 2, none),
  (yJ3_checkIndex_8e157, cJ3_checkIndex_8e157, 3, some .int)]
abbrev iX0_init : Nat := 0
abbrev iX0_readOver : Nat := 1
abbrev iX0_readClause : Nat := 2
abbrev iX0_kindNamed : Nat := 3
abbrev iX0_readBird : Nat := 4
abbrev iX0_readMan : Nat := 5
abbrev iX0_readKnows : Nat := 6
abbrev iX0_readSits : Nat := 7
abbrev iX0_readCover : Nat := 8
abbrev iX0_readNumber : Nat := 9
abbrev iX1_init : Nat := 10
abbrev iX1_clear : Nat := 11
abbrev iX1_remember : Nat := 12
abbrev iX1_takeBack : Nat := 13
abbrev iX1_store : Nat := 14
abbrev iX1_isStored : Nat := 15
abbrev iX1_restore : Nat := 16
abbrev iX2_init : Nat := 17
abbrev iX2_wind : Nat := 18
abbrev iX2_find : Nat := 19
abbrev iX2_holds : Nat := 20
abbrev iX2_put : Nat := 21
abbrev iX2_sound : Nat := 22
abbrev iX3_init : Nat := 23
abbrev iX3_clear : Nat := 24
abbrev iX3_add : Nat := 25
abbrev iX3_agreeWith : Nat := 26
abbrev iX4_init : Nat := 27
abbrev iX4_clear : Nat := 28
abbrev iX4_add : Nat := 29
abbrev iX4_wordAt : Nat := 30
abbrev iX5_init : Nat := 31
abbrev iX5_add : Nat := 32
abbrev iX5_clear : Nat := 33
abbrev iX5_begin : Nat := 34
abbrev iX5_readToken : Nat := 35
abbrev iX5_readLetter : Nat := 36
abbrev iX5_isOver : Nat := 37
abbrev iX5_isSign : Nat := 38
abbrev iX5_isRow : Nat := 39
abbrev iX5_numberBelow : Nat := 40
abbrev iX5_oneWord : Nat := 41
abbrev iX5_risingWords : Nat := 42
abbrev iX5_wordOf : Nat := 43
abbrev iX5_sortOf : Nat := 44
abbrev iX6_init : Nat := 45
abbrev iX6_faultIn : Nat := 46
abbrev iX6_take : Nat := 47
abbrev iX6_endsIn : Nat := 48
abbrev iX6_sumEnds : Nat := 49
abbrev iX6_behindPart : Nat := 50
abbrev iX6_repeatedEnds : Nat := 51
abbrev iX6_partEnds : Nat := 52
abbrev iX6_wordEnds : Nat := 53
abbrev iX7_init : Nat := 54
abbrev iX7_become : Nat := 55
abbrev iX7_clear : Nat := 56
abbrev iX7_addBird : Nat := 57
abbrev iX7_addMan : Nat := 58
abbrev iX7_isCovered : Nat := 59
abbrev iX7_knowledge : Nat := 60
abbrev iX7_allKnowledge : Nat := 61
abbrev iX7_wellKnown : Nat := 62
abbrev iX7_wellKnownBySome : Nat := 63
abbrev iX7_allWordsOfMen : Nat := 64
abbrev iX7_manBeside : Nat := 65
abbrev iX7_seat : Nat := 66
abbrev iX7_learn : Nat := 67
abbrev iX7_halve : Nat := 68
abbrev iX7_hearable : Nat := 69
abbrev iX7_passEvening : Nat := 70
abbrev iX7_handOver : Nat := 71
abbrev iX7_awakeOn : Nat := 72
abbrev iX7_isSilenced : Nat := 73
abbrev iX7_speakOn : Nat := 74
abbrev iX7_speak : Nat := 75
abbrev iX7_bestKnown : Nat := 76
abbrev iX7_spread : Nat := 77
abbrev iX7_lose : Nat := 78
abbrev iX8_init : Nat := 79
abbrev iX8_write : Nat := 80
abbrev iX8_erase : Nat := 81
abbrev iX8_fault : Nat := 82
abbrev iX8_harbour : Nat := 83
abbrev iX8_tongue : Nat := 84
abbrev iX8_bird : Nat := 85
abbrev iX8_man : Nat := 86
abbrev iX8_known : Nat := 87
abbrev iX8_as : Nat := 88
abbrev iX8_evening : Nat := 89
abbrev iX8_teach : Nat := 90
abbrev iX8_moult : Nat := 91
abbrev iX8_perch : Nat := 92
abbrev iX8_cover : Nat := 93
abbrev iX8_sit : Nat := 94
abbrev iX8_undo : Nat := 95
abbrev iX8_keep : Nat := 96
abbrev iX8_back : Nat := 97
abbrev iX8_said : Nat := 98
abbrev iX8_when : Nat := 99
abbrev iX8_keeps : Nat := 100
abbrev iX8_match : Nat := 101
abbrev iX8_clean : Nat := 102
abbrev iX8_of : Nat := 103
abbrev iX8_left : Nat := 104
abbrev iX8_seen : Nat := 105
abbrev iX8_forget : Nat := 106
abbrev iX8_kinds : Nat := 107
abbrev iX8_reel : Nat := 108
abbrev iX8_record : Nat := 109
abbrev iX8_play : Nat := 110
abbrev iX8_splice : Nat := 111
abbrev iX8_drop : Nat := 112
abbrev iX8_count : Nat := 113
abbrev iX8_isNot : Nat := 114
abbrev iX8_noBird : Nat := 115
abbrev iX8_noMan : Nat := 116
abbrev iX8_noWord : Nat := 117
abbrev iX8_noPerch : Nat := 118
abbrev iX8_noReel : Nat := 119
abbrev iX8_noSort : Nat := 120
abbrev iX8_foretellSpeech : Nat := 121
abbrev iX8_keptWords : Nat := 122
abbrev iX8_mostKept : Nat := 123
abbrev iX8_matchOf : Nat := 124
abbrev iX8_leastChoice : Nat := 125
abbrev iX8_staysClean : Nat := 126
abbrev iX8_commonDivisor : Nat := 127
abbrev iX8_reelsThere : Nat := 128
abbrev iX9_init : Nat := 129
abbrev iX9_in : Nat := 130
abbrev iX9_has : Nat := 131
abbrev iX9_bits : Nat := 132
abbrev iX9_write : Nat := 133
abbrev iX9_erase : Nat := 134
abbrev iX9_isLetter : Nat := 135
abbrev iX9_isDigit : Nat := 136
abbrev iX9_nextToken : Nat := 137
abbrev iX9_isWord : Nat := 138
abbrev iX9_numberHere : Nat := 139
abbrev iX9_number : Nat := 140
abbrev iX9_words : Nat := 141
abbrev iX9_kindHere : Nat := 142
abbrev iX9_readsBird : Nat := 143
abbrev iX9_readsMan : Nat := 144
abbrev iX9_readsKnows : Nat := 145
abbrev iX9_readsSits : Nat := 146
abbrev iX9_readsCover : Nat := 147
abbrev iX9_readsHarbour : Nat := 148
abbrev iX9_readsClause : Nat := 149
abbrev iX9_reads : Nat := 150
abbrev iX9_copyHarbour : Nat := 151
abbrev iX9_harbour : Nat := 152
abbrev iX9_tongueFault : Nat := 153
abbrev iX9_fault : Nat := 154
abbrev iX9_layTongue : Nat := 155
abbrev iX9_tongue : Nat := 156
abbrev iX9_mark : Nat := 157
abbrev iX9_goesOn : Nat := 158
abbrev iX9_goOnAll : Nat := 159
abbrev iX9_hearWord : Nat := 160
abbrev iX9_hears : Nat := 161
abbrev iX9_gets : Nat := 162
abbrev iX9_says : Nat := 163
abbrev iX9_loses : Nat := 164
abbrev iX9_isBird : Nat := 165
abbrev iX9_isMan : Nat := 166
abbrev iX9_isWordNumber : Nat := 167
abbrev iX9_isOpen : Nat := 168
abbrev iX9_learns : Nat := 169
abbrev iX9_manOf : Nat := 170
abbrev iX9_wellKnown : Nat := 171
abbrev iX9_bird : Nat := 172
abbrev iX9_man : Nat := 173
abbrev iX9_as : Nat := 174
abbrev iX9_handOver : Nat := 175
abbrev iX9_isSilent : Nat := 176
abbrev iX9_bestWord : Nat := 177
abbrev iX9_say : Nat := 178
abbrev iX9_speak : Nat := 179
abbrev iX9_lose : Nat := 180
abbrev iX9_passes : Nat := 181
abbrev iX9_layTried : Nat := 182
abbrev iX9_passTried : Nat := 183
abbrev iX9_known : Nat := 184
abbrev iX9_keepPast : Nat := 185
abbrev iX9_evening : Nat := 186
abbrev iX9_teach : Nat := 187
abbrev iX9_moult : Nat := 188
abbrev iX9_perch : Nat := 189
abbrev iX9_cover : Nat := 190
abbrev iX9_sets : Nat := 191
abbrev iX9_sit : Nat := 192
abbrev iX9_undo : Nat := 193
abbrev iX9_keep : Nat := 194
abbrev iX9_back : Nat := 195
abbrev iX9_saidAt : Nat := 196
abbrev iX9_said : Nat := 197
abbrev iX9_when : Nat := 198
abbrev iX9_keptBy : Nat := 199
abbrev iX9_keeps : Nat := 200
abbrev iX9_keptByLine : Nat := 201
abbrev iX9_nextLine : Nat := 202
abbrev iX9_match : Nat := 203
abbrev iX9_clean : Nat := 204
abbrev iX9_of : Nat := 205
abbrev iX9_left : Nat := 206
abbrev iX9_seen : Nat := 207
abbrev iX9_forget : Nat := 208
abbrev iX9_kinds : Nat := 209
abbrev iX9_isReel : Nat := 210
abbrev iX9_reel : Nat := 211
abbrev iX9_noPlace : Nat := 212
abbrev iX9_record : Nat := 213
abbrev iX9_play : Nat := 214
abbrev iX9_isSpan : Nat := 215
abbrev iX9_splice : Nat := 216
abbrev iX9_drop : Nat := 217
abbrev iX9_menWords : Nat := 218
abbrev iX9_allWellKnown : Nat := 219
abbrev iX9_reelsThere : Nat := 220
abbrev iX9_count : Nat := 221
abbrev iJ6_numberOfTrailingZeros_0f7a4 : Nat := 222
abbrev iJ6_bitCount_0f7a4 : Nat := 223
abbrev iJ9_max_7cf53 : Nat := 224
abbrev iJ9_min_7cf53 : Nat := 225
abbrev iJ0_length_8abf5 : Nat := 226
abbrev iJ0_charAt_5068e : Nat := 227
abbrev iJ0_coder_7d493 : Nat := 228
abbrev iJ0_isLatin1_aae02 : Nat := 229
abbrev iJ0_checkIndex_df160 : Nat := 230
abbrev iJ1_charAt_3b067 : Nat := 231
abbrev iJ2_getChar_3b067 : Nat := 232
abbrev iJ2_length_9d52b : Nat := 233
abbrev iJ2_charAt_3b067 : Nat := 234
abbrev iJ2_checkIndex_2214a : Nat := 235
abbrev iJ3_checkIndex_8e157 : Nat := 236
def xsn (k : Nat) : String := ["", "HEARS", "GETS", "SAYS", "LOSES", "IS"].getD k ""
def xtab : List (List Int32) := [[], [1, 1, 1, 0, 2], [3, 5, 3, 0, 0], [1, 1, 2, 0, 0], [1, 0, 1, 0, 0], [3, 7, 11, 17, 49]]
def xtv (k j : Nat) : Int32 := (xtab.getD k []).getD j 0
def xsp (k : Nat) : Nat := [89, 91, 93, 95, 97, 60, 69, 74, 79, 84].getD k 0
def xsx (k : Nat) : String := ["parrot", "grey", "cockatoo", "hawk", "green", "harbour", "man", "knows", "sits", "cover"].getD k ""
def xsl : List Nat := [6, 4, 8, 4, 5, 7, 3, 5, 4, 5]
def xsb : List (List Int32) := [[112, 97, 114, 114, 111, 116], [103, 114, 101, 121], [99, 111, 99, 107, 97, 116, 111, 111], [104, 97, 119, 107], [103, 114, 101, 101, 110], [104, 97, 114, 98, 111, 117, 114], [109, 97, 110], [107, 110, 111, 119, 115], [115, 105, 116, 115], [99, 111, 118, 101, 114]]
def xnst : List (Nat × String) := [(88, "GETS"), (102, "SAYS"), (115, "HEARS"), (118, "LOSES")]
end
section
/-! ===== the engine: a method's walk over the layout, as a weakest precondition ===== -/
/-- launch, addresses of the cells, classes and slots, array classes, static rows, String constants and their bytes, the script -/
abbrev xG : Type := Launch × (Nat → Nat) × va_G × (Nat → ClassId) × (Nat → Nat) × (Nat → Nat) × (Nat → Nat) × (Nat × Nat × (Nat → Int32))
abbrev xG.l (Γ : xG) : Launch := Γ.1
abbrev xG.r (Γ : xG) : Nat → Nat := Γ.2.1
abbrev xG.d (Γ : xG) : va_G := Γ.2.2.1
abbrev xG.c (Γ : xG) : Nat → ClassId := Γ.2.2.2.1
abbrev xG.t (Γ : xG) : Nat → Nat := Γ.2.2.2.2.1
abbrev xG.k (Γ : xG) : Nat → Nat := Γ.2.2.2.2.2.1
abbrev xG.v (Γ : xG) : Nat → Nat := Γ.2.2.2.2.2.2.1
abbrev xG.s (Γ : xG) : Nat × Nat × (Nat → Int32) := Γ.2.2.2.2.2.2.2
def xfR (c j w : Nat) : Option (Nat × Nat × Nat) := match (xfr.getD c []).getD j none with
  | none => none
  | some (s, k, o, r) => some (s, k, match r with | true => w + o | false => o)
def xnf (c : Nat) : Nat := (xfr.getD c []).length
def xup (D : xM) (i j : Nat) (v : Int32) : xM := fun a b => if a = i ∧ b = j then v else D a b
def xad (Γ : xG) (s k i : Nat) : Nat := match s with
  | 4 => Γ.t k
  | 5 => Γ.k k
  | 7 => Γ.v k
  | 8 => Γ.s.1
  | _ => Γ.r i
def xcv (Γ : xG) (v : xV) : Value := match v with
  | .inl x => .int x
  | .inr (.inl x) => .long x
  | .inr (.inr (s, k, i)) => .ref (xad Γ s k i)
/-- a reference that is one -/
def xvr (s k i : Nat) : Prop := match s with
  | 4 => 1 ≤ k ∧ k ≤ 5
  | 5 => k < 10
  | 7 => k < 10
  | 8 => True
  | s => s ≤ 6 ∧ xkd[i]? = some (s, k)
def xvv (v : xV) : Prop := match v with
  | .inr (.inr (s, k, i)) => xvr s k i
  | _ => True
def xfv (D : xM) (c i j : Nat) : xV := match xfR c j i with
  | some (s, k, w) => .inr (.inr (s, k, w))
  | none => .inl (D i j)
def xelB (k j : Nat) : Nat := match k with
  | 8 => xB0 + 6 * j
  | _ => xK0 + 6 * j
def xce (Γ : xG) (D : xM) (i : Nat) (q : Nat × Nat) : va_E := match q.1 with
  | 0 => .inr (q.2, (List.range (xnf q.2)).map (fun j => xcv Γ (xfv D q.2 i j)))
  | 1 => .inl (Γ.c 0, q.2, .inl (D i))
  | 2 => .inl (Γ.c 1, q.2, .inl (D i))
  | 3 => .inl (Γ.c 2, q.2, .inr (.inr (.inr (.inr (fun j => some (Γ.r (xelB q.2 j)))))))
  | _ => .inl (Γ.c 3, q.2, .inr (.inr (.inr (.inr (fun j => some (Γ.r (xR0 + 2 * j)))))))
def xws (Γ : xG) (D : xM) : va_W := (List.range xNC).map (fun i => (Γ.r i, xce Γ D i (xkd.getD i (0, 0))))
def xA (Γ : xG) : Nat → Prop := fun q => ∃ i, i < xNC ∧ q = Γ.r i
def xH (Γ : xG) (D : xM) (H : Heap) : Prop := va_P Γ.d vwCl (xws Γ D) H
abbrev xty (Γ : xG) : List (ClassId × FieldType) := [(Γ.c 0, .int), (Γ.c 1, .boolean), (Γ.c 2, .object RX7), (Γ.c 3, .object RX2)]
/-- what holds of a state, beside the cells -/
def xS (Γ : xG) (s : State) : Prop := va_K Γ.d vwCl (xty Γ) s ∧ (∀ i j, i < xNC → j < xNC → Γ.r i = Γ.r j → i = j) ∧
  (∀ k, 1 ≤ k → k ≤ 5 → va_Z "ParrotSpeech" (xsn k) "[I" (.ref (Γ.t k)) (xA Γ) s s.heap ∧ va_T .int (Γ.t k) 5 (fun j => .int (xtv k j)) (xA Γ) s s.heap) ∧
  (∀ k, k < 10 → vk_R "ParrotSpeech$HarbourReader" (xsp k) (xsx k) (Γ.k k) s) ∧ vk_S 10 xsl xsb Γ.k Γ.v (xA Γ) s s.heap ∧
  va_Z "java/lang/String" "COMPACT_STRINGS" "Z" (.int 1) (xA Γ) s s.heap ∧ (va_X Γ.s.1 Γ.s.2.1 Γ.s.2.2 s s.heap ∧ Γ.s.1 < s.heap.size ∧ ¬ xA Γ Γ.s.1 ∧ ∀ q ∈ xnst, va_Nw (.fieldLinkNest "ParrotSpeech$World" q.1 "ParrotSpeech" q.2 "[I" "ParrotSpeech") s)
theorem xS.warm {Γ : xG} {s U : State} (h : xS Γ s) (hW : s.WarmedH U.vm) (hz : s.heap.size ≤ U.heap.size) (hq : ∀ a : Nat, a < s.heap.size → ¬ xA Γ a → U.heap[a]? = s.heap[a]?) : xS Γ U := by
  obtain ⟨h1, h2, h3, h4, h5, h6, h7, h8, h9, h10⟩ := h
  have hv := hW.alike
  exact ⟨va_K.moved hv h1, h2, fun k a b => ⟨va_Z.moved hv ((h3 k a b).1.kept hq), va_T.moved hv ((h3 k a b).2.kept hq)⟩, fun k a => (h4 k a).warm hW, vk_S.moved hv (h5.kept hq), va_Z.moved hv (h6.kept hq), va_X.moved hv (h7.kept (hq _ h8 h9)), Nat.lt_of_lt_of_le h8 hz, h9, fun q m => va_Nw.warmF hW (h10 q m)⟩
theorem xS.same {Γ : xG} {s U : State} (h : xS Γ s) (hv : U.vm = s.vm) (hh : U.heap = s.heap) : xS Γ U := by
  obtain ⟨h1, h2, h3, h4, h5, h6, h7, h8, h9, h10⟩ := h
  have ha : s.vm.Alike U.vm := by rw [hv]; exact Vm.Alike.refl _
  rw [xS, hh]
  exact ⟨va_K.moved ha h1, h2, fun k a b => ⟨va_Z.moved ha (h3 k a b).1, va_T.moved ha (h3 k a b).2⟩, fun k a => (h4 k a).same hv, vk_S.moved ha h5, va_Z.moved ha h6, va_X.moved ha h7, h8, h9, fun q m => va_Nw.same rfl hv.symm (h10 q m)⟩
/-- the tables' words that travel to a callee -/
def xtb : List Cond := lw_tbl.filter goodWord
theorem xtb_good {w : Cond} (h : w ∈ xtb) : (w.onTables && w.keeps) = true ∨ ∃ ty, w = .arrayClass ty := good_of_word (List.mem_filter.mp h).2
def xin (w : Cond) : Bool := decide (w ∈ lw_tbl) && goodWord w
theorem xin_mem {w : Cond} (h : xin w = true) : w ∈ xtb := by
  rw [xin, Bool.and_eq_true, decide_eq_true_eq] at h
  exact List.mem_filter.mpr h
def xnum (n : Int) : Int32 := match n with
  | .ofNat k => Int32.ofNat k
  | .negSucc k => -(Int32.ofNat (k + 1))
/-- the word of a method's code, as a caller needs it -/
def xcd (h : xHd) : Cond := .code h.1 h.2.1 h.2.2.1 h.2.2.2
def xcall (own : String) (idx b : Nat) (h : xHd) : Bool :=
  xin (.methodLink own idx h.1) && xin (.initialized h.1.cls) && xin (xcd h) && decide (h.1.cls ≠ "java/lang/invoke/MethodHandle" ∧ h.1.cls ≠ "java/lang/invoke/VarHandle") && decide ((parseMethodDescriptor h.1.desc).map (fun d => d.parameters.length) = some b) && decide (h.2.2.1 ≤ 40)
/-- what a row must be for its step -/
def xok (h : xHd) (r : xRow) : Bool := decide (decode h.2.1 r.1 = .ok (r.2.1, r.2.2.1)) && match r.2.1 with
  | .iconst n => decide (Int32.ofInt n = xnum n)
  | .bipush n => decide ((Int8.ofInt n).toInt32 = xnum n)
  | .sipush n => decide ((Int16.ofInt n).toInt32 = xnum n)
  | .iinc _ n => decide (Int32.ofInt n = xnum n)
  | .goto off => decide ((r.1 : Int) + off = (r.2.2.2.1 : Int))
  | .if_icmp _ off => decide ((r.1 : Int) + off = (r.2.2.2.1 : Int))
  | .ifCond _ off => decide ((r.1 : Int) + off = (r.2.2.2.1 : Int))
  | .getfield idx => if r.2.2.2.1 = 10 then (if r.2.2.2.2 = 0 then xin (.fieldLink h.1.cls idx "java/lang/String" "value" "[B") else decide (r.2.2.2.2 = 1) && xin (.fieldLink h.1.cls idx "java/lang/String" "coder" "B")) else match vwCl[r.2.2.2.1]? with
    | some (_, T, N) => decide (N = xnf r.2.2.2.1) && decide (r.2.2.2.2 < N) && xin (.fieldLink h.1.cls idx (T r.2.2.2.2).1 (T r.2.2.2.2).2.1 (T r.2.2.2.2).2.2.1)
    | none => false
  | .putfield idx => match vwCl[r.2.2.2.1]? with
    | some (_, T, N) => (if r.2.2.2.2 < 100 then decide (N = xnf r.2.2.2.1) && decide (r.2.2.2.2 < N) && decide ((T r.2.2.2.2).2.2.2 = false) && decide (parseFieldDescriptor (T r.2.2.2.2).2.2.1 = some .int) && xin (.fieldLink h.1.cls idx (T r.2.2.2.2).1 (T r.2.2.2.2).2.1 (T r.2.2.2.2).2.2.1) else decide (N = xnf r.2.2.2.1) && decide (r.2.2.2.2 - 100 < N) && decide ((T (r.2.2.2.2 - 100)).2.2.2 = false) && decide (parseFieldDescriptor (T (r.2.2.2.2 - 100)).2.2.1 = some .boolean) && xin (.fieldLink h.1.cls idx (T (r.2.2.2.2 - 100)).1 (T (r.2.2.2.2 - 100)).2.1 (T (r.2.2.2.2 - 100)).2.2.1))
    | none => false
  | .getstatic idx => if r.2.2.2.1 = 0 then xin (.fieldLink h.1.cls idx "java/lang/String" "COMPACT_STRINGS" "Z") else decide (r.2.2.2.1 ≤ 5) && (if r.2.2.2.2 = 0 then xin (.fieldLink h.1.cls idx "ParrotSpeech" (xsn r.2.2.2.1) "[I") else decide (h.1.cls = "ParrotSpeech$World") && decide ((idx, xsn r.2.2.2.1) ∈ xnst))
  | .ldc idx => if r.2.2.2.2 = 0 then xin (.constant h.1.cls idx (Int32.ofNat r.2.2.2.1)) else decide (r.2.2.2.1 < 10) && decide (h.1.cls = "ParrotSpeech$HarbourReader") && decide (xsp r.2.2.2.1 = idx)
  | .ldc_w idx => xin (.constant h.1.cls idx (Int32.ofNat r.2.2.2.1))
  | .ldc2_w idx => xin (.constantLong h.1.cls idx (Int64.ofNat r.2.2.2.1))
  | .invokevirtual idx => match xsg[r.2.2.2.1]? with
    | some g => xcall h.1.cls idx r.2.2.2.2 g && xin (.instanceMethod g.1) && xin (.selects g.1.cls g.1 g.1)
    | none => false
  | .invokestatic idx => if r.2.2.2.1 = 1000 then xin (.methodLink h.1.cls idx arraycopyName) && xin (.native arraycopyName) && xin (.static arraycopyName) && xin (.initialized "java/lang/System") else match xsg[r.2.2.2.1]? with
    | some g => xcall h.1.cls idx r.2.2.2.2 g && xin (.static g.1)
    | none => false
  | _ => true
def xck (h : xHd) (rows : List xRow) : Bool := decide (h.2.2.1 ≤ 40) && rows.all (xok h)
abbrev xSt : Type := Nat × List (Option xV) × List xV × xM
/-- locals without longs: a store there takes nothing else away -/
def xnl : List (Option xV) → Bool
  | [] => true
  | some (.inr (.inl _)) :: _ => false
  | _ :: r => xnl r
def xldi (lv : List (Option xV)) (i pc : Nat) (st : List xV) (D : xM) : Option xSt := match lv[i]? with
  | some (some (.inl x)) => some (pc, lv, .inl x :: st, D)
  | _ => none
def xldl (lv : List (Option xV)) (i pc : Nat) (st : List xV) (D : xM) : Option xSt := match lv[i]? with
  | some (some (.inr (.inl x))) => some (pc, lv, .inr (.inl x) :: st, D)
  | _ => none
def xlda (lv : List (Option xV)) (i pc : Nat) (st : List xV) (D : xM) : Option xSt := match lv[i]? with
  | some (some (.inr (.inr q))) => some (pc, lv, .inr (.inr q) :: st, D)
  | _ => none
def xsto (lv : List (Option xV)) (i pc : Nat) (v : xV) (st : List xV) (D : xM) : Option xSt := match xnl lv, Nat.blt i lv.length with
  | true, true => some (pc, lv.set i (some v), st, D)
  | _, _ => none
def xgf (a b pc : Nat) (lv : List (Option xV)) (s k i : Nat) (st : List xV) (D : xM) : Option xSt := match s with
  | 0 => match Nat.beq k a, Nat.beq a 10, Nat.blt b (xnf k) with
    | true, false, true => match xfR k b i with
      | some q => some (pc, lv, .inr (.inr q) :: st, D)
      | none => some (pc, lv, .inl (D i b) :: st, D)
    | _, _, _ => none
  | 5 => match Nat.beq a 10, b with
    | true, 0 => some (pc, lv, .inr (.inr (7, k, 0)) :: st, D)
    | true, 1 => some (pc, lv, .inl 0 :: st, D)
    | _, _ => none
  | _ => none
def xpf (a b pc : Nat) (lv : List (Option xV)) (s k i : Nat) (x : Int32) (st : List xV) (D : xM) : Option xSt := match s with
  | 0 => match Nat.beq k a, Nat.blt b 100, Nat.blt b (xnf k), xfR k b i with
    | true, true, true, none => some (pc, lv, st, xup D i b x)
    | _, _, _, _ => none
  | _ => none
def xal (pc : Nat) (lv : List (Option xV)) (s k : Nat) (st : List xV) (D : xM) : Option xSt := match s with
  | 1 => some (pc, lv, .inl (Int32.ofNat k) :: st, D)
  | 7 => some (pc, lv, .inl (Int32.ofNat (xsl.getD k 0)) :: st, D)
  | _ => none
/-- one simple step -/
def xs1 (i : Instr) (len a b pc : Nat) (lv : List (Option xV)) (st : List xV) (D : xM) : Option xSt := match i, len, st with
  | .iconst n, 1, st => some (pc + 1, lv, .inl (xnum n) :: st, D)
  | .bipush n, 2, st => some (pc + 2, lv, .inl (xnum n) :: st, D)
  | .sipush n, 3, st => some (pc + 3, lv, .inl (xnum n) :: st, D)
  | .lconst k, 1, st => some (pc + 1, lv, .inr (.inl (Int64.ofNat k.val)) :: st, D)
  | .iload_n k, 1, st => xldi lv k.val (pc + 1) st D
  | .iload k, 2, st => xldi lv k (pc + 2) st D
  | .aload_n k, 1, st => xlda lv k.val (pc + 1) st D
  | .aload k, 2, st => xlda lv k (pc + 2) st D
  | .lload_n k, 1, st => xldl lv k.val (pc + 1) st D
  | .lload k, 2, st => xldl lv k (pc + 2) st D
  | .istore_n k, 1, .inl x :: st => xsto lv k.val (pc + 1) (.inl x) st D
  | .istore k, 2, .inl x :: st => xsto lv k (pc + 2) (.inl x) st D
  | .astore_n k, 1, .inr (.inr q) :: st => xsto lv k.val (pc + 1) (.inr (.inr q)) st D
  | .astore k, 2, .inr (.inr q) :: st => xsto lv k (pc + 2) (.inr (.inr q)) st D
  | .iinc k n, 3, st => match lv[k]? with
    | some (some (.inl x)) => xsto lv k (pc + 3) (.inl (x + xnum n)) st D
    | _ => none
  | .iadd, 1, .inl y :: .inl x :: st => some (pc + 1, lv, .inl (x + y) :: st, D)
  | .isub, 1, .inl y :: .inl x :: st => some (pc + 1, lv, .inl (x - y) :: st, D)
  | .imul, 1, .inl y :: .inl x :: st => some (pc + 1, lv, .inl (x * y) :: st, D)
  | .iand, 1, .inl y :: .inl x :: st => some (pc + 1, lv, .inl (x &&& y) :: st, D)
  | .ior, 1, .inl y :: .inl x :: st => some (pc + 1, lv, .inl (x ||| y) :: st, D)
  | .ixor, 1, .inl y :: .inl x :: st => some (pc + 1, lv, .inl (x ^^^ y) :: st, D)
  | .ishl, 1, .inl y :: .inl x :: st => some (pc + 1, lv, .inl (x <<< (y &&& 31)) :: st, D)
  | .ishr, 1, .inl y :: .inl x :: st => some (pc + 1, lv, .inl (x >>> (y &&& 31)) :: st, D)
  | .iushr, 1, .inl y :: .inl x :: st => some (pc + 1, lv, .inl ((x.toUInt32 >>> (y.toUInt32 &&& Int32.toUInt32 31)).toInt32) :: st, D)
  | .ineg, 1, .inl x :: st => some (pc + 1, lv, .inl (-x) :: st, D)
  | .i2l, 1, .inl x :: st => some (pc + 1, lv, .inr (.inl x.toInt64) :: st, D)
  | .i2b, 1, .inl x :: st => some (pc + 1, lv, .inl x.toInt8.toInt32 :: st, D)
  | .i2s, 1, .inl x :: st => some (pc + 1, lv, .inl x.toInt16.toInt32 :: st, D)
  | .i2c, 1, .inl x :: st => some (pc + 1, lv, .inl (x.toUInt32 % 65536).toInt32 :: st, D)
  | .ladd, 1, .inr (.inl y) :: .inr (.inl x) :: st => some (pc + 1, lv, .inr (.inl (x + y)) :: st, D)
  | .lcmp, 1, .inr (.inl y) :: .inr (.inl x) :: st => some (pc + 1, lv, .inl (lg_cmp x y) :: st, D)
  | .dup, 1, .inl x :: st => some (pc + 1, lv, .inl x :: .inl x :: st, D)
  | .dup, 1, .inr (.inr x) :: st => some (pc + 1, lv, .inr (.inr x) :: .inr (.inr x) :: st, D)
  | .dup2, 1, .inl y :: .inr (.inr x) :: st => some (pc + 1, lv, .inl y :: .inr (.inr x) :: .inl y :: .inr (.inr x) :: st, D)
  | .dup2, 1, .inl y :: .inl x :: st => some (pc + 1, lv, .inl y :: .inl x :: .inl y :: .inl x :: st, D)
  | .pop, 1, .inl _ :: st => some (pc + 1, lv, st, D)
  | .getfield _, 3, .inr (.inr (s, k, i)) :: st => xgf a b (pc + 3) lv s k i st D
  | .putfield _, 3, .inl x :: .inr (.inr (s, k, i)) :: st => xpf a b (pc + 3) lv s k i x st D
  | .getstatic _, 3, st => match a with
    | 0 => some (pc + 3, lv, .inl 1 :: st, D)
    | a + 1 => some (pc + 3, lv, .inr (.inr (4, a + 1, 0)) :: st, D)
  | .ldc _, 2, st => match b with
    | 0 => some (pc + 2, lv, .inl (Int32.ofNat a) :: st, D)
    | _ => some (pc + 2, lv, .inr (.inr (5, a, 0)) :: st, D)
  | .ldc_w _, 3, st => some (pc + 3, lv, .inl (Int32.ofNat a) :: st, D)
  | .ldc2_w _, 3, st => some (pc + 3, lv, .inr (.inl (Int64.ofNat a)) :: st, D)
  | .arraylength, 1, .inr (.inr (s, k, _)) :: st => xal (pc + 1) lv s k st D
  | _, _, _ => none
def xrw : List xRow → Nat → Option (Instr × Nat × Nat × Nat)
  | [], _ => none
  | r :: rs, pc => match Nat.beq r.1 pc with
    | true => some r.2
    | false => xrw rs pc
/-- simple steps, until one isn't, or the place is come to -/
def xrun (rows : List xRow) (stop : Nat) : Nat → Nat → List (Option xV) → List xV → xM → Option xSt
  | 0, pc, lv, st, D => some (pc, lv, st, D)
  | f + 1, pc, lv, st, D => match Nat.beq pc stop with
    | true => some (pc, lv, st, D)
    | false => match xrw rows pc with
      | some (i, len, a, b) => match xs1 i len a b pc lv st D with
        | some (pc', lv', st', D') => xrun rows stop f pc' lv' st' D'
        | none => some (pc, lv, st, D)
      | none => some (pc, lv, st, D)
/-- how a method may end -/
def xrt (h : xHd) (pc : Nat) (v : Option Int32) : Prop := match v with
  | none => h.2.2.2 = none ∧ decode h.2.1 pc = .ok (.return_, 1)
  | some x => ∃ ty, h.2.2.2 = some ty ∧ narrow ty (.int x) = .int x ∧ decode h.2.1 pc = .ok (.ireturn, 1)
def xC (Γ : xG) (n : Nat) (h : xHd) (rows : List xRow) (p : Program) (R : Room) (s : State) (m : MethodId) (args : Array Value) (meth : Method) (c : Code) (cells slots : Nat) : Prop :=
  p.tables.exec = Jvm.exec ∧ c.code = h.2.1 ∧ c.maxLocals = h.2.2.1 ∧ meth.sig.returnType = h.2.2.2 ∧ meth.locks = false ∧ s.vm.findClass h.1.cls = some m.cls ∧ (∀ w ∈ xtb, w.before args s = true) ∧ xS Γ s ∧ xck h rows = true ∧ n ≤ R.frames ∧ 64 * n ≤ R.locals ∧ cells ≤ R.cells ∧ slots ≤ R.slots
def xlh (Γ : xG) (h : xHd) (ls : Array Slot) (lv : List (Option xV)) : Prop := ls.size = h.2.2.1 ∧ lv_wf ls ∧ (∀ (i : Nat) (v : xV), lv[i]? = some (some v) → xvv v ∧ ls[i]? = some (.val (xcv Γ v))) ∧ lv.length ≤ h.2.2.1
/-- the walk: from here on the method comes to its end with post -/
def xW (Γ : xG) (n : Nat) (h : xHd) (rows : List xRow) (pc : Nat) (lv : List (Option xV)) (st : List xV) (D : xM) (post : Option Int32 → xM → Prop) : Prop :=
  ∀ (p : Program) (e : Env) (R : Room) (s : State) (m : MethodId) (args : Array Value) (below : List Frame) (meth : Method) (c : Code) (H : Heap) (locs : List Loc) (cells slots : Nat) (Q : State → Prop) (ls : Array Slot),
    xC Γ n h rows p R s m args meth c cells slots → xH Γ D H → va_S (xA Γ) s.heap H locs → xlh Γ h ls lv → (∀ v ∈ st, xvv v) →
    (∀ (v : Option Int32) (D' : xM) (H' : Heap) (locs' : List Loc) (pc' : Nat) (ls' : Array Slot), post v D' → xH Γ D' H' → va_S (xA Γ) s.heap H' locs' → xrt h pc' v → W p Γ.l e R s m args below meth c H' locs' cells slots Q (F0 m pc' ls' (v.toList.map Value.int))) →
    W p Γ.l e R s m args below meth c H locs cells slots Q (F0 m pc ls (st.map (xcv Γ)))
theorem xrw_mem : ∀ {rows : List xRow} {pc : Nat} {q : Instr × Nat × Nat × Nat}, xrw rows pc = some q → (pc, q) ∈ rows
  | [], _, _, h => by cases h
  | r :: rs, pc, q, h => by
    rw [xrw] at h
    split at h
    · rename_i hb
      have e : r.1 = pc := Nat.eq_of_beq_eq_true hb
      have e2 : r.2 = q := Option.some.inj h
      have : r = (pc, q) := by rw [← e, ← e2]
      rw [← this]
      exact List.mem_cons_self
    · exact List.mem_cons_of_mem _ (xrw_mem h)
theorem xck_row {h : xHd} {rows : List xRow} (hk : xck h rows = true) {pc : Nat} {i : Instr} {len a b : Nat} (hr : xrw rows pc = some (i, len, a, b)) : xok h (pc, i, len, a, b) = true := by
  rw [xck, Bool.and_eq_true] at hk
  exact List.all_eq_true.mp hk.2 _ (xrw_mem hr)
theorem xok_dec {h : xHd} {r : xRow} (hk : xok h r = true) : decode h.2.1 r.1 = .ok (r.2.1, r.2.2.1) := by
  rw [xok, Bool.and_eq_true, decide_eq_true_eq] at hk
  exact hk.1
end
section
theorem xlh_sto {Γ : xG} {h : xHd} {ls : Array Slot} {lv : List (Option xV)} (hl : xlh Γ h ls lv) (hnl : xnl lv = true) {i : Nat} (hi : i < lv.length) {v : xV} (hv : xvv v) (hc : (xcv Γ v).category = 1) :
    ∃ ls', storeLocals ls i (xcv Γ v) = some ls' ∧ xlh Γ h ls' (lv.set i (some v)) := by
  have nol : ∀ (l : List (Option xV)), xnl l = true → ∀ (j : Nat) (u : xV), l[j]? = some (some u) → (xcv Γ u).category = 1 := by
    intro l
    induction l with
    | nil => intro _ j u hj; simp at hj
    | cons o r ih =>
      intro hn j u hj
      cases j with
      | zero =>
        have e : o = some u := Option.some.inj hj
        subst e
        rcases u with x | x | ⟨s, k, w⟩
        · rfl
        · cases hn
        · rfl
      | succ j =>
        refine ih ?_ j u hj
        rcases o with _ | x | x | x
        · exact hn
        · exact hn
        · cases hn
        · exact hn
  obtain ⟨h1, h2, h3, h4⟩ := hl
  let l : List (Nat × Value) := (List.range lv.length).filterMap (fun j => match lv[j]? with | some (some u) => some (j, xcv Γ u) | _ => none)
  have hl0 : lv_has ls h.2.2.1 l := by
    refine ⟨h1, h2, fun q hq => ?_⟩
    obtain ⟨j, -, hj⟩ := List.mem_filterMap.mp hq
    split at hj
    · rename_i u hu
      cases hj
      exact (h3 j u hu).2
    · cases hj
  obtain ⟨ls', e', h'⟩ := lv_store1 (v := xcv Γ v) hl0 (Nat.lt_of_lt_of_le hi h4) hc
  refine ⟨ls', e', h'.1, h'.2.1, fun j u hj => ?_, by rw [List.length_set]; exact h4⟩
  by_cases hji : j = i
  · subst hji
    by_cases hlt : j < lv.length
    · rw [List.getElem?_set_self hlt] at hj
      cases hj
      exact ⟨hv, h'.2.2 _ List.mem_cons_self⟩
    · rw [List.getElem?_eq_none (by simp; omega)] at hj
      cases hj
  · rw [List.getElem?_set_ne (Ne.symm hji)] at hj
    refine ⟨(h3 j u hj).1, h'.2.2 (j, xcv Γ u) (List.mem_cons_of_mem _ (List.mem_filter.mpr ⟨List.mem_filterMap.mpr ⟨j, List.mem_range.mpr (List.getElem?_eq_some_iff.mp hj).1, by rw [hj]⟩, ?_⟩))⟩
    have hcu := nol lv hnl j u hj
    simp [hji, hcu]
theorem xkd_len : xkd.length = xNC := by decide +kernel
theorem xws_at {Γ : xG} {D : xM} {i : Nat} {q : Nat × Nat} (h : xkd[i]? = some q) : (xws Γ D)[i]? = some (Γ.r i, xce Γ D i q) := by
  have hi : i < xNC := by rw [← xkd_len]; exact (List.getElem?_eq_some_iff.mp h).1
  rw [xws, List.getElem?_map, List.getElem?_range hi]
  show some (Γ.r i, xce Γ D i (xkd.getD i (0, 0))) = _
  rw [List.getD_eq_getElem?_getD, h]
  rfl
theorem xws_D {Γ : xG} {s : State} (h : xS Γ s) (D : xM) : va_D (xA Γ) (xws Γ D) := by
  have key : ∀ (i : Nat) (p : Nat × va_E), (xws Γ D)[i]? = some p → i < xNC ∧ p.1 = Γ.r i := by
    intro i p hp
    rw [xws, List.getElem?_map] at hp
    by_cases hi : i < xNC
    · rw [List.getElem?_range hi] at hp
      cases hp
      exact ⟨hi, rfl⟩
    · rw [List.getElem?_eq_none (by simp; omega)] at hp
      cases hp
  refine ⟨fun i j p q hi hj e => ?_, fun k q hk => ?_⟩
  · obtain ⟨a1, b1⟩ := key i p hi
    obtain ⟨a2, b2⟩ := key j q hj
    exact h.2.1 i j a1 a2 (by rw [← b1, ← b2]; exact e)
  · obtain ⟨a1, b1⟩ := key k q hk
    exact ⟨k, a1, b1⟩
theorem xws_set {Γ : xG} {D D' : xM} {i : Nat} {q : Nat × Nat} (h : xkd[i]? = some q) (hne : ∀ j, j ≠ i → D' j = D j) : (xws Γ D).set i (Γ.r i, xce Γ D' i q) = xws Γ D' := by
  have hi : i < xNC := by rw [← xkd_len]; exact (List.getElem?_eq_some_iff.mp h).1
  apply List.ext_getElem?
  intro j
  by_cases hj : j = i
  · subst hj
    rw [List.getElem?_set_self (by simp [xws]; exact hi), xws_at h]
  · rw [List.getElem?_set_ne (Ne.symm hj)]
    by_cases hlt : j < xNC
    · obtain ⟨r, hr⟩ : ∃ r, xkd[j]? = some r := by
        have : j < xkd.length := by rw [xkd_len]; exact hlt
        exact ⟨_, List.getElem?_eq_getElem this⟩
      rw [xws_at hr, xws_at hr]
      have e := hne j hj
      have e2 : ∀ c k, xfv D' c j k = xfv D c j k := by
        intro c k
        rw [xfv, xfv, e]
      congr 2
      obtain ⟨r1, r2⟩ := r
      simp only [xce, e, e2]
    · rw [List.getElem?_eq_none (by simp [xws]; omega), List.getElem?_eq_none (by simp [xws]; omega)]
theorem xup_ne {D : xM} {i j : Nat} {v : Int32} : ∀ a, a ≠ i → xup D i j v a = D a := by
  intro a ha
  funext b
  simp [xup, ha]
theorem xup_arr (D : xM) (i j : Nat) (v : Int32) : xup D i j v i = upd (D i) j v := by
  funext b
  simp [xup, upd]
theorem xup_obj {Γ : xG} {D : xM} {c i b : Nat} {x : Int32} (hf : xfR c b i = none) : ((List.range (xnf c)).map (fun j => xcv Γ (xfv D c i j))).set b (.int x) = (List.range (xnf c)).map (fun j => xcv Γ (xfv (xup D i b x) c i j)) := by
  apply List.ext_getElem?
  intro j
  by_cases hj : j = b
  · subst hj
    by_cases hlt : j < xnf c
    · rw [List.getElem?_set_self (by simp; exact hlt), List.getElem?_map, List.getElem?_range hlt]
      simp [xfv, hf, xup, xcv]
    · rw [List.getElem?_eq_none (by simp; omega), List.getElem?_eq_none (by simp; omega)]
  · rw [List.getElem?_set_ne (Ne.symm hj), List.getElem?_map, List.getElem?_map]
    by_cases hlt : j < xnf c
    · rw [List.getElem?_range hlt]
      simp [xfv, xup, hj]
    · rw [List.getElem?_eq_none (by simp; omega)]
      rfl
theorem xin_all {ws : List Cond} (h : ws.all xin = true) : ∀ w ∈ ws, w ∈ xtb := fun w hw => xin_mem (List.all_eq_true.mp h w hw)
theorem xcl0 : wsX00.all xin = true := by decide +kernel
theorem xcl1 : wsX10.all xin = true := by decide +kernel
theorem xcl2 : wsX20.all xin = true := by decide +kernel
theorem xcl3 : wsX30.all xin = true := by decide +kernel
theorem xcl4 : wsX40.all xin = true := by decide +kernel
theorem xcl5 : wsX50.all xin = true := by decide +kernel
theorem xcl6 : wsX60.all xin = true := by decide +kernel
theorem xcl7 : wsX70.all xin = true := by decide +kernel
theorem xcl8 : wsX80.all xin = true := by decide +kernel
theorem xcl9 : wsX90.all xin = true := by decide +kernel
theorem xcl {ci : Nat} {C : String} {T : u_T} {N : Nat} (h : vwCl[ci]? = some (C, T, N)) : (∀ w ∈ u_ws C T N, w ∈ xtb) ∧ ∃ ty0 : Nat → FieldType, (∀ k, k < N → parseFieldDescriptor (T k).2.2.1 = some (ty0 k)) ∧ ∀ a, a < N → ∀ b, b < N → a ≠ b → (T a).2.1 ≠ (T b).2.1 := by
  match ci, h with
  | 0, h => cases h; exact ⟨xin_all xcl0, tyX0, tyX0_ok, nmX0⟩
  | 1, h => cases h; exact ⟨xin_all xcl1, tyX1, tyX1_ok, nmX1⟩
  | 2, h => cases h; exact ⟨xin_all xcl2, tyX2, tyX2_ok, nmX2⟩
  | 3, h => cases h; exact ⟨xin_all xcl3, tyX3, tyX3_ok, nmX3⟩
  | 4, h => cases h; exact ⟨xin_all xcl4, tyX4, tyX4_ok, nmX4⟩
  | 5, h => cases h; exact ⟨xin_all xcl5, tyX5, tyX5_ok, nmX5⟩
  | 6, h => cases h; exact ⟨xin_all xcl6, tyX6, tyX6_ok, nmX6⟩
  | 7, h => cases h; exact ⟨xin_all xcl7, tyX7, tyX7_ok, nmX7⟩
  | 8, h => cases h; exact ⟨xin_all xcl8, tyX8, tyX8_ok, nmX8⟩
  | 9, h => cases h; exact ⟨xin_all xcl9, tyX9, tyX9_ok, nmX9⟩
  | n + 10, h => simp [vwCl] at h
/-- a field that holds a cell holds one -/
def xfok : Bool := (List.range xNC).all fun i => match xkd.getD i (0, 0) with
  | (0, c) => (List.range (xnf c)).all fun j => match xfR c j i with
    | some (s, k, w) => decide (s ≤ 3 ∨ s = 6) && decide (xkd[w]? = some (s, k))
    | none => true
  | _ => true
theorem xfok_t : xfok = true := by decide +kernel
theorem xvr_cell {s k i : Nat} (hs : s ≤ 3 ∨ s = 6) (h : xkd[i]? = some (s, k)) : xvr s k i := by
  match s, hs with
  | 0, _ => exact ⟨by omega, h⟩
  | 1, _ => exact ⟨by omega, h⟩
  | 2, _ => exact ⟨by omega, h⟩
  | 3, _ => exact ⟨by omega, h⟩
  | 6, _ => exact ⟨by omega, h⟩
  | 4, h => omega
  | 5, h => omega
  | n + 7, h => omega
theorem xvr_fld {c i b : Nat} {q : Nat × Nat × Nat} (h : xkd[i]? = some (0, c)) (hb : b < xnf c) (hf : xfR c b i = some q) : xvr q.1 q.2.1 q.2.2 := by
  have hi : i < xNC := by rw [← xkd_len]; exact (List.getElem?_eq_some_iff.mp h).1
  have h1 := List.all_eq_true.mp xfok_t i (List.mem_range.mpr hi)
  have e : xkd.getD i (0, 0) = (0, c) := by rw [List.getD_eq_getElem?_getD, h]; rfl
  rw [e] at h1
  have h2 := List.all_eq_true.mp h1 b (List.mem_range.mpr hb)
  obtain ⟨s, k, w⟩ := q
  rw [hf] at h2
  simp only [Bool.and_eq_true, decide_eq_true_eq] at h2
  exact xvr_cell h2.1 h2.2
theorem xcell {s k i : Nat} (h : xvr s k i) (hs : s ≤ 3 ∨ s = 6) : xkd[i]? = some (s, k) := by
  match s, hs with
  | 0, _ => exact h.2
  | 1, _ => exact h.2
  | 2, _ => exact h.2
  | 3, _ => exact h.2
  | 6, _ => exact h.2
  | 4, h => omega
  | 5, h => omega
  | n + 7, h => omega
theorem xfc {v : xV} {st : List xV} (h : xvv v) (hst : ∀ u ∈ st, xvv u) : ∀ u ∈ v :: st, xvv u := List.forall_mem_cons.mpr ⟨h, hst⟩
theorem xft {v : xV} {st : List xV} (hst : ∀ u ∈ v :: st, xvv u) : ∀ u ∈ st, xvv u := (List.forall_mem_cons.mp hst).2
theorem xfh {v : xV} {st : List xV} (hst : ∀ u ∈ v :: st, xvv u) : xvv v := (List.forall_mem_cons.mp hst).1
theorem xand {a b : Bool} (h : (a && b) = true) : a = true ∧ b = true := by rw [Bool.and_eq_true] at h; exact h
end
section
section XS1
variable {Γ : xG} {n : Nat} {h : xHd} {rows : List xRow} {post : Option Int32 → xM → Prop}
set_option maxHeartbeats 4000000 in
/-- a getfield step -/
theorem xgf_ok {idx a b pc pc' : Nat} {lv lv' : List (Option xV)} {s0 k i : Nat} {st st' : List xV} {D D' : xM} (hr : xrw rows pc = some (.getfield idx, 3, a, b)) (h1 : xgf a b (pc + 3) lv s0 k i st D = some (pc', lv', st', D')) (kk : xW Γ n h rows pc' lv' st' D' post) : xW Γ n h rows pc lv (.inr (.inr (s0, k, i)) :: st) D post := by
  intro p e R s m args below meth c H locs cells slots Q ls C hH hS hl hst hret
  obtain ⟨hx, hb, hml, hrt, hlk, hown, hts, hs, hck, hR⟩ := id C
  have hok := xck_row hck hr
  have hd := xok_dec hok
  have hok2 := (xand hok).2
  unfold xgf at h1
  split at h1
  · split at h1
    · rename_i e1 e2 e3
      have ek : k = a := Nat.eq_of_beq_eq_true e1
      subst ek
      have ha : ¬ k = 10 := fun z => by subst z; cases e2
      have hbn : b < xnf k := by simpa using e3
      simp only [if_neg ha] at hok2
      have hcell : xkd[i]? = some (0, k) := xcell (xfh hst) (Or.inl (Nat.zero_le _))
      split at hok2
      · rename_i C0 T N hcl
        obtain ⟨q12, q3⟩ := xand hok2
        obtain ⟨q1, q2⟩ := xand q12
        have hN : N = xnf k := of_decide_eq_true q1
        have hbN : b < N := of_decide_eq_true q2
        have hget : ((List.range (xnf k)).map (fun j => xcv Γ (xfv D k i j)))[b]? = some (xcv Γ (xfv D k i b)) := by
          rw [List.getElem?_map, List.getElem?_range hbn]; rfl
        split at h1
        · rename_i q hq
          cases h1
          have hv : xfv D k i b = .inr (.inr q) := by rw [xfv, hq]
          rw [hv] at hget
          exact va_get (Ts := xtb) hx hb hts (xcl hcl).1 hown hs.1 hH i (xws_at hcell) hcl b hbN (hts _ (xin_mem q3)) (fun _ z => z) hget hd (kk p e R s m args below meth c H locs cells slots Q ls C hH hS hl (xfc (xvr_fld hcell hbn hq) (xft hst)) hret)
        · rename_i hq
          cases h1
          have hv : xfv D k i b = .inl (D i b) := by rw [xfv, hq]
          rw [hv] at hget
          exact va_get (Ts := xtb) hx hb hts (xcl hcl).1 hown hs.1 hH i (xws_at hcell) hcl b hbN (hts _ (xin_mem q3)) (fun _ z => z) hget hd (kk p e R s m args below meth c H locs cells slots Q ls C hH hS hl (xfc trivial (xft hst)) hret)
      · cases hok2
    · cases h1
  · have hk : k < 10 := xfh hst
    obtain ⟨-, -, -, -, hs5, -⟩ := id hs
    obtain ⟨-, v2, v3, -⟩ := hs5.1 k hk
    split at h1
    · rename_i e1
      have ea : a = 10 := Nat.eq_of_beq_eq_true e1
      subst ea
      cases h1
      simp only [if_true] at hok2
      exact vk_getf hx hb v3 hS hown (hts _ (xin_mem hok2)) (fun _ z => z) hd (kk p e R s m args below meth c H locs cells slots Q ls C hH hS hl (xfc hk (xft hst)) hret)
    · rename_i e1
      have ea : a = 10 := Nat.eq_of_beq_eq_true e1
      subst ea
      cases h1
      simp only [if_true, if_neg (by decide : ¬ (1 : Nat) = 0)] at hok2
      exact vk_getf hx hb v2 hS hown (hts _ (xin_mem (xand hok2).2)) (fun _ z => z) hd (kk p e R s m args below meth c H locs cells slots Q ls C hH hS hl (xfc trivial (xft hst)) hret)
    · cases h1
  · cases h1
set_option maxHeartbeats 4000000 in
/-- a putfield step, of an int -/
theorem xpf_ok {idx a b pc pc' : Nat} {lv lv' : List (Option xV)} {s0 k i : Nat} {x : Int32} {st st' : List xV} {D D' : xM} (hr : xrw rows pc = some (.putfield idx, 3, a, b)) (h1 : xpf a b (pc + 3) lv s0 k i x st D = some (pc', lv', st', D')) (kk : xW Γ n h rows pc' lv' st' D' post) : xW Γ n h rows pc lv (.inl x :: .inr (.inr (s0, k, i)) :: st) D post := by
  intro p e R s m args below meth c H locs cells slots Q ls C hH hS hl hst hret
  obtain ⟨hx, hb, hml, hrt, hlk, hown, hts, hs, hck, hR⟩ := id C
  have hok := xck_row hck hr
  have hd := xok_dec hok
  have hok2 := (xand hok).2
  unfold xpf at h1
  split at h1
  · split at h1
    · rename_i e1 e2 e3 e4
      have ek : k = a := Nat.eq_of_beq_eq_true e1
      subst ek
      have hb100 : b < 100 := by simpa using e2
      have hbn : b < xnf k := by simpa using e3
      have hcell : xkd[i]? = some (0, k) := xcell (xfh (xft hst)) (Or.inl (Nat.zero_le _))
      cases h1
      simp only at hok2
      split at hok2
      · rename_i C0 T N hcl
        rw [if_pos hb100] at hok2
        obtain ⟨q1234, q5⟩ := xand hok2
        obtain ⟨q123, q4⟩ := xand q1234
        obtain ⟨q12, q3⟩ := xand q123
        obtain ⟨q1, q2⟩ := xand q12
        have hbN : b < N := of_decide_eq_true q2
        obtain ⟨hin, ty0, hty, hnm⟩ := xcl hcl
        refine va_put (Ts := xtb) hx hb hts hin ty0 hty hnm hown hs.1 hH (xws_D hs D) hS i (xws_at hcell) hcl b hbN (hts _ (xin_mem q5)) (fun _ z => z) (of_decide_eq_true q3) (of_decide_eq_true q4) (v := .int x) rfl rfl (by simp; exact hbn) hd (fun H1 locs1 hP1 hD1 hS1 => ?_)
        have e5 : (xws Γ D).set i (Γ.r i, .inr (k, ((List.range (xnf k)).map (fun j => xcv Γ (xfv D k i j))).set b (.int x))) = xws Γ (xup D i b x) := by
          rw [xup_obj e4]
          exact xws_set (q := (0, k)) hcell xup_ne
        rw [e5] at hP1
        exact kk p e R s m args below meth c H1 locs1 cells slots Q ls C hP1 hS1 hl (xft (xft hst)) hret
      · cases hok2
    · cases h1
  · cases h1
set_option maxHeartbeats 4000000 in
theorem xal_ok {pc pc' : Nat} {lv lv' : List (Option xV)} {a b s0 k i : Nat} {st st' : List xV} {D D' : xM} (hr : xrw rows pc = some (.arraylength, 1, a, b)) (h1 : xal (pc + 1) lv s0 k st D = some (pc', lv', st', D')) (kk : xW Γ n h rows pc' lv' st' D' post) : xW Γ n h rows pc lv (.inr (.inr (s0, k, i)) :: st) D post := by
  intro p e R s m args below meth c H locs cells slots Q ls C hH hS hl hst hret
  obtain ⟨hx, hb, hml, hrt, hlk, hown, hts, hs, hck, hR⟩ := id C
  have hd := xok_dec (xck_row hck hr)
  unfold xal at h1
  split at h1
  · cases h1
    have hcell : xkd[i]? = some (1, k) := xcell (xfh hst) (Or.inl (by decide))
    exact va_alen (x := (k, .inl (D i))) hx hb hs.1 hH i 0 (xws_at hcell) rfl rfl hd (kk p e R s m args below meth c H locs cells slots Q ls C hH hS hl (xfc trivial (xft hst)) hret)
  · cases h1
    have hk : k < 10 := xfh hst
    obtain ⟨-, -, -, v4⟩ := hs.2.2.2.2.1.1 k hk
    obtain ⟨cell, c1, c2, c3, c4, c5, c6, c7⟩ := v4.kept hS.2.1
    exact W.alen (n := Int32.ofNat (xsl.getD k 0)) hx hb c1 c2 c5 rfl rfl hd (kk p e R s m args below meth c H locs cells slots Q ls C hH hS hl (xfc trivial (xft hst)) hret)
  · cases h1
theorem xldi_ok {lv lv' : List (Option xV)} {i pc pc' : Nat} {st st' : List xV} {D D' : xM} (h1 : xldi lv i pc st D = some (pc', lv', st', D')) : ∃ x, lv[i]? = some (some (.inl x)) ∧ pc' = pc ∧ lv' = lv ∧ st' = .inl x :: st ∧ D' = D := by
  unfold xldi at h1
  split at h1
  · rename_i x hx
    cases h1
    exact ⟨x, hx, rfl, rfl, rfl, rfl⟩
  · cases h1
theorem xldl_ok {lv lv' : List (Option xV)} {i pc pc' : Nat} {st st' : List xV} {D D' : xM} (h1 : xldl lv i pc st D = some (pc', lv', st', D')) : ∃ x, lv[i]? = some (some (.inr (.inl x))) ∧ pc' = pc ∧ lv' = lv ∧ st' = .inr (.inl x) :: st ∧ D' = D := by
  unfold xldl at h1
  split at h1
  · rename_i x hx
    cases h1
    exact ⟨x, hx, rfl, rfl, rfl, rfl⟩
  · cases h1
theorem xlda_ok {lv lv' : List (Option xV)} {i pc pc' : Nat} {st st' : List xV} {D D' : xM} (h1 : xlda lv i pc st D = some (pc', lv', st', D')) : ∃ x, lv[i]? = some (some (.inr (.inr x))) ∧ pc' = pc ∧ lv' = lv ∧ st' = .inr (.inr x) :: st ∧ D' = D := by
  unfold xlda at h1
  split at h1
  · rename_i x hx
    cases h1
    exact ⟨x, hx, rfl, rfl, rfl, rfl⟩
  · cases h1
theorem xsto_ok {lv lv' : List (Option xV)} {i pc pc' : Nat} {v : xV} {st st' : List xV} {D D' : xM} (h1 : xsto lv i pc v st D = some (pc', lv', st', D')) : xnl lv = true ∧ i < lv.length ∧ pc' = pc ∧ lv' = lv.set i (some v) ∧ st' = st ∧ D' = D := by
  unfold xsto at h1
  split at h1
  · rename_i e1 e2
    cases h1
    exact ⟨e1, by simpa using e2, rfl, rfl, rfl, rfl⟩
  · cases h1
/-- the step behind a store, by the machine -/
theorem xsti {p : Program} {l : Launch} {e : Env} {R : Room} {s : State} {m : MethodId} {args : Array Value} {below : List Frame} {meth : Method} {c : Code} {H : Heap} {locs : List Loc} {cells slots : Nat} {Q : State → Prop} {cc : ByteArray} {pc : Nat} {ls ls' : Array Slot} {rest : List Value} (hexec : p.tables.exec = Jvm.exec) (hb : c.code = cc) {i : Nat} {x : Int32} (hdg : decode cc pc = .ok (.istore i, 2)) (e' : storeLocals ls i (.int x) = some ls')
    (kk : W p l e R s m args below meth c H locs cells slots Q (F0 m (pc + 2) ls' rest)) : W p l e R s m args below meth c H locs cells slots Q (F0 m pc ls (.int x :: rest)) := by
  intro T hT X
  obtain ⟨t, a, b⟩ := kk T hT X
  refine ⟨t, ?_, b⟩
  jvm_step X.here [X.here.top, ↓top_set X.here.top, hexec, hb, hdg, e']
  exact a
end XS1
end
section
theorem xsti_n {p : Program} {l : Launch} {e : Env} {R : Room} {s : State} {m : MethodId} {args : Array Value} {below : List Frame} {meth : Method} {c : Code} {H : Heap} {locs : List Loc} {cells slots : Nat} {Q : State → Prop} {cc : ByteArray} {pc : Nat} {ls ls' : Array Slot} {rest : List Value} (hexec : p.tables.exec = Jvm.exec) (hb : c.code = cc) {k : Fin 4} {x : Int32} (hdg : decode cc pc = .ok (.istore_n k, 1)) (e' : storeLocals ls k.val (.int x) = some ls')
    (kk : W p l e R s m args below meth c H locs cells slots Q (F0 m (pc + 1) ls' rest)) : W p l e R s m args below meth c H locs cells slots Q (F0 m pc ls (.int x :: rest)) := by
  intro T hT X
  obtain ⟨t, a, b⟩ := kk T hT X
  refine ⟨t, ?_, b⟩
  jvm_step X.here [X.here.top, ↓top_set X.here.top, hexec, hb, hdg, e']
  exact a
theorem xsta_n {p : Program} {l : Launch} {e : Env} {R : Room} {s : State} {m : MethodId} {args : Array Value} {below : List Frame} {meth : Method} {c : Code} {H : Heap} {locs : List Loc} {cells slots : Nat} {Q : State → Prop} {cc : ByteArray} {pc : Nat} {ls ls' : Array Slot} {rest : List Value} (hexec : p.tables.exec = Jvm.exec) (hb : c.code = cc) {k : Fin 4} {x : Nat} (hdg : decode cc pc = .ok (.astore_n k, 1)) (e' : storeLocals ls k.val (.ref x) = some ls')
    (kk : W p l e R s m args below meth c H locs cells slots Q (F0 m (pc + 1) ls' rest)) : W p l e R s m args below meth c H locs cells slots Q (F0 m pc ls (.ref x :: rest)) := by
  intro T hT X
  obtain ⟨t, a, b⟩ := kk T hT X
  refine ⟨t, ?_, b⟩
  jvm_step X.here [X.here.top, ↓top_set X.here.top, hexec, hb, hdg, e', Value.isRef]
  exact a
theorem xsta {p : Program} {l : Launch} {e : Env} {R : Room} {s : State} {m : MethodId} {args : Array Value} {below : List Frame} {meth : Method} {c : Code} {H : Heap} {locs : List Loc} {cells slots : Nat} {Q : State → Prop} {cc : ByteArray} {pc : Nat} {ls ls' : Array Slot} {rest : List Value} (hexec : p.tables.exec = Jvm.exec) (hb : c.code = cc) {i : Nat} {x : Nat} (hdg : decode cc pc = .ok (.astore i, 2)) (e' : storeLocals ls i (.ref x) = some ls')
    (kk : W p l e R s m args below meth c H locs cells slots Q (F0 m (pc + 2) ls' rest)) : W p l e R s m args below meth c H locs cells slots Q (F0 m pc ls (.ref x :: rest)) := by
  intro T hT X
  obtain ⟨t, a, b⟩ := kk T hT X
  refine ⟨t, ?_, b⟩
  jvm_step X.here [X.here.top, ↓top_set X.here.top, hexec, hb, hdg, e', Value.isRef]
  exact a
theorem xsinc {p : Program} {l : Launch} {e : Env} {R : Room} {s : State} {m : MethodId} {args : Array Value} {below : List Frame} {meth : Method} {c : Code} {H : Heap} {locs : List Loc} {cells slots : Nat} {Q : State → Prop} {cc : ByteArray} {pc : Nat} {ls ls' : Array Slot} {rest : List Value} (hexec : p.tables.exec = Jvm.exec) (hb : c.code = cc) {i : Nat} {n : Int} {x : Int32} (hdg : decode cc pc = .ok (.iinc i n, 3)) (hg : ls[i]? = some (.val (.int x))) (e' : storeLocals ls i (.int (x + Int32.ofInt n)) = some ls')
    (kk : W p l e R s m args below meth c H locs cells slots Q (F0 m (pc + 3) ls' rest)) : W p l e R s m args below meth c H locs cells slots Q (F0 m pc ls rest) := by
  intro T hT X
  obtain ⟨t, a, b⟩ := kk T hT X
  refine ⟨t, ?_, b⟩
  jvm_step X.here [X.here.top, ↓top_set X.here.top, hexec, hb, hdg, hg, e']
  exact a
section XS2
variable {Γ : xG} {n : Nat} {h : xHd} {rows : List xRow} {post : Option Int32 → xM → Prop}
theorem xinc_ok {k : Nat} {n0 : Int} {a b pc : Nat} {lv : List (Option xV)} {x : Int32} {st : List xV} {D : xM} (hr : xrw rows pc = some (.iinc k n0, 3, a, b)) (e0 : lv[k]? = some (some (.inl x))) (e1 : xnl lv = true) (e2 : k < lv.length) (kk : xW Γ n h rows (pc + 3) (lv.set k (some (.inl (x + xnum n0)))) st D post) : xW Γ n h rows pc lv st D post := by
  intro p e R s m args below meth c H locs cells slots Q ls C hH hS hl hst hret
  obtain ⟨hx, hb, hml, hrt, hlk, hown, hts, hs, hck, hR⟩ := id C
  have hok := xck_row hck hr
  have hd := xok_dec hok
  have e3 : Int32.ofInt n0 = xnum n0 := of_decide_eq_true (xand hok).2
  obtain ⟨ls', q1, q2⟩ := xlh_sto (v := .inl (x + xnum n0)) hl e1 e2 trivial rfl
  have q1 : storeLocals ls k (.int (x + xnum n0)) = some ls' := q1
  rw [← e3] at q1
  exact xsinc hx hb hd (hl.2.2.1 _ _ e0).2 q1 (kk p e R s m args below meth c H locs cells slots Q ls' C hH hS q2 hst hret)
set_option maxHeartbeats 8000000 in
/-- one simple step -/
theorem xs1_ok {i : Instr} {len a b pc pc' : Nat} {lv lv' : List (Option xV)} {st st' : List xV} {D D' : xM} (hr : xrw rows pc = some (i, len, a, b)) (h1 : xs1 i len a b pc lv st D = some (pc', lv', st', D')) (kk : xW Γ n h rows pc' lv' st' D' post) : xW Γ n h rows pc lv st D post := by
  intro p e R s m args below meth c H locs cells slots Q ls C hH hS hl hst hret
  obtain ⟨hx, hb, hml, hrt, hlk, hown, hts, hs, hck, hR⟩ := id C
  have hok := xck_row hck hr
  have hd := xok_dec hok
  have hok2 := (xand hok).2
  unfold xs1 at h1
  split at h1
  · cases h1; exact lv_iconst hx hb hd (of_decide_eq_true hok2) (kk p e R s m args below meth c H locs cells slots Q ls C hH hS hl (xfc trivial hst) hret)
  · cases h1; exact lv_bipush hx hb hd (of_decide_eq_true hok2) (kk p e R s m args below meth c H locs cells slots Q ls C hH hS hl (xfc trivial hst) hret)
  · cases h1; exact lv_sipush hx hb hd (of_decide_eq_true hok2) (kk p e R s m args below meth c H locs cells slots Q ls C hH hS hl (xfc trivial hst) hret)
  · cases h1; exact lv_lconst hx hb hd rfl (kk p e R s m args below meth c H locs cells slots Q ls C hH hS hl (xfc trivial hst) hret)
  · obtain ⟨x, e1, rfl, rfl, rfl, rfl⟩ := xldi_ok h1
    exact lv_iload_n hx hb hd rfl (hl.2.2.1 _ _ e1).2 (kk p e R s m args below meth c H locs cells slots Q ls C hH hS hl (xfc trivial hst) hret)
  · obtain ⟨x, e1, rfl, rfl, rfl, rfl⟩ := xldi_ok h1
    exact lv_iload hx hb hd (hl.2.2.1 _ _ e1).2 (kk p e R s m args below meth c H locs cells slots Q ls C hH hS hl (xfc trivial hst) hret)
  · obtain ⟨x, e1, rfl, rfl, rfl, rfl⟩ := xlda_ok h1
    exact lv_aload_n hx hb hd rfl (hl.2.2.1 _ _ e1).2 (kk p e R s m args below meth c H locs cells slots Q ls C hH hS hl (xfc (hl.2.2.1 _ _ e1).1 hst) hret)
  · obtain ⟨x, e1, rfl, rfl, rfl, rfl⟩ := xlda_ok h1
    exact lv_aload hx hb hd (hl.2.2.1 _ _ e1).2 (kk p e R s m args below meth c H locs cells slots Q ls C hH hS hl (xfc (hl.2.2.1 _ _ e1).1 hst) hret)
  · obtain ⟨x, e1, rfl, rfl, rfl, rfl⟩ := xldl_ok h1
    exact lv_lload_n hx hb hd rfl (hl.2.2.1 _ _ e1).2 (kk p e R s m args below meth c H locs cells slots Q ls C hH hS hl (xfc trivial hst) hret)
  · obtain ⟨x, e1, rfl, rfl, rfl, rfl⟩ := xldl_ok h1
    exact lv_lload hx hb hd (hl.2.2.1 _ _ e1).2 (kk p e R s m args below meth c H locs cells slots Q ls C hH hS hl (xfc trivial hst) hret)
  · obtain ⟨e1, e2, rfl, rfl, rfl, rfl⟩ := xsto_ok h1
    obtain ⟨ls', q1, q2⟩ := xlh_sto hl e1 e2 (v := .inl _) trivial rfl
    exact xsti_n hx hb hd q1 (kk p e R s m args below meth c H locs cells slots Q ls' C hH hS q2 (xft hst) hret)
  · obtain ⟨e1, e2, rfl, rfl, rfl, rfl⟩ := xsto_ok h1
    obtain ⟨ls', q1, q2⟩ := xlh_sto hl e1 e2 (v := .inl _) trivial rfl
    exact xsti hx hb hd q1 (kk p e R s m args below meth c H locs cells slots Q ls' C hH hS q2 (xft hst) hret)
  · obtain ⟨e1, e2, rfl, rfl, rfl, rfl⟩ := xsto_ok h1
    obtain ⟨ls', q1, q2⟩ := xlh_sto hl e1 e2 (xfh hst) rfl
    exact xsta_n hx hb hd q1 (kk p e R s m args below meth c H locs cells slots Q ls' C hH hS q2 (xft hst) hret)
  · obtain ⟨e1, e2, rfl, rfl, rfl, rfl⟩ := xsto_ok h1
    obtain ⟨ls', q1, q2⟩ := xlh_sto hl e1 e2 (xfh hst) rfl
    exact xsta hx hb hd q1 (kk p e R s m args below meth c H locs cells slots Q ls' C hH hS q2 (xft hst) hret)
  · split at h1
    · rename_i x e0
      obtain ⟨e1, e2, rfl, rfl, rfl, rfl⟩ := xsto_ok h1
      exact xinc_ok hr e0 e1 e2 kk p e R s m args below meth c H locs cells slots Q ls C hH hS hl hst hret
    · cases h1
  · cases h1; exact lv_iadd hx hb hd (kk p e R s m args below meth c H locs cells slots Q ls C hH hS hl (xfc trivial (xft (xft hst))) hret)
  · cases h1; exact lv_isub hx hb hd (kk p e R s m args below meth c H locs cells slots Q ls C hH hS hl (xfc trivial (xft (xft hst))) hret)
  · cases h1; exact lv_imul hx hb hd (kk p e R s m args below meth c H locs cells slots Q ls C hH hS hl (xfc trivial (xft (xft hst))) hret)
  · cases h1; exact lv_iand hx hb hd (kk p e R s m args below meth c H locs cells slots Q ls C hH hS hl (xfc trivial (xft (xft hst))) hret)
  · cases h1; exact lv_ior hx hb hd (kk p e R s m args below meth c H locs cells slots Q ls C hH hS hl (xfc trivial (xft (xft hst))) hret)
  · cases h1; exact lv_ixor hx hb hd (kk p e R s m args below meth c H locs cells slots Q ls C hH hS hl (xfc trivial (xft (xft hst))) hret)
  · cases h1; exact lv_ishl hx hb hd (kk p e R s m args below meth c H locs cells slots Q ls C hH hS hl (xfc trivial (xft (xft hst))) hret)
  · cases h1; exact lv_ishr hx hb hd (kk p e R s m args below meth c H locs cells slots Q ls C hH hS hl (xfc trivial (xft (xft hst))) hret)
  · cases h1; exact lv_iushr hx hb hd rfl (kk p e R s m args below meth c H locs cells slots Q ls C hH hS hl (xfc trivial (xft (xft hst))) hret)
  · cases h1; exact lv_ineg hx hb hd (kk p e R s m args below meth c H locs cells slots Q ls C hH hS hl (xfc trivial (xft hst)) hret)
  · cases h1; exact lv_i2l hx hb hd rfl (kk p e R s m args below meth c H locs cells slots Q ls C hH hS hl (xfc trivial (xft hst)) hret)
  · cases h1; exact lv_i2b hx hb hd rfl (kk p e R s m args below meth c H locs cells slots Q ls C hH hS hl (xfc trivial (xft hst)) hret)
  · cases h1; exact lv_i2s hx hb hd rfl (kk p e R s m args below meth c H locs cells slots Q ls C hH hS hl (xfc trivial (xft hst)) hret)
  · cases h1; exact lv_i2c hx hb hd rfl (kk p e R s m args below meth c H locs cells slots Q ls C hH hS hl (xfc trivial (xft hst)) hret)
  · cases h1; exact lv_ladd hx hb hd (kk p e R s m args below meth c H locs cells slots Q ls C hH hS hl (xfc trivial (xft (xft hst))) hret)
  · cases h1; exact W.lcmp hx hb hd (kk p e R s m args below meth c H locs cells slots Q ls C hH hS hl (xfc trivial (xft (xft hst))) hret)
  · cases h1; exact lv_dup hx hb hd rfl (kk p e R s m args below meth c H locs cells slots Q ls C hH hS hl (xfc trivial hst) hret)
  · cases h1; exact lv_dup hx hb hd rfl (kk p e R s m args below meth c H locs cells slots Q ls C hH hS hl (xfc (xfh hst) hst) hret)
  · cases h1; exact lv_dup2_11 hx hb hd rfl rfl (kk p e R s m args below meth c H locs cells slots Q ls C hH hS hl (xfc trivial (xfc (xfh (xft hst)) hst)) hret)
  · cases h1; exact lv_dup2_11 hx hb hd rfl rfl (kk p e R s m args below meth c H locs cells slots Q ls C hH hS hl (xfc trivial (xfc trivial hst)) hret)
  · cases h1; exact lv_pop hx hb hd rfl (kk p e R s m args below meth c H locs cells slots Q ls C hH hS hl (xft hst) hret)
  · exact xgf_ok hr h1 kk p e R s m args below meth c H locs cells slots Q ls C hH hS hl hst hret
  · exact xpf_ok hr h1 kk p e R s m args below meth c H locs cells slots Q ls C hH hS hl hst hret
  · split at h1
    · cases h1
      simp only [if_true] at hok2
      exact va_gets hx hb hs.2.2.2.2.2.1 hS hown (hts _ (xin_mem hok2)) (fun _ z => z) hd (kk p e R s m args below meth c H locs cells slots Q ls C hH hS hl (xfc trivial hst) hret)
    · rename_i a0
      cases h1
      simp only [if_neg (Nat.succ_ne_zero a0)] at hok2
      obtain ⟨q1, q2⟩ := xand hok2
      have ha : a0 + 1 ≤ 5 := of_decide_eq_true q1
      have hz := (hs.2.2.1 (a0 + 1) (by omega) ha).1
      by_cases hb0 : b = 0
      · rw [if_pos hb0] at q2
        exact va_gets hx hb hz hS hown (hts _ (xin_mem q2)) (fun _ z => z) hd (kk p e R s m args below meth c H locs cells slots Q ls C hH hS hl (xfc (by exact ⟨by omega, ha⟩) hst) hret)
      · rw [if_neg hb0] at q2
        obtain ⟨q3, q4⟩ := xand q2
        have q5 := hs.2.2.2.2.2.2.2.2.2 _ (of_decide_eq_true q4)
        rw [← (of_decide_eq_true q3 : h.1.cls = _)] at q5
        exact va_getsN hx hb hz hS hown (va_Nw.use rfl q5) (fun _ z => z) hd (kk p e R s m args below meth c H locs cells slots Q ls C hH hS hl (xfc (by exact ⟨by omega, ha⟩) hst) hret)
  · split at h1
    · cases h1
      simp only [if_true] at hok2
      exact lv_ldc hx hb hown (hts _ (xin_mem hok2)) hd (kk p e R s m args below meth c H locs cells slots Q ls C hH hS hl (xfc trivial hst) hret)
    · rename_i b0 hb0
      cases h1
      have hb1 : ¬ b = 0 := fun z => hb0 z
      simp only [if_neg hb1] at hok2
      obtain ⟨q12, q3⟩ := xand hok2
      obtain ⟨q1, q2⟩ := xand q12
      have ha : a < 10 := of_decide_eq_true q1
      have hz := hs.2.2.2.1 a ha
      rw [← (of_decide_eq_true q2 : h.1.cls = _), (of_decide_eq_true q3 : xsp a = _)] at hz
      exact va_ldcS hx hb hown hz hd (kk p e R s m args below meth c H locs cells slots Q ls C hH hS hl (xfc ha hst) hret)
  · cases h1; exact lv_ldcw hx hb hown (hts _ (xin_mem hok2)) hd (kk p e R s m args below meth c H locs cells slots Q ls C hH hS hl (xfc trivial hst) hret)
  · cases h1; exact lv_ldc2 hx hb hown (hts _ (xin_mem hok2)) hd (kk p e R s m args below meth c H locs cells slots Q ls C hH hS hl (xfc trivial hst) hret)
  · exact xal_ok hr h1 kk p e R s m args below meth c H locs cells slots Q ls C hH hS hl hst hret
  · cases h1
theorem xrun_ok {stop : Nat} : ∀ (f : Nat) (pc : Nat) (lv : List (Option xV)) (st : List xV) (D : xM) (pc' : Nat) (lv' : List (Option xV)) (st' : List xV) (D' : xM), xrun rows stop f pc lv st D = some (pc', lv', st', D') → xW Γ n h rows pc' lv' st' D' post → xW Γ n h rows pc lv st D post
  | 0, _, _, _, _, _, _, _, _, e, k => by cases e; exact k
  | f + 1, pc, lv, st, D, pc', lv', st', D', e, k => by
    cases hb : Nat.beq pc stop with
    | true =>
      simp only [xrun, hb] at e
      cases e
      exact k
    | false =>
      cases hrow : xrw rows pc with
      | none =>
        simp only [xrun, hb, hrow] at e
        cases e
        exact k
      | some q =>
        obtain ⟨i, len, a, b⟩ := q
        cases hs1 : xs1 i len a b pc lv st D with
        | none =>
          simp only [xrun, hb, hrow, hs1] at e
          cases e
          exact k
        | some σ' =>
          obtain ⟨pc1, lv1, st1, D1⟩ := σ'
          simp only [xrun, hb, hrow, hs1] at e
          exact xs1_ok hrow hs1 (xrun_ok f pc1 lv1 st1 D1 pc' lv' st' D' e k)
abbrev xN : Nat := 1000000
/-- a stretch of simple steps -/
theorem x_to (stop : Nat) {pc pc' : Nat} {lv lv' : List (Option xV)} {st st' : List xV} {D D' : xM} (h1 : xrun rows stop 60 pc lv st D = some (pc', lv', st', D')) (kk : xW Γ n h rows pc' lv' st' D' post) : xW Γ n h rows pc lv st D post := xrun_ok (stop := stop) 60 pc lv st D _ _ _ _ h1 kk
end XS2
end
section
section XR
variable {Γ : xG} {n : Nat} {h : xHd} {rows : List xRow} {post : Option Int32 → xM → Prop}
theorem x_goto {pc pc' a b : Nat} {lv lv' : List (Option xV)} {st st' : List xV} {D D' : xM} {off : Int} (h1 : xrun rows xN 60 pc lv st D = some (pc', lv', st', D')) (hr : xrw rows pc' = some (.goto off, 3, a, b)) (kk : xW Γ n h rows a lv' st' D' post) : xW Γ n h rows pc lv st D post := by
  refine x_to xN h1 ?_
  intro p e R s m args below meth c H locs cells slots Q ls C hH hS hl hst hret
  obtain ⟨hx, hb, hml, hrt, hlk, hown, hts, hs, hck, hR⟩ := id C
  have hok := xck_row hck hr
  have hd := xok_dec hok
  have hok2 := (xand hok).2
  exact lv_goto hx hb hd (of_decide_eq_true hok2) (kk p e R s m args below meth c H locs cells slots Q ls C hH hS hl hst hret)
theorem xi_eq {pc pc' a b : Nat} {lv lv' : List (Option xV)} {st st' : List xV} {D D' : xM} {x y : Int32} {off : Int} (h1 : xrun rows xN 60 pc lv st D = some (pc', lv', .inl y :: .inl x :: st', D')) (hr : xrw rows pc' = some (.if_icmp .eq off, 3, a, b)) (kt : x = y → xW Γ n h rows a lv' st' D' post) (kf : ¬ x = y → xW Γ n h rows (pc' + 3) lv' st' D' post) : xW Γ n h rows pc lv st D post := by
  refine x_to xN h1 ?_
  intro p e R s m args below meth c H locs cells slots Q ls C hH hS hl hst hret
  obtain ⟨hx, hb, hml, hrt, hlk, hown, hts, hs, hck, hR⟩ := id C
  have hok := xck_row hck hr
  have hd := xok_dec hok
  have hok2 := (xand hok).2
  exact lv_icmp_eq hx hb hd (of_decide_eq_true hok2) (fun z => kt z p e R s m args below meth c H locs cells slots Q ls C hH hS hl (xft (xft hst)) hret) (fun z => kf z p e R s m args below meth c H locs cells slots Q ls C hH hS hl (xft (xft hst)) hret)
theorem x0_eq {pc pc' a b : Nat} {lv lv' : List (Option xV)} {st st' : List xV} {D D' : xM} {x : Int32} {off : Int} (h1 : xrun rows xN 60 pc lv st D = some (pc', lv', .inl x :: st', D')) (hr : xrw rows pc' = some (.ifCond .eq off, 3, a, b)) (kt : x = 0 → xW Γ n h rows a lv' st' D' post) (kf : ¬ x = 0 → xW Γ n h rows (pc' + 3) lv' st' D' post) : xW Γ n h rows pc lv st D post := by
  refine x_to xN h1 ?_
  intro p e R s m args below meth c H locs cells slots Q ls C hH hS hl hst hret
  obtain ⟨hx, hb, hml, hrt, hlk, hown, hts, hs, hck, hR⟩ := id C
  have hok := xck_row hck hr
  have hd := xok_dec hok
  have hok2 := (xand hok).2
  exact lv_if_eq hx hb hd (of_decide_eq_true hok2) (fun z => kt z p e R s m args below meth c H locs cells slots Q ls C hH hS hl (xft hst) hret) (fun z => kf z p e R s m args below meth c H locs cells slots Q ls C hH hS hl (xft hst) hret)
theorem xi_ne {pc pc' a b : Nat} {lv lv' : List (Option xV)} {st st' : List xV} {D D' : xM} {x y : Int32} {off : Int} (h1 : xrun rows xN 60 pc lv st D = some (pc', lv', .inl y :: .inl x :: st', D')) (hr : xrw rows pc' = some (.if_icmp .ne off, 3, a, b)) (kt : ¬ x = y → xW Γ n h rows a lv' st' D' post) (kf : x = y → xW Γ n h rows (pc' + 3) lv' st' D' post) : xW Γ n h rows pc lv st D post := by
  refine x_to xN h1 ?_
  intro p e R s m args below meth c H locs cells slots Q ls C hH hS hl hst hret
  obtain ⟨hx, hb, hml, hrt, hlk, hown, hts, hs, hck, hR⟩ := id C
  have hok := xck_row hck hr
  have hd := xok_dec hok
  have hok2 := (xand hok).2
  exact lv_icmp_ne hx hb hd (of_decide_eq_true hok2) (fun z => kt z p e R s m args below meth c H locs cells slots Q ls C hH hS hl (xft (xft hst)) hret) (fun z => kf z p e R s m args below meth c H locs cells slots Q ls C hH hS hl (xft (xft hst)) hret)
theorem x0_ne {pc pc' a b : Nat} {lv lv' : List (Option xV)} {st st' : List xV} {D D' : xM} {x : Int32} {off : Int} (h1 : xrun rows xN 60 pc lv st D = some (pc', lv', .inl x :: st', D')) (hr : xrw rows pc' = some (.ifCond .ne off, 3, a, b)) (kt : ¬ x = 0 → xW Γ n h rows a lv' st' D' post) (kf : x = 0 → xW Γ n h rows (pc' + 3) lv' st' D' post) : xW Γ n h rows pc lv st D post := by
  refine x_to xN h1 ?_
  intro p e R s m args below meth c H locs cells slots Q ls C hH hS hl hst hret
  obtain ⟨hx, hb, hml, hrt, hlk, hown, hts, hs, hck, hR⟩ := id C
  have hok := xck_row hck hr
  have hd := xok_dec hok
  have hok2 := (xand hok).2
  exact lv_if_ne hx hb hd (of_decide_eq_true hok2) (fun z => kt z p e R s m args below meth c H locs cells slots Q ls C hH hS hl (xft hst) hret) (fun z => kf z p e R s m args below meth c H locs cells slots Q ls C hH hS hl (xft hst) hret)
theorem xi_lt {pc pc' a b : Nat} {lv lv' : List (Option xV)} {st st' : List xV} {D D' : xM} {x y : Int32} {off : Int} (h1 : xrun rows xN 60 pc lv st D = some (pc', lv', .inl y :: .inl x :: st', D')) (hr : xrw rows pc' = some (.if_icmp .lt off, 3, a, b)) (kt : x < y → xW Γ n h rows a lv' st' D' post) (kf : ¬ x < y → xW Γ n h rows (pc' + 3) lv' st' D' post) : xW Γ n h rows pc lv st D post := by
  refine x_to xN h1 ?_
  intro p e R s m args below meth c H locs cells slots Q ls C hH hS hl hst hret
  obtain ⟨hx, hb, hml, hrt, hlk, hown, hts, hs, hck, hR⟩ := id C
  have hok := xck_row hck hr
  have hd := xok_dec hok
  have hok2 := (xand hok).2
  exact lv_icmp_lt hx hb hd (of_decide_eq_true hok2) (fun z => kt z p e R s m args below meth c H locs cells slots Q ls C hH hS hl (xft (xft hst)) hret) (fun z => kf z p e R s m args below meth c H locs cells slots Q ls C hH hS hl (xft (xft hst)) hret)
theorem x0_lt {pc pc' a b : Nat} {lv lv' : List (Option xV)} {st st' : List xV} {D D' : xM} {x : Int32} {off : Int} (h1 : xrun rows xN 60 pc lv st D = some (pc', lv', .inl x :: st', D')) (hr : xrw rows pc' = some (.ifCond .lt off, 3, a, b)) (kt : x < 0 → xW Γ n h rows a lv' st' D' post) (kf : ¬ x < 0 → xW Γ n h rows (pc' + 3) lv' st' D' post) : xW Γ n h rows pc lv st D post := by
  refine x_to xN h1 ?_
  intro p e R s m args below meth c H locs cells slots Q ls C hH hS hl hst hret
  obtain ⟨hx, hb, hml, hrt, hlk, hown, hts, hs, hck, hR⟩ := id C
  have hok := xck_row hck hr
  have hd := xok_dec hok
  have hok2 := (xand hok).2
  exact lv_if_lt hx hb hd (of_decide_eq_true hok2) (fun z => kt z p e R s m args below meth c H locs cells slots Q ls C hH hS hl (xft hst) hret) (fun z => kf z p e R s m args below meth c H locs cells slots Q ls C hH hS hl (xft hst) hret)
theorem xi_ge {pc pc' a b : Nat} {lv lv' : List (Option xV)} {st st' : List xV} {D D' : xM} {x y : Int32} {off : Int} (h1 : xrun rows xN 60 pc lv st D = some (pc', lv', .inl y :: .inl x :: st', D')) (hr : xrw rows pc' = some (.if_icmp .ge off, 3, a, b)) (kt : y ≤ x → xW Γ n h rows a lv' st' D' post) (kf : ¬ y ≤ x → xW Γ n h rows (pc' + 3) lv' st' D' post) : xW Γ n h rows pc lv st D post := by
  refine x_to xN h1 ?_
  intro p e R s m args below meth c H locs cells slots Q ls C hH hS hl hst hret
  obtain ⟨hx, hb, hml, hrt, hlk, hown, hts, hs, hck, hR⟩ := id C
  have hok := xck_row hck hr
  have hd := xok_dec hok
  have hok2 := (xand hok).2
  exact lv_icmp_ge hx hb hd (of_decide_eq_true hok2) (fun z => kt z p e R s m args below meth c H locs cells slots Q ls C hH hS hl (xft (xft hst)) hret) (fun z => kf z p e R s m args below meth c H locs cells slots Q ls C hH hS hl (xft (xft hst)) hret)
theorem x0_ge {pc pc' a b : Nat} {lv lv' : List (Option xV)} {st st' : List xV} {D D' : xM} {x : Int32} {off : Int} (h1 : xrun rows xN 60 pc lv st D = some (pc', lv', .inl x :: st', D')) (hr : xrw rows pc' = some (.ifCond .ge off, 3, a, b)) (kt : 0 ≤ x → xW Γ n h rows a lv' st' D' post) (kf : ¬ 0 ≤ x → xW Γ n h rows (pc' + 3) lv' st' D' post) : xW Γ n h rows pc lv st D post := by
  refine x_to xN h1 ?_
  intro p e R s m args below meth c H locs cells slots Q ls C hH hS hl hst hret
  obtain ⟨hx, hb, hml, hrt, hlk, hown, hts, hs, hck, hR⟩ := id C
  have hok := xck_row hck hr
  have hd := xok_dec hok
  have hok2 := (xand hok).2
  exact lv_if_ge hx hb hd (of_decide_eq_true hok2) (fun z => kt z p e R s m args below meth c H locs cells slots Q ls C hH hS hl (xft hst) hret) (fun z => kf z p e R s m args below meth c H locs cells slots Q ls C hH hS hl (xft hst) hret)
theorem xi_gt {pc pc' a b : Nat} {lv lv' : List (Option xV)} {st st' : List xV} {D D' : xM} {x y : Int32} {off : Int} (h1 : xrun rows xN 60 pc lv st D = some (pc', lv', .inl y :: .inl x :: st', D')) (hr : xrw rows pc' = some (.if_icmp .gt off, 3, a, b)) (kt : y < x → xW Γ n h rows a lv' st' D' post) (kf : ¬ y < x → xW Γ n h rows (pc' + 3) lv' st' D' post) : xW Γ n h rows pc lv st D post := by
  refine x_to xN h1 ?_
  intro p e R s m args below meth c H locs cells slots Q ls C hH hS hl hst hret
  obtain ⟨hx, hb, hml, hrt, hlk, hown, hts, hs, hck, hR⟩ := id C
  have hok := xck_row hck hr
  have hd := xok_dec hok
  have hok2 := (xand hok).2
  exact lv_icmp_gt hx hb hd (of_decide_eq_true hok2) (fun z => kt z p e R s m args below meth c H locs cells slots Q ls C hH hS hl (xft (xft hst)) hret) (fun z => kf z p e R s m args below meth c H locs cells slots Q ls C hH hS hl (xft (xft hst)) hret)
theorem x0_gt {pc pc' a b : Nat} {lv lv' : List (Option xV)} {st st' : List xV} {D D' : xM} {x : Int32} {off : Int} (h1 : xrun rows xN 60 pc lv st D = some (pc', lv', .inl x :: st', D')) (hr : xrw rows pc' = some (.ifCond .gt off, 3, a, b)) (kt : 0 < x → xW Γ n h rows a lv' st' D' post) (kf : ¬ 0 < x → xW Γ n h rows (pc' + 3) lv' st' D' post) : xW Γ n h rows pc lv st D post := by
  refine x_to xN h1 ?_
  intro p e R s m args below meth c H locs cells slots Q ls C hH hS hl hst hret
  obtain ⟨hx, hb, hml, hrt, hlk, hown, hts, hs, hck, hR⟩ := id C
  have hok := xck_row hck hr
  have hd := xok_dec hok
  have hok2 := (xand hok).2
  exact lv_if_gt hx hb hd (of_decide_eq_true hok2) (fun z => kt z p e R s m args below meth c H locs cells slots Q ls C hH hS hl (xft hst) hret) (fun z => kf z p e R s m args below meth c H locs cells slots Q ls C hH hS hl (xft hst) hret)
theorem xi_le {pc pc' a b : Nat} {lv lv' : List (Option xV)} {st st' : List xV} {D D' : xM} {x y : Int32} {off : Int} (h1 : xrun rows xN 60 pc lv st D = some (pc', lv', .inl y :: .inl x :: st', D')) (hr : xrw rows pc' = some (.if_icmp .le off, 3, a, b)) (kt : x ≤ y → xW Γ n h rows a lv' st' D' post) (kf : ¬ x ≤ y → xW Γ n h rows (pc' + 3) lv' st' D' post) : xW Γ n h rows pc lv st D post := by
  refine x_to xN h1 ?_
  intro p e R s m args below meth c H locs cells slots Q ls C hH hS hl hst hret
  obtain ⟨hx, hb, hml, hrt, hlk, hown, hts, hs, hck, hR⟩ := id C
  have hok := xck_row hck hr
  have hd := xok_dec hok
  have hok2 := (xand hok).2
  exact lv_icmp_le hx hb hd (of_decide_eq_true hok2) (fun z => kt z p e R s m args below meth c H locs cells slots Q ls C hH hS hl (xft (xft hst)) hret) (fun z => kf z p e R s m args below meth c H locs cells slots Q ls C hH hS hl (xft (xft hst)) hret)
theorem x0_le {pc pc' a b : Nat} {lv lv' : List (Option xV)} {st st' : List xV} {D D' : xM} {x : Int32} {off : Int} (h1 : xrun rows xN 60 pc lv st D = some (pc', lv', .inl x :: st', D')) (hr : xrw rows pc' = some (.ifCond .le off, 3, a, b)) (kt : x ≤ 0 → xW Γ n h rows a lv' st' D' post) (kf : ¬ x ≤ 0 → xW Γ n h rows (pc' + 3) lv' st' D' post) : xW Γ n h rows pc lv st D post := by
  refine x_to xN h1 ?_
  intro p e R s m args below meth c H locs cells slots Q ls C hH hS hl hst hret
  obtain ⟨hx, hb, hml, hrt, hlk, hown, hts, hs, hck, hR⟩ := id C
  have hok := xck_row hck hr
  have hd := xok_dec hok
  have hok2 := (xand hok).2
  exact lv_if_le hx hb hd (of_decide_eq_true hok2) (fun z => kt z p e R s m args below meth c H locs cells slots Q ls C hH hS hl (xft hst) hret) (fun z => kf z p e R s m args below meth c H locs cells slots Q ls C hH hS hl (xft hst) hret)
/-- int rows: read -/
theorem x_ald {pc pc' a b : Nat} {lv lv' : List (Option xV)} {st st' : List xV} {D D' : xM} {k i : Nat} {j : Int32} (h1 : xrun rows xN 60 pc lv st D = some (pc', lv', .inl j :: .inr (.inr (1, k, i)) :: st', D')) (hr : xrw rows pc' = some (.iaload, 1, a, b)) (hin : vp_in j k) (kk : xW Γ n h rows (pc' + 1) lv' (.inl (D' i j.toNatClampNeg) :: st') D' post) : xW Γ n h rows pc lv st D post := by
  refine x_to xN h1 ?_
  intro p e R s m args below meth c H locs cells slots Q ls C hH hS hl hst hret
  obtain ⟨hx, hb, hml, hrt, hlk, hown, hts, hs, hck, hR⟩ := id C
  have hok := xck_row hck hr
  have hd := xok_dec hok
  have hok2 := (xand hok).2
  have hcell : xkd[i]? = some (1, k) := xcell (xfh (xft hst)) (Or.inl (by decide))
  exact va_iald hx hb hs.1 hH i 0 (xws_at hcell) rfl hin hd (kk p e R s m args below meth c H locs cells slots Q ls C hH hS hl (xfc trivial (xft (xft hst))) hret)
/-- boolean rows: read -/
theorem x_bld {pc pc' a b : Nat} {lv lv' : List (Option xV)} {st st' : List xV} {D D' : xM} {k i : Nat} {j : Int32} (h1 : xrun rows xN 60 pc lv st D = some (pc', lv', .inl j :: .inr (.inr (2, k, i)) :: st', D')) (hr : xrw rows pc' = some (.baload, 1, a, b)) (hin : vp_in j k) (kk : xW Γ n h rows (pc' + 1) lv' (.inl (D' i j.toNatClampNeg) :: st') D' post) : xW Γ n h rows pc lv st D post := by
  refine x_to xN h1 ?_
  intro p e R s m args below meth c H locs cells slots Q ls C hH hS hl hst hret
  obtain ⟨hx, hb, hml, hrt, hlk, hown, hts, hs, hck, hR⟩ := id C
  have hok := xck_row hck hr
  have hd := xok_dec hok
  have hok2 := (xand hok).2
  have hcell : xkd[i]? = some (2, k) := xcell (xfh (xft hst)) (Or.inl (by decide))
  exact va_zald hx hb hs.1 hH i 1 (xws_at hcell) rfl hin hd (kk p e R s m args below meth c H locs cells slots Q ls C hH hS hl (xfc trivial (xft (xft hst))) hret)
/-- the static rows: read -/
theorem x_tld {pc pc' a b : Nat} {lv lv' : List (Option xV)} {st st' : List xV} {D D' : xM} {k i : Nat} {j : Int32} (h1 : xrun rows xN 60 pc lv st D = some (pc', lv', .inl j :: .inr (.inr (4, k, i)) :: st', D')) (hr : xrw rows pc' = some (.iaload, 1, a, b)) (hin : vp_in j 5) (kk : xW Γ n h rows (pc' + 1) lv' (.inl (xtv k j.toNatClampNeg) :: st') D' post) : xW Γ n h rows pc lv st D post := by
  refine x_to xN h1 ?_
  intro p e R s m args below meth c H locs cells slots Q ls C hH hS hl hst hret
  obtain ⟨hx, hb, hml, hrt, hlk, hown, hts, hs, hck, hR⟩ := id C
  have hok := xck_row hck hr
  have hd := xok_dec hok
  have hok2 := (xand hok).2
  have hk : 1 ≤ k ∧ k ≤ 5 := xfh (xft hst)
  obtain ⟨cell, c1, c2, c3, c4, c5, c6, c7⟩ := (hs.2.2.1 k hk.1 hk.2).2.kept hS.2.1
  have hlt : j.toNatClampNeg < 5 := Nat.not_le.mp fun q => hin (Or.inr q)
  have hnn : ¬ j < 0 := fun q => hin (Or.inl q)
  exact W.iald (v := .int (xtv k j.toNatClampNeg)) hx hb c1 c2 c3 (fun q => q.elim hnn (fun q => by omega)) (c6 _ hlt) rfl rfl hd (kk p e R s m args below meth c H locs cells slots Q ls C hH hS hl (xfc trivial (xft (xft hst))) hret)
/-- a String constant's bytes: read -/
theorem x_sld {pc pc' a b : Nat} {lv lv' : List (Option xV)} {st st' : List xV} {D D' : xM} {k i : Nat} {j : Int32} (h1 : xrun rows xN 60 pc lv st D = some (pc', lv', .inl j :: .inr (.inr (7, k, i)) :: st', D')) (hr : xrw rows pc' = some (.baload, 1, a, b)) (hin : vp_in j (xsl.getD k 0)) (kk : xW Γ n h rows (pc' + 1) lv' (.inl ((xsb.getD k []).getD j.toNatClampNeg 0) :: st') D' post) : xW Γ n h rows pc lv st D post := by
  refine x_to xN h1 ?_
  intro p e R s m args below meth c H locs cells slots Q ls C hH hS hl hst hret
  obtain ⟨hx, hb, hml, hrt, hlk, hown, hts, hs, hck, hR⟩ := id C
  have hok := xck_row hck hr
  have hd := xok_dec hok
  have hok2 := (xand hok).2
  have hk : k < 10 := xfh (xft hst)
  obtain ⟨-, -, -, v4⟩ := hs.2.2.2.2.1.1 k hk
  obtain ⟨cell, c1, c2, c3, c4, c5, c6, c7⟩ := v4.kept hS.2.1
  have hlt : j.toNatClampNeg < xsl.getD k 0 := Nat.not_le.mp fun q => hin (Or.inr q)
  have hnn : ¬ j < 0 := fun q => hin (Or.inl q)
  exact W.bald (v := .int ((xsb.getD k []).getD j.toNatClampNeg 0)) hx hb c1 c2 c3 (fun q => q.elim hnn (fun q => by omega)) (c6 _ hlt) rfl rfl hd (kk p e R s m args below meth c H locs cells slots Q ls C hH hS hl (xfc trivial (xft (xft hst))) hret)
/-- the script: read, and its length -/
theorem x_xld {pc pc' a b : Nat} {lv lv' : List (Option xV)} {st st' : List xV} {D D' : xM} {k i : Nat} {j : Int32} (h1 : xrun rows xN 60 pc lv st D = some (pc', lv', .inl j :: .inr (.inr (8, k, i)) :: st', D')) (hr : xrw rows pc' = some (.iaload, 1, a, b)) (hin : vp_in j Γ.s.2.1) (kk : xW Γ n h rows (pc' + 1) lv' (.inl (Γ.s.2.2 j.toNatClampNeg) :: st') D' post) : xW Γ n h rows pc lv st D post := by
  refine x_to xN h1 ?_
  intro p e R s m args below meth c H locs cells slots Q ls C hH hS hl hst hret
  obtain ⟨hx, hb, hml, hrt, hlk, hown, hts, hs, hck, hR⟩ := id C
  have hok := xck_row hck hr
  have hd := xok_dec hok
  have hok2 := (xand hok).2
  obtain ⟨v1, v2, v3, -⟩ := hs.2.2.2.2.2.2
  exact va_sld hx hb v1 v2 v3 hS hin hd (kk p e R s m args below meth c H locs cells slots Q ls C hH hS hl (xfc trivial (xft (xft hst))) hret)
theorem x_xln {pc pc' a b : Nat} {lv lv' : List (Option xV)} {st st' : List xV} {D D' : xM} {k i : Nat} (h1 : xrun rows xN 60 pc lv st D = some (pc', lv', .inr (.inr (8, k, i)) :: st', D')) (hr : xrw rows pc' = some (.arraylength, 1, a, b)) (kk : xW Γ n h rows (pc' + 1) lv' (.inl (Int32.ofNat Γ.s.2.1) :: st') D' post) : xW Γ n h rows pc lv st D post := by
  refine x_to xN h1 ?_
  intro p e R s m args below meth c H locs cells slots Q ls C hH hS hl hst hret
  obtain ⟨hx, hb, hml, hrt, hlk, hown, hts, hs, hck, hR⟩ := id C
  have hok := xck_row hck hr
  have hd := xok_dec hok
  have hok2 := (xand hok).2
  obtain ⟨v1, v2, v3, -⟩ := hs.2.2.2.2.2.2
  exact va_slen hx hb v1 v2 v3 hS hd (kk p e R s m args below meth c H locs cells slots Q ls C hH hS hl (xfc trivial (xft hst)) hret)
/-- int rows: written -/
theorem x_ast {pc pc' a b : Nat} {lv lv' : List (Option xV)} {st st' : List xV} {D D' : xM} {k i : Nat} {j x : Int32} (h1 : xrun rows xN 60 pc lv st D = some (pc', lv', .inl x :: .inl j :: .inr (.inr (1, k, i)) :: st', D')) (hr : xrw rows pc' = some (.iastore, 1, a, b)) (hin : vp_in j k) (kk : xW Γ n h rows (pc' + 1) lv' st' (xup D' i j.toNatClampNeg x) post) : xW Γ n h rows pc lv st D post := by
  refine x_to xN h1 ?_
  intro p e R s m args below meth c H locs cells slots Q ls C hH hS hl hst hret
  obtain ⟨hx, hb, hml, hrt, hlk, hown, hts, hs, hck, hR⟩ := id C
  have hok := xck_row hck hr
  have hd := xok_dec hok
  have hok2 := (xand hok).2
  have hcell : xkd[i]? = some (1, k) := xcell (xfh (xft (xft hst))) (Or.inl (by decide))
  refine va_iast hx hb hs.1 hH (xws_D hs D') hS i 0 (xws_at hcell) rfl hin hd (fun H1 locs1 hP1 hD1 hS1 => ?_)
  have e5 : (xws Γ D').set i (Γ.r i, .inl (Γ.c 0, k, .inl (upd (D' i) j.toNatClampNeg x))) = xws Γ (xup D' i j.toNatClampNeg x) := by
    rw [← xup_arr]
    exact xws_set (q := (1, k)) hcell xup_ne
  rw [e5] at hP1
  exact kk p e R s m args below meth c H1 locs1 cells slots Q ls C hP1 hS1 hl (xft (xft (xft hst))) hret
/-- boolean rows: written -/
theorem x_bst {pc pc' a b : Nat} {lv lv' : List (Option xV)} {st st' : List xV} {D D' : xM} {k i : Nat} {j x : Int32} (h1 : xrun rows xN 60 pc lv st D = some (pc', lv', .inl x :: .inl j :: .inr (.inr (2, k, i)) :: st', D')) (hr : xrw rows pc' = some (.bastore, 1, a, b)) (hin : vp_in j k) (kk : xW Γ n h rows (pc' + 1) lv' st' (xup D' i j.toNatClampNeg (vp_nar .boolean x)) post) : xW Γ n h rows pc lv st D post := by
  refine x_to xN h1 ?_
  intro p e R s m args below meth c H locs cells slots Q ls C hH hS hl hst hret
  obtain ⟨hx, hb, hml, hrt, hlk, hown, hts, hs, hck, hR⟩ := id C
  have hok := xck_row hck hr
  have hd := xok_dec hok
  have hok2 := (xand hok).2
  have hcell : xkd[i]? = some (2, k) := xcell (xfh (xft (xft hst))) (Or.inl (by decide))
  refine va_zast hx hb hs.1 hH (xws_D hs D') hS i 1 (xws_at hcell) rfl hin hd (fun H1 locs1 hP1 hD1 hS1 => ?_)
  have e5 : (xws Γ D').set i (Γ.r i, .inl (Γ.c 1, k, .inl (upd (D' i) j.toNatClampNeg (vp_nar .boolean x)))) = xws Γ (xup D' i j.toNatClampNeg (vp_nar .boolean x)) := by
    rw [← xup_arr]
    exact xws_set (q := (2, k)) hcell xup_ne
  rw [e5] at hP1
  exact kk p e R s m args below meth c H1 locs1 cells slots Q ls C hP1 hS1 hl (xft (xft (xft hst))) hret
theorem xB_ok : ∀ k j : Nat, (k = 8 ∨ k = 2) → j < k → xkd[xelB k j]? = some (0, 7) := by
  intro k j hk hj
  rcases hk with rfl | rfl
  · have : ∀ j, j < 8 → xkd[xelB 8 j]? = some (0, 7) := by decide +kernel
    exact this j hj
  · have : ∀ j, j < 2 → xkd[xelB 2 j]? = some (0, 7) := by decide +kernel
    exact this j hj
theorem xB_len (i k : Nat) (hi : xkd[i]? = some (3, k)) : k = 8 ∨ k = 2 := by
  have H : ∀ i : Nat, i < xNC → (xkd.getD i (0, 0)).1 = 3 → (xkd.getD i (0, 0)).2 = 8 ∨ (xkd.getD i (0, 0)).2 = 2 := by decide +kernel
  have e : xkd.getD i (0, 0) = (3, k) := by rw [List.getD_eq_getElem?_getD, hi]; rfl
  have := H i (by rw [← xkd_len]; exact (List.getElem?_eq_some_iff.mp hi).1)
  rw [e] at this
  exact this rfl
theorem xR_len (i k : Nat) (hi : xkd[i]? = some (6, k)) : k = 3 := by
  have H : ∀ i : Nat, i < xNC → (xkd.getD i (0, 0)).1 = 6 → (xkd.getD i (0, 0)).2 = 3 := by decide +kernel
  have e : xkd.getD i (0, 0) = (6, k) := by rw [List.getD_eq_getElem?_getD, hi]; rfl
  have := H i (by rw [← xkd_len]; exact (List.getElem?_eq_some_iff.mp hi).1)
  rw [e] at this
  exact this rfl
theorem xR_ok : ∀ j, j < 3 → xkd[xR0 + 2 * j]? = some (0, 2) := by decide +kernel
/-- a world out of a row of worlds; a reel out of the row of reels -/
theorem x_wld {pc pc' a b : Nat} {lv lv' : List (Option xV)} {st st' : List xV} {D D' : xM} {k i : Nat} {j : Int32} (h1 : xrun rows xN 60 pc lv st D = some (pc', lv', .inl j :: .inr (.inr (3, k, i)) :: st', D')) (hr : xrw rows pc' = some (.aaload, 1, a, b)) (hin : vp_in j k) (kk : xW Γ n h rows (pc' + 1) lv' (.inr (.inr (0, 7, xelB k j.toNatClampNeg)) :: st') D' post) : xW Γ n h rows pc lv st D post := by
  refine x_to xN h1 ?_
  intro p e R s m args below meth c H locs cells slots Q ls C hH hS hl hst hret
  obtain ⟨hx, hb, hml, hrt, hlk, hown, hts, hs, hck, hR⟩ := id C
  have hok := xck_row hck hr
  have hd := xok_dec hok
  have hok2 := (xand hok).2
  have hcell : xkd[i]? = some (3, k) := xcell (xfh (xft hst)) (Or.inl (by decide))
  have hlt : j.toNatClampNeg < k := Nat.not_le.mp fun q => hin (Or.inr q)
  exact va_aldq hx hb hs.1 hH i 2 (xws_at hcell) rfl hin hd (kk p e R s m args below meth c H locs cells slots Q ls C hH hS hl (xfc (v := .inr (.inr (0, 7, xelB k j.toNatClampNeg))) (xvr_cell (Or.inl (by decide)) (xB_ok k _ (xB_len i k hcell) hlt)) (xft (xft hst))) hret)
theorem x_rld {pc pc' a b : Nat} {lv lv' : List (Option xV)} {st st' : List xV} {D D' : xM} {k i : Nat} {j : Int32} (h1 : xrun rows xN 60 pc lv st D = some (pc', lv', .inl j :: .inr (.inr (6, k, i)) :: st', D')) (hr : xrw rows pc' = some (.aaload, 1, a, b)) (hin : vp_in j k) (kk : xW Γ n h rows (pc' + 1) lv' (.inr (.inr (0, 2, xR0 + 2 * j.toNatClampNeg)) :: st') D' post) : xW Γ n h rows pc lv st D post := by
  refine x_to xN h1 ?_
  intro p e R s m args below meth c H locs cells slots Q ls C hH hS hl hst hret
  obtain ⟨hx, hb, hml, hrt, hlk, hown, hts, hs, hck, hR⟩ := id C
  have hok := xck_row hck hr
  have hd := xok_dec hok
  have hok2 := (xand hok).2
  have hcell : xkd[i]? = some (6, k) := xcell (xfh (xft hst)) (Or.inr rfl)
  have hlt : j.toNatClampNeg < k := Nat.not_le.mp fun q => hin (Or.inr q)
  exact va_aldq hx hb hs.1 hH i 3 (xws_at hcell) rfl hin hd (kk p e R s m args below meth c H locs cells slots Q ls C hH hS hl (xfc (v := .inr (.inr (0, 2, xR0 + 2 * j.toNatClampNeg))) (xvr_cell (Or.inl (by decide)) (xR_ok _ (by rw [xR_len i k hcell] at hlt; exact hlt))) (xft (xft hst))) hret)
theorem x_div {pc pc' a b : Nat} {lv lv' : List (Option xV)} {st st' : List xV} {D D' : xM} {x y : Int32} (h1 : xrun rows xN 60 pc lv st D = some (pc', lv', .inl y :: .inl x :: st', D')) (hr : xrw rows pc' = some (.idiv, 1, a, b)) (hne : ¬ y = 0) (kk : xW Γ n h rows (pc' + 1) lv' (.inl (x / y) :: st') D' post) : xW Γ n h rows pc lv st D post := by
  refine x_to xN h1 ?_
  intro p e R s m args below meth c H locs cells slots Q ls C hH hS hl hst hret
  obtain ⟨hx, hb, hml, hrt, hlk, hown, hts, hs, hck, hR⟩ := id C
  have hok := xck_row hck hr
  have hd := xok_dec hok
  have hok2 := (xand hok).2
  exact lv_idiv hx hb hd hne (kk p e R s m args below meth c H locs cells slots Q ls C hH hS hl (xfc trivial (xft (xft hst))) hret)
theorem x_rem {pc pc' a b : Nat} {lv lv' : List (Option xV)} {st st' : List xV} {D D' : xM} {x y : Int32} (h1 : xrun rows xN 60 pc lv st D = some (pc', lv', .inl y :: .inl x :: st', D')) (hr : xrw rows pc' = some (.irem, 1, a, b)) (hne : ¬ y = 0) (kk : xW Γ n h rows (pc' + 1) lv' (.inl (x - x / y * y) :: st') D' post) : xW Γ n h rows pc lv st D post := by
  refine x_to xN h1 ?_
  intro p e R s m args below meth c H locs cells slots Q ls C hH hS hl hst hret
  obtain ⟨hx, hb, hml, hrt, hlk, hown, hts, hs, hck, hR⟩ := id C
  have hok := xck_row hck hr
  have hd := xok_dec hok
  have hok2 := (xand hok).2
  exact lv_irem hx hb hd hne (kk p e R s m args below meth c H locs cells slots Q ls C hH hS hl (xfc trivial (xft (xft hst))) hret)
theorem x_tin {pc pc' a b : Nat} {lv lv' : List (Option xV)} {st st' : List xV} {D D' : xM} {x : Int32} {dflt lo hi : Int} {offs : Array Int} {len : Nat} {off : Int} {tgt : Nat} (h1 : xrun rows xN 60 pc lv st D = some (pc', lv', .inl x :: st', D')) (hr : xrw rows pc' = some (.tableswitch dflt lo hi offs, len, a, b)) (h2 : ¬ x.toInt < lo) (h3 : ¬ hi < x.toInt) (ho : offs[(x.toInt - lo).toNat]? = some off) (ht : (pc' : Int) + off = (tgt : Int)) (kk : xW Γ n h rows tgt lv' st' D' post) : xW Γ n h rows pc lv st D post := by
  refine x_to xN h1 ?_
  intro p e R s m args below meth c H locs cells slots Q ls C hH hS hl hst hret
  obtain ⟨hx, hb, hml, hrt, hlk, hown, hts, hs, hck, hR⟩ := id C
  have hok := xck_row hck hr
  have hd := xok_dec hok
  have hok2 := (xand hok).2
  exact lv_tableIn hx hb hd h2 h3 ho ht (kk p e R s m args below meth c H locs cells slots Q ls C hH hS hl (xft hst) hret)
theorem x_tout {pc pc' a b : Nat} {lv lv' : List (Option xV)} {st st' : List xV} {D D' : xM} {x : Int32} {dflt lo hi : Int} {offs : Array Int} {len : Nat} {tgt : Nat} (h1 : xrun rows xN 60 pc lv st D = some (pc', lv', .inl x :: st', D')) (hr : xrw rows pc' = some (.tableswitch dflt lo hi offs, len, a, b)) (h2 : x.toInt < lo ∨ hi < x.toInt) (ht : (pc' : Int) + dflt = (tgt : Int)) (kk : xW Γ n h rows tgt lv' st' D' post) : xW Γ n h rows pc lv st D post := by
  refine x_to xN h1 ?_
  intro p e R s m args below meth c H locs cells slots Q ls C hH hS hl hst hret
  obtain ⟨hx, hb, hml, hrt, hlk, hown, hts, hs, hck, hR⟩ := id C
  have hok := xck_row hck hr
  have hd := xok_dec hok
  have hok2 := (xand hok).2
  exact lv_tableOut hx hb hd h2 ht (kk p e R s m args below meth c H locs cells slots Q ls C hH hS hl (xft hst) hret)
/-- a boolean field is written -/
theorem x_pfz {pc pc' a b : Nat} {lv lv' : List (Option xV)} {st st' : List xV} {D D' : xM} {idx k i : Nat} {x : Int32} (h1 : xrun rows xN 60 pc lv st D = some (pc', lv', .inl x :: .inr (.inr (0, k, i)) :: st', D')) (hr : xrw rows pc' = some (.putfield idx, 3, k, b + 100)) (hbn : b < xnf k) (hf : xfR k b i = none) (hv : x = 0 ∨ x = 1) (kk : xW Γ n h rows (pc' + 3) lv' st' (xup D' i b x) post) : xW Γ n h rows pc lv st D post := by
  refine x_to xN h1 ?_
  intro p e R s m args below meth c H locs cells slots Q ls C hH hS hl hst hret
  obtain ⟨hx, hb, hml, hrt, hlk, hown, hts, hs, hck, hR⟩ := id C
  have hok := xck_row hck hr
  have hd := xok_dec hok
  have hok2 := (xand hok).2
  have hcell : xkd[i]? = some (0, k) := xcell (xfh (xft hst)) (Or.inl (Nat.zero_le _))
  simp only at hok2
  split at hok2
  · rename_i C0 T N hcl
    rw [if_neg (by omega)] at hok2
    obtain ⟨q1234, q5⟩ := xand hok2
    obtain ⟨q123, q4⟩ := xand q1234
    obtain ⟨q12, q3⟩ := xand q123
    obtain ⟨q1, q2⟩ := xand q12
    rw [Nat.add_sub_cancel] at q2 q3 q4 q5
    have hbN : b < N := of_decide_eq_true q2
    obtain ⟨hin, ty0, hty, hnm⟩ := xcl hcl
    refine va_put (Ts := xtb) hx hb hts hin ty0 hty hnm hown hs.1 hH (xws_D hs D') hS i (xws_at hcell) hcl b hbN (hts _ (xin_mem q5)) (fun _ z => z) (of_decide_eq_true q3) (of_decide_eq_true q4) (v := .int x) (by rcases hv with rfl | rfl <;> rfl) (by rcases hv with rfl | rfl <;> rfl) (by simp; exact hbn) hd (fun H1 locs1 hP1 hD1 hS1 => ?_)
    have e5 : (xws Γ D').set i (Γ.r i, .inr (k, ((List.range (xnf k)).map (fun j => xcv Γ (xfv D' k i j))).set b (.int x))) = xws Γ (xup D' i b x) := by
      rw [xup_obj hf]
      exact xws_set (q := (0, k)) hcell xup_ne
    rw [e5] at hP1
    exact kk p e R s m args below meth c H1 locs1 cells slots Q ls C hP1 hS1 hl (xft (xft hst)) hret
  · cases hok2
/-- the ends -/
theorem x_ret {pc pc' a b : Nat} {lv lv' : List (Option xV)} {st st' : List xV} {D D' : xM} {x : Int32} (h1 : xrun rows xN 60 pc lv st D = some (pc', lv', [.inl x], D')) (hr : xrw rows pc' = some (.ireturn, 1, a, b)) {ty : FieldType} (hty : h.2.2.2 = some ty) (hn : narrow ty (.int x) = .int x) (hp : post (some x) D') : xW Γ n h rows pc lv st D post := by
  refine x_to xN h1 ?_
  intro p e R s m args below meth c H locs cells slots Q ls C hH hS hl hst hret
  obtain ⟨hx, hb, hml, hrt, hlk, hown, hts, hs, hck, hR⟩ := id C
  have hok := xck_row hck hr
  have hd := xok_dec hok
  have hok2 := (xand hok).2
  exact hret (some x) D' H locs pc' ls hp hH hS ⟨ty, hty, hn, hd⟩
theorem x_vret {pc pc' a b : Nat} {lv lv' : List (Option xV)} {st st' : List xV} {D D' : xM} (h1 : xrun rows xN 60 pc lv st D = some (pc', lv', [], D')) (hr : xrw rows pc' = some (.return_, 1, a, b)) (hty : h.2.2.2 = none) (hp : post none D') : xW Γ n h rows pc lv st D post := by
  refine x_to xN h1 ?_
  intro p e R s m args below meth c H locs cells slots Q ls C hH hS hl hst hret
  obtain ⟨hx, hb, hml, hrt, hlk, hown, hts, hs, hck, hR⟩ := id C
  have hok := xck_row hck hr
  have hd := xok_dec hok
  have hok2 := (xand hok).2
  exact hret none D' H locs pc' ls hp hH hS ⟨hty, hd⟩
end XR
end
section
def xrm (n : Nat) : Room := { frames := n, cells := 0, slots := 0, locals := 64 * n }
def xP (Γ : xG) (av : List xV) (D : xM) : Array Value → State → Prop := va_Pc (av.map (xcv Γ)) (fun U => xH Γ D U.heap ∧ xS Γ U ∧ ∀ v ∈ av, xvv v)
def xQ (Γ : xG) (post : Option Int32 → xM → Prop) : Array Value → State → Outcome → State → Prop := fun _ st oc t => (∃ (v : Option Int32) (D' : xM), oc = .returned (v.map Value.int) ∧ post v D' ∧ xH Γ D' t.heap) ∧ va_F (xA Γ) st t
/-- THE CONTRACT of a method: from these arguments and cells it ends with post; n: how deep it may call -/
def xRuns (Γ : xG) (n : Nat) (h : xHd) (av : List xV) (D : xM) (post : Option Int32 → xM → Prop) : Prop := Met Γ.l h.1 (xcd h :: xtb) (xrm n) (xP Γ av D) (xQ Γ post) 0 0 (xA Γ)
def xlv : List xV → List (Option xV)
  | [] => []
  | .inr (.inl x) :: r => some (.inr (.inl x)) :: none :: xlv r
  | .inl x :: r => some (.inl x) :: xlv r
  | .inr (.inr q) :: r => some (.inr (.inr q)) :: xlv r
def xpad (l : List (Option xV)) (n : Nat) : List (Option xV) := l ++ List.replicate (n - l.length) none
theorem xlv_len (Γ : xG) : ∀ av : List xV, (xlv av).length = (lg_sl (av.map (xcv Γ))).length
  | [] => rfl
  | .inr (.inl x) :: r => by
    show (xlv r).length + 1 + 1 = (([Slot.val (Value.long x), Slot.second] : List Slot) ++ lg_sl (r.map (xcv Γ))).length
    rw [List.length_append, ← xlv_len Γ r, List.length_cons, List.length_cons, List.length_nil]
    omega
  | .inl x :: r => by
    show (xlv r).length + 1 = (([Slot.val (Value.int x)] : List Slot) ++ lg_sl (r.map (xcv Γ))).length
    rw [List.length_append, ← xlv_len Γ r, List.length_cons, List.length_nil]
    omega
  | .inr (.inr q) :: r => by
    show (xlv r).length + 1 = (([Slot.val (xcv Γ (.inr (.inr q)))] : List Slot) ++ lg_sl (r.map (xcv Γ))).length
    rw [List.length_append, ← xlv_len Γ r, List.length_cons, List.length_nil]
    omega
theorem xlv_args (Γ : xG) : ∀ (av : List xV) (k i : Nat) (v : xV), (xlv av)[i]? = some (some v) → v ∈ av ∧ (k + i, xcv Γ v) ∈ lv_args k (av.map (xcv Γ))
  | [], _, i, v, h => by simp [xlv] at h
  | .inr (.inl x) :: r, k, i, v, h => by
    match i, h with
    | 0, h => cases h; exact ⟨List.mem_cons_self, List.mem_cons_self⟩
    | 1, h => simp [xlv] at h
    | i + 2, h =>
      have h : (xlv r)[i]? = some (some v) := h
      obtain ⟨q1, q2⟩ := xlv_args Γ r (k + 2) i v h
      refine ⟨List.mem_cons_of_mem _ q1, List.mem_cons_of_mem _ ?_⟩
      have e : k + (i + 2) = k + 2 + i := by omega
      rw [e]
      exact q2
  | .inl x :: r, k, i, v, h => by
    match i, h with
    | 0, h => cases h; exact ⟨List.mem_cons_self, List.mem_cons_self⟩
    | i + 1, h =>
      have h : (xlv r)[i]? = some (some v) := h
      obtain ⟨q1, q2⟩ := xlv_args Γ r (k + 1) i v h
      refine ⟨List.mem_cons_of_mem _ q1, List.mem_cons_of_mem _ ?_⟩
      have e : k + (i + 1) = k + 1 + i := by omega
      rw [e]
      exact q2
  | .inr (.inr q) :: r, k, i, v, h => by
    match i, h with
    | 0, h => cases h; exact ⟨List.mem_cons_self, List.mem_cons_self⟩
    | i + 1, h =>
      have h : (xlv r)[i]? = some (some v) := h
      obtain ⟨q1, q2⟩ := xlv_args Γ r (k + 1) i v h
      refine ⟨List.mem_cons_of_mem _ q1, List.mem_cons_of_mem _ ?_⟩
      have e : k + (i + 1) = k + 1 + i := by omega
      rw [e]
      exact q2
section XC
variable {Γ : xG} {n : Nat} {h : xHd} {rows : List xRow} {post : Option Int32 → xM → Prop}
set_option maxHeartbeats 4000000 in
/-- a method's contract out of its walk -/
theorem x_runs {av : List xV} {D : xM} (hk : xck h rows = true) (hy : plainName h.1.cls = true) (hlen : Nat.ble (xlv av).length h.2.2.1 = true) (kk : xW Γ n h rows 0 (xpad (xlv av) h.2.2.1) [] D post) : xRuns Γ n h av D post := by
  refine Met.ofW (cc := h.2.1) (maxL := h.2.2.1) (ret := h.2.2.2) hy rfl ?_
  intro p e s m args below meth c s₁ B hml hv
  obtain ⟨rfl, hH, hs, hvv⟩ := hv
  have hts := atoms_spec (ws := xcd h :: xtb) B.pre
  have hlen' : (lg_sl (av.map (xcv Γ))).length ≤ h.2.2.1 := by rw [← xlv_len]; exact Nat.le_of_ble_eq_true hlen
  have hl := lv_entry (av.map (xcv Γ)) (n := h.2.2.1) hlen'
  rw [lg_entry_eq]
  have hl2 : xlh Γ h ((lg_sl (av.map (xcv Γ)) ++ List.replicate (h.2.2.1 - (lg_sl (av.map (xcv Γ))).length) Slot.unset).toArray) (xpad (xlv av) h.2.2.1) := by
    refine ⟨hl.1, hl.2.1, fun i v hi => ?_, ?_⟩
    · by_cases hlt : i < (xlv av).length
      · rw [xpad, List.getElem?_append_left hlt] at hi
        obtain ⟨q1, q2⟩ := xlv_args Γ av 0 i v hi
        refine ⟨hvv v q1, ?_⟩
        have := hl.2.2 _ q2
        simpa using this
      · rw [xpad, List.getElem?_append_right (by omega), List.getElem?_replicate] at hi
        split at hi
        · cases hi
        · cases hi
    · have := Nat.le_of_ble_eq_true hlen
      simp [xpad]
      omega
  exact kk p e (xrm n) s m _ below meth c s.heap [] 0 0 _ _ ⟨B.exec, B.bytes, hml, B.returns, B.notSynchronized, findClass_of_methodNamed B.named, fun w hw => hts w (List.mem_cons_of_mem _ hw), hs, hk, Nat.le_refl _, Nat.le_refl _, Nat.le_refl _, Nat.le_refl _⟩ hH va_S.rf hl2 (fun v hv => by cases hv) (fun v D' H' locs' pc' ls' hp hH' hS' hrt => by
    have hq : ∀ t : State, t.heap = H' → s.WarmedH t.vm → xQ Γ post (av.map (xcv Γ)).toArray s (.returned (v.map Value.int)) t := fun t ht _ => ⟨⟨v, D', rfl, hp, by rw [ht]; exact hH'⟩, hS'.F ht⟩
    cases v with
    | none => exact W.vret B.exec B.bytes (B.returns.trans hrt.1) hq hS'.2.2 hrt.2 B.notSynchronized
    | some x =>
      obtain ⟨ty, e1, e2, e3⟩ := hrt
      exact W.zret B.exec B.bytes (B.returns.trans e1) e2 hq hS'.2.2 e3 B.notSynchronized)
theorem xP_blind {av : List xV} {D : xM} : FrameBlind (xP Γ av D) := by
  intro a U g mk hq
  obtain ⟨q1, q2, q3, q4⟩ := hq
  exact ⟨q1, q2, xS.same q3 rfl rfl, q4⟩
theorem xcd_good {g : xHd} (hc : xin (xcd g) = true) : GoodIn xtb (xcd g :: xtb) := by
  intro w hw
  rcases List.mem_cons.mp hw with e | e
  · rw [e]; exact ⟨xin_mem hc, xtb_good (xin_mem hc)⟩
  · exact ⟨e, xtb_good e⟩
def xcat (v : xV) : Nat := match v with
  | .inr (.inl _) => 2
  | _ => 1
theorem xcat_ok (Γ : xG) (v : xV) : (xcv Γ v).category = xcat v := by
  rcases v with x | x | x <;> rfl
set_option maxHeartbeats 4000000 in
/-- behind a call -/
theorem x_after {rest : List xV} {lv : List (Option xV)} {pc : Nat} {p : Program} {e : Env} {R : Room} {s : State} {m : MethodId} {args : Array Value} {below : List Frame} {meth : Method} {c : Code} {H : Heap} {locs : List Loc} {cells slots : Nat} {Q : State → Prop} {ls : Array Slot} {st0 : List Value} {va : Array Value}
    (hrun : va_Run p Γ.l e R s m args below meth c H locs cells slots 0 0 (F0 m pc ls st0) (rest.map (xcv Γ)) (xQ Γ (fun v D2 => xW Γ n h rows (pc + 3) lv (v.toList.map .inl ++ rest) D2 post) va) (xA Γ))
    (C : xC Γ n h rows p R s m args meth c cells slots) (hS : va_S (xA Γ) s.heap H locs) (hl : xlh Γ h ls lv) (hst : ∀ v ∈ rest, xvv v)
    (hret : ∀ (v : Option Int32) (D' : xM) (H' : Heap) (locs' : List Loc) (pc' : Nat) (ls' : Array Slot), post v D' → xH Γ D' H' → va_S (xA Γ) s.heap H' locs' → xrt h pc' v → W p Γ.l e R s m args below meth c H' locs' cells slots Q (F0 m pc' ls' (v.toList.map Value.int))) :
    W p Γ.l e R s m args below meth c H locs cells slots Q (F0 m pc ls st0) := by
  intro T hT X
  obtain ⟨v, st₀, t, T', L, h0, X', hL, e1, e2, ⟨⟨r, D2, hv, hp, hb⟩, hz, hk⟩, st⟩ := hrun T hT X
  cases hv
  rw [h0] at hz hk
  have hS' : va_S (xA Γ) s.heap T'.heap (locs ++ L) := ⟨Nat.le_trans hS.1 (by rw [e1]; exact hz), fun q h1 h2 => by rw [e1, hk q (Nat.lt_of_lt_of_le h1 hS.1) h2]; exact hS.2.1 q h1 h2, fun q hq => by
      rcases List.mem_append.mp hq with z | z
      · exact hS.2.2 q z
      · exact hL q z⟩
  have K := hp p e R s m args below meth c T'.heap (locs ++ L) cells slots Q ls C (by rw [e1]; exact hb) hS' hl (fun u hu => by
      rcases List.mem_append.mp hu with z | z
      · obtain ⟨x, -, rfl⟩ := List.mem_map.mp z
        trivial
      · exact hst u z) hret
  obtain ⟨t2, a1, b1⟩ := K T' rfl X'
  refine ⟨t2, st t2 ?_, b1⟩
  have e9 : ((r.map Value.int).toList ++ rest.map (xcv Γ)) = (r.toList.map (Sum.inl : Int32 → xV) ++ rest).map (xcv Γ) := by
    cases r <;> simp [xcv]
  show Steps p.tables e below (T'.setTop { F0 m pc ls st0 with pc := pc + 3, stack := ((r.map Value.int).toList ++ rest.map (xcv Γ)) }) t2
  rw [e9]
  exact a1
set_option maxHeartbeats 4000000 in
/-- invokevirtual -/
theorem x_call {pc pc' a b : Nat} {lv lv' : List (Option xV)} {st st' : List xV} {D D' : xM} {idx : Nat} {g : xHd} {k i : Nat} (As : List xV) {rest : List xV} (h1 : xrun rows xN 60 pc lv st D = some (pc', lv', st', D')) (hr : xrw rows pc' = some (.invokevirtual idx, 3, a, b)) (hg : xsg[a]? = some g) (hst' : st' = As.reverse ++ .inr (.inr (0, k, i)) :: rest) (hb2 : As.length = b) (hcls : (vwCl[k]?).map (fun q => q.1) = some g.1.cls) (hroom : Nat.ble ((rest.map xcat).sum) 8 = true)
    (kk : xRuns Γ n g (.inr (.inr (0, k, i)) :: As) D' (fun v D2 => xW Γ (n + 1) h rows (pc' + 3) lv' (v.toList.map .inl ++ rest) D2 post)) : xW Γ (n + 1) h rows pc lv st D post := by
  refine x_to xN h1 ?_
  intro p e R s m args below meth c H locs cells slots Q ls C hH hS hl hst hret
  obtain ⟨hx, hb, hml, hrt, hlk, hown, hts, hs, hck, hR⟩ := id C
  have hok := xck_row hck hr
  have hd := xok_dec hok
  have hok2 := (xand hok).2
  simp only [hg] at hok2
  subst hst'
  obtain ⟨q12, q3⟩ := xand hok2
  obtain ⟨q1, q2⟩ := xand q12
  obtain ⟨c12345, c6⟩ := xand q1
  obtain ⟨c1234, c5⟩ := xand c12345
  obtain ⟨c123, c4⟩ := xand c1234
  obtain ⟨c12, c3⟩ := xand c123
  obtain ⟨c1, c2⟩ := xand c12
  have hmx : g.2.2.1 ≤ 40 := of_decide_eq_true c6
  have hvr : xvr 0 k i := hst (.inr (.inr (0, k, i))) (List.mem_append_right _ List.mem_cons_self)
  have hcell : xkd[i]? = some (0, k) := xcell hvr (Or.inl (Nat.zero_le _))
  have hrest : ∀ v ∈ rest, xvv v := fun v hv => hst v (List.mem_append_right _ (List.mem_cons_of_mem _ hv))
  have hAs : ∀ v ∈ As, xvv v := fun v hv => hst v (List.mem_append_left _ (List.mem_reverse.mpr hv))
  have cw : CallW R s args h.1.cls g.1.cls idx g.1 g.2.1 g.2.2.1 g.2.2.2 (xcd g :: xtb) (xrm n) 0 0 b :=
    ⟨callB_of b hts (xcd_good c3) rfl rfl rfl (hts _ (xin_mem c2)) (hts _ (xin_mem c1)) ⟨(of_decide_eq_true c4 : _ ∧ _).1, (of_decide_eq_true c4 : _ ∧ _).2, of_decide_eq_true c5⟩ ⟨by have := hR.1; show n + 1 ≤ R.frames; omega, by have := hR.2.1; show 8 + (g.2.2.1 + 11) + 64 * n ≤ R.locals; omega⟩, hts _ (xin_mem q2), hts _ (xin_mem q3)⟩
  obtain ⟨q, hq, hqe⟩ : ∃ q, vwCl[k]? = some q ∧ q.1 = g.1.cls := by
    cases hz : vwCl[k]? with
    | none => rw [hz] at hcls; cases hcls
    | some q => rw [hz] at hcls; exact ⟨q, rfl, Option.some.inj hcls⟩
  have hrecv := va_recv hs.1 hH hq (xws_at (D := D') hcell)
  rw [hqe] at hrecv
  have hpre : PreV s H g.1.cls (Γ.r i) (xP Γ (.inr (.inr (0, k, i)) :: As) D') (As.map (xcv Γ)) := ⟨xP_blind, hrecv, fun U hU hW => ⟨rfl, by rw [hU]; exact hH, hs.warm hW (by rw [hU]; exact hS.1) (fun z z1 z2 => by rw [hU]; exact hS.2.1 z z1 z2), fun v hv => by
      rcases List.mem_cons.mp hv with z | z
      · rw [z]; exact hvr
      · exact hAs v z⟩⟩
  have hstk : (As.reverse ++ .inr (.inr (0, k, i)) :: rest).map (xcv Γ) = (As.map (xcv Γ)).reverse ++ .ref (Γ.r i) :: rest.map (xcv Γ) := by
    rw [List.map_append, List.map_reverse]; rfl
  rw [hstk]
  have hcat : ((rest.map (xcv Γ)).map fun v => v.category).sum ≤ 8 := by
    have := Nat.le_of_ble_eq_true hroom
    rw [List.map_map]
    have e2 : (Value.category ∘ xcv Γ) = xcat := funext (xcat_ok Γ)
    show (List.map (Value.category ∘ xcv Γ) rest).sum ≤ 8
    rw [e2]
    exact this
  exact x_after (va_runV (As := As.map (xcv Γ)) (rest := rest.map (xcv Γ)) ⟨hx, hb, hml, hown, hts⟩ kk cw hpre rfl (by simp [hb2]) hl.1 rfl (by show 2 * 0 + _ ≤ 8; omega) hd ⟨by have := hR.2.2.1; omega, by have := hR.2.2.2; omega⟩) C hS hl hrest hret
set_option maxHeartbeats 4000000 in
/-- invokestatic -/
theorem x_scall {pc pc' a b : Nat} {lv lv' : List (Option xV)} {st st' : List xV} {D D' : xM} {idx : Nat} {g : xHd} (As : List xV) {rest : List xV} (h1 : xrun rows xN 60 pc lv st D = some (pc', lv', st', D')) (hr : xrw rows pc' = some (.invokestatic idx, 3, a, b)) (ha : Nat.beq a 1000 = false) (hg : xsg[a]? = some g) (hst' : st' = As.reverse ++ rest) (hb2 : As.length = b) (hroom : Nat.ble ((rest.map xcat).sum) 8 = true)
    (kk : xRuns Γ n g As D' (fun v D2 => xW Γ (n + 1) h rows (pc' + 3) lv' (v.toList.map .inl ++ rest) D2 post)) : xW Γ (n + 1) h rows pc lv st D post := by
  refine x_to xN h1 ?_
  intro p e R s m args below meth c H locs cells slots Q ls C hH hS hl hst hret
  obtain ⟨hx, hb, hml, hrt, hlk, hown, hts, hs, hck, hR⟩ := id C
  have hok := xck_row hck hr
  have hd := xok_dec hok
  have hok2 := (xand hok).2
  have ha2 : ¬ a = 1000 := fun z => by rw [z] at ha; cases ha
  simp only [if_neg ha2, hg] at hok2
  subst hst'
  obtain ⟨q1, q2⟩ := xand hok2
  obtain ⟨c12345, c6⟩ := xand q1
  obtain ⟨c1234, c5⟩ := xand c12345
  obtain ⟨c123, c4⟩ := xand c1234
  obtain ⟨c12, c3⟩ := xand c123
  obtain ⟨c1, c2⟩ := xand c12
  have hmx : g.2.2.1 ≤ 40 := of_decide_eq_true c6
  have hrest : ∀ v ∈ rest, xvv v := fun v hv => hst v (List.mem_append_right _ hv)
  have hAs : ∀ v ∈ As, xvv v := fun v hv => hst v (List.mem_append_left _ (List.mem_reverse.mpr hv))
  have cw : CallB R s args h.1.cls idx g.1 g.2.1 g.2.2.1 g.2.2.2 (xcd g :: xtb) (xrm n) 0 0 b ∧ (Cond.static g.1).before args s = true :=
    ⟨callB_of b hts (xcd_good c3) rfl rfl rfl (hts _ (xin_mem c2)) (hts _ (xin_mem c1)) ⟨(of_decide_eq_true c4 : _ ∧ _).1, (of_decide_eq_true c4 : _ ∧ _).2, of_decide_eq_true c5⟩ ⟨by have := hR.1; show n + 1 ≤ R.frames; omega, by have := hR.2.1; show 8 + (g.2.2.1 + 11) + 64 * n ≤ R.locals; omega⟩, hts _ (xin_mem q2)⟩
  have hpre : PreS s H (xP Γ As D') (As.map (xcv Γ)) := ⟨xP_blind, fun U hU hW => ⟨rfl, by rw [hU]; exact hH, hs.warm hW (by rw [hU]; exact hS.1) (fun z z1 z2 => by rw [hU]; exact hS.2.1 z z1 z2), hAs⟩⟩
  have hstk : (As.reverse ++ rest).map (xcv Γ) = (As.map (xcv Γ)).reverse ++ rest.map (xcv Γ) := by
    rw [List.map_append, List.map_reverse]
  rw [hstk]
  have hcat : ((rest.map (xcv Γ)).map fun v => v.category).sum ≤ 8 := by
    have := Nat.le_of_ble_eq_true hroom
    rw [List.map_map]
    have e2 : (Value.category ∘ xcv Γ) = xcat := funext (xcat_ok Γ)
    show (List.map (Value.category ∘ xcv Γ) rest).sum ≤ 8
    rw [e2]
    exact this
  exact x_after (va_runS (As := As.map (xcv Γ)) (rest := rest.map (xcv Γ)) ⟨hx, hb, hml, hown, hts⟩ kk cw hpre rfl (by simp [hb2]) hl.1 rfl (by show 2 * 0 + _ ≤ 8; omega) hd ⟨by have := hR.2.2.1; omega, by have := hR.2.2.2; omega⟩) C hS hl hrest hret
end XC
end
section
def xcp (D : xM) (i : Nat) (f : Nat → Int32) : xM := fun a => if a = i then f else D a
section XCP
variable {Γ : xG} {n : Nat} {h : xHd} {rows : List xRow} {post : Option Int32 → xM → Prop}
set_option maxHeartbeats 4000000 in
/-- System.arraycopy of int rows -/
theorem x_copy {pc pc' b : Nat} {lv lv' : List (Option xV)} {st st' : List xV} {D D' : xM} {idx k0 i0 k1 i1 : Nat} {sp dp z : Int32} {rest : List xV} (h1 : xrun rows xN 60 pc lv st D = some (pc', lv', .inl z :: .inl dp :: .inr (.inr (1, k1, i1)) :: .inl sp :: .inr (.inr (1, k0, i0)) :: rest, D')) (hr : xrw rows pc' = some (.invokestatic idx, 3, 1000, b)) (g1 : ¬ sp < 0) (g2 : ¬ dp < 0) (g3 : ¬ z < 0) (g4 : sp.toNatClampNeg + z.toNatClampNeg ≤ k0) (g5 : dp.toNatClampNeg + z.toNatClampNeg ≤ k1) (hroom : Nat.ble ((rest.map xcat).sum) 8 = true)
    (kk : xW Γ (n + 1) h rows (pc' + 3) lv' rest (xcp D' i1 (va_cpy (D' i0) (D' i1) sp.toNatClampNeg dp.toNatClampNeg z.toNatClampNeg)) post) : xW Γ (n + 1) h rows pc lv st D post := by
  refine x_to xN h1 ?_
  intro p e R s m args below meth c H locs cells slots Q ls C hH hS hl hst hret
  obtain ⟨hx, hb, hml, hrt, hlk, hown, hts, hs, hck, hR⟩ := id C
  have hok := xck_row hck hr
  have hd := xok_dec hok
  have hok2 := (xand hok).2
  simp only [if_true] at hok2
  obtain ⟨q123, q4⟩ := xand hok2
  obtain ⟨q12, q3⟩ := xand q123
  obtain ⟨q1, q2⟩ := xand q12
  have hc1 : xkd[i1]? = some (1, k1) := xcell (xfh (xft (xft hst))) (Or.inl (by decide))
  have hc0 : xkd[i0]? = some (1, k0) := xcell (xfh (xft (xft (xft (xft hst))))) (Or.inl (by decide))
  have hcat : ((rest.map (xcv Γ)).map fun v => v.category).sum ≤ 8 := by
    have := Nat.le_of_ble_eq_true hroom
    rw [List.map_map]
    have e2 : (Value.category ∘ xcv Γ) = xcat := funext (xcat_ok Γ)
    show (List.map (Value.category ∘ xcv Γ) rest).sum ≤ 8
    rw [e2]
    exact this
  have hnw : nativeFrameWords "java/lang/System" "arraycopy" 5 = 7 := by decide +kernel
  refine va_copyi hx hb (hml.trans hl.1.symm) hown (hts _ (xin_mem q1)) (hts _ (xin_mem q2)) (hts _ (xin_mem q3)) (hts _ (xin_mem q4)) hs.1 hH (xws_D hs D') hS i0 i1 0 0 (xws_at hc0) (xws_at hc1) rfl rfl rfl g1 g2 g3 g4 g5 (fun _ _ => rfl) (by have := hR.1; omega) (by rw [hnw]; have := hR.2.1; omega) hd (fun H1 locs1 hP1 hD1 hS1 => ?_)
  have e5 : (xws Γ D').set i1 (Γ.r i1, .inl (Γ.c 0, k1, .inl (va_cpy (D' i0) (D' i1) sp.toNatClampNeg dp.toNatClampNeg z.toNatClampNeg))) = xws Γ (xcp D' i1 (va_cpy (D' i0) (D' i1) sp.toNatClampNeg dp.toNatClampNeg z.toNatClampNeg)) := by
    have e6 : xce Γ (xcp D' i1 (va_cpy (D' i0) (D' i1) sp.toNatClampNeg dp.toNatClampNeg z.toNatClampNeg)) i1 (1, k1) = .inl (Γ.c 0, k1, .inl (va_cpy (D' i0) (D' i1) sp.toNatClampNeg dp.toNatClampNeg z.toNatClampNeg)) := by
      simp [xce, xcp]
    rw [← e6]
    exact xws_set (q := (1, k1)) hc1 (fun a ha => by simp [xcp, ha])
  rw [e5] at hP1
  exact kk p e R s m args below meth c H1 locs1 cells slots Q ls C hP1 hS1 hl (xft (xft (xft (xft (xft hst))))) hret
end XCP
end
