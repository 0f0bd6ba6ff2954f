/-! ===== the layout: cells by number, in the order in which the two constructors make them; method heads ===== -/
abbrev xV : Type := Int32 ⊕ (Int64 ⊕ (Nat × Nat × Nat))
abbrev xI (x : Int32) : xV := .inl x
abbrev xL (x : Int64) : xV := .inr (.inl x)
abbrev xR (s k i : Nat) : xV := .inr (.inr (s, k, i))
abbrev xM : Type := Nat → Nat → Int32
abbrev xRow : Type := Nat × Instr × Nat × Nat × Nat
abbrev xHd : Type := MethodName × ByteArray × Nat × Option FieldType
def xkd : List (Nat × Nat) := [(0, 8), (0, 5), (1, 200), (0, 0), (0, 7), (1, 8), (1, 8), (1, 80), (1, 4), (1, 4), (0, 6), (1, 200), (1, 200), (1, 6), (1, 16), (0, 7), (1, 8), (1, 8), (1, 80), (1, 4), (1, 4), (0, 7), (1, 8), (1, 8), (1, 80), (1, 4), (1, 4), (0, 7), (1, 8), (1, 8), (1, 80), (1, 4), (1, 4), (0, 4), (1, 64), (1, 4), (0, 1), (3, 8), (3, 2), (0, 7), (1, 8), (1, 8), (1, 80), (1, 4), (1, 4), (0, 7), (1, 8), (1, 8), (1, 80), (1, 4), (1, 4), (0, 7), (1, 8), (1, 8), (1, 80), (1, 4), (1, 4), (0, 7), (1, 8), (1, 8), (1, 80), (1, 4), (1, 4), (0, 7), (1, 8), (1, 8), (1, 80), (1, 4), (1, 4), (0, 7), (1, 8), (1, 8), (1, 80), (1, 4), (1, 4), (0, 7), (1, 8), (1, 8), (1, 80), (1, 4), (1, 4), (0, 7), (1, 8), (1, 8), (1, 80), (1, 4), (1, 4), (0, 7), (1, 8), (1, 8), (1, 80), (1, 4), (1, 4), (0, 7), (1, 8), (1, 8), (1, 80), (1, 4), (1, 4), (0, 3), (1, 6), (1, 6), (1, 6), (6, 3), (0, 2), (1, 12), (0, 2), (1, 12), (0, 2), (1, 12), (1, 32), (0, 9), (1, 1404), (2, 2), (1, 200), (1, 6), (1, 6), (1, 6), (1, 202), (1, 202), (1, 202), (1, 3), (1, 3), (1, 36), (1, 4), (1, 7), (1, 6), (1, 4), (1, 8), (1, 4), (1, 5), (1, 3), (1, 5), (1, 4), (1, 5), (1, 8), (2, 203), (2, 203), (1, 64), (1, 4), (1, 32), (1, 4), (1, 4), (1, 12)]
def xfr : List (List (Option (Nat × Nat × Nat × Bool))) := [[some (0, 5, 1, false), some (0, 7, 4, false), none],
  [some (3, 8, 37, false), some (3, 2, 38, false), none, none, none],
  [some (1, 12, 1, true), none, none, none],
  [some (1, 6, 100, false), some (1, 6, 101, false), some (1, 6, 102, false), none],
  [some (1, 64, 34, false), some (1, 4, 35, false)],
  [some (1, 200, 2, false), none, none, none],
  [some (1, 200, 11, false), some (1, 200, 12, false), some (1, 6, 13, false), some (1, 16, 14, false), none, none, none],
  [none, none, none, none, some (1, 8, 1, true), some (1, 8, 2, true), some (1, 80, 3, true), some (1, 4, 4, true), some (1, 4, 5, true)],
  [some (0, 5, 1, false), some (0, 0, 3, false), some (0, 6, 10, false), some (0, 7, 15, false), some (0, 7, 21, false), some (0, 7, 27, false), some (0, 4, 33, false), some (0, 1, 36, false), some (0, 3, 99, false), some (6, 3, 103, false), some (1, 32, 110, false)],
  [some (1, 1404, 112, false), none, some (2, 2, 113, false), some (1, 200, 114, false), none, none, some (1, 6, 115, false), some (1, 6, 116, false), some (1, 6, 117, false), none, some (1, 202, 118, false), some (1, 202, 119, false), some (1, 202, 120, false), some (1, 3, 121, false), some (1, 3, 122, false), some (1, 36, 123, false), none, none, none, none, some (1, 4, 124, false), none, none, some (1, 7, 125, false), some (1, 6, 126, false), some (1, 4, 127, false), some (1, 8, 128, false), some (1, 4, 129, false), some (1, 5, 130, false), some (1, 3, 131, false), some (1, 5, 132, false), some (1, 4, 133, false), some (1, 5, 134, false), some (1, 8, 135, false), some (2, 203, 136, false), some (2, 203, 137, false), some (1, 64, 138, false), some (1, 4, 139, false), some (1, 32, 140, false), some (1, 4, 141, false), some (1, 4, 142, false), some (1, 12, 143, false)]]
abbrev q_x : Nat := 0
abbrev q_text : Nat := 1
abbrev q_reader : Nat := 3
abbrev q_rworld : Nat := 4
abbrev q_grammar : Nat := 10
abbrev q_told : Nat := 15
abbrev q_now : Nat := 21
abbrev q_trial : Nat := 27
abbrev q_speech : Nat := 33
abbrev q_history : Nat := 36
abbrev q_sightings : Nat := 99
abbrev q_keptBy : Nat := 110
abbrev q_m : Nat := 111
abbrev q_m_row : Nat := 112
abbrev q_m_isKept : Nat := 113
abbrev q_m_text : Nat := 114
abbrev q_m_seenPerch : Nat := 115
abbrev q_m_seenPlace : Nat := 116
abbrev q_m_seenWord : Nat := 117
abbrev q_m_letters : Nat := 118
abbrev q_m_ends : Nat := 119
abbrev q_m_begins : Nat := 120
abbrev q_m_sizes : Nat := 121
abbrev q_m_sorts : Nat := 122
abbrev q_m_places : Nat := 123
abbrev q_m_readBy : Nat := 124
abbrev q_m_harbourWord : Nat := 125
abbrev q_m_parrotWord : Nat := 126
abbrev q_m_greyWord : Nat := 127
abbrev q_m_cockatooWord : Nat := 128
abbrev q_m_hawkWord : Nat := 129
abbrev q_m_greenWord : Nat := 130
abbrev q_m_manWord : Nat := 131
abbrev q_m_knowsWord : Nat := 132
abbrev q_m_sitsWord : Nat := 133
abbrev q_m_coverWord : Nat := 134
abbrev q_m_open : Nat := 135
abbrev q_m_isNow : Nat := 136
abbrev q_m_isThen : Nat := 137
abbrev q_m_saidWords : Nat := 138
abbrev q_m_saidMany : Nat := 139
abbrev q_m_keepsBy : Nat := 140
abbrev q_m_line : Nat := 141
abbrev q_m_bestLine : Nat := 142
abbrev q_m_moved : Nat := 143
abbrev xB0 : Nat := 39
abbrev xK0 : Nat := 87
abbrev xR0 : Nat := 104
abbrev xNC : Nat := 144
def xsg : List (MethodName × ByteArray × Nat × Option FieldType) := [
  (yX0_init, cX0_init, 2, none),
  (yX0_readOver, cX0_readOver, 2, some .int),
  (yX0_readClause, cX0_readClause, 2, some .boolean),
  (yX0_kindNamed, cX0_kindNamed, 1, some .int),
  (yX0_readBird, cX0_readBird, 3, some .boolean),
  (yX0_readMan, cX0_readMan, 2, some .boolean),
  (yX0_readKnows, cX0_readKnows, 4, some .boolean),
  (yX0_readSits, cX0_readSits, 4, some .boolean),
  (yX0_readCover, cX0_readCover, 2, some .boolean),
  (yX0_readNumber, cX0_readNumber, 2, some .int),
  (yX1_init, cX1_init, 2, none),
  (yX1_clear, cX1_clear, 1, none),
  (yX1_remember, cX1_remember, 2, none),
  (yX1_takeBack, cX1_takeBack, 2, none),
  (yX1_store, cX1_store, 3, none),
  (yX1_isStored, cX1_isStored, 2, some .boolean),
  (yX1_restore, cX1_restore, 3, none),
  (yX2_init, cX2_init, 1, none),
  (yX2_wind, cX2_wind, 4, none),
  (yX2_find, cX2_find, 3, some .int),
  (yX2_holds, cX2_holds, 3, some .boolean),
  (yX2_put, cX2_put, 3, some .int),
  (yX2_sound, cX2_sound, 3, some .int),
  (yX3_init, cX3_init, 1, none),
  (yX3_clear, cX3_clear, 1, none),
  (yX3_add, cX3_add, 4, none),
  (yX3_agreeWith, cX3_agreeWith, 3, some .boolean),
  (yX4_init, cX4_init, 1, none),
  (yX4_clear, cX4_clear, 2, none),
  (yX4_add, cX4_add, 3, none),
  (yX4_wordAt, cX4_wordAt, 3, some .int),
  (yX5_init, cX5_init, 1, none),
  (yX5_add, cX5_add, 2, none),
  (yX5_clear, cX5_clear, 1, none),
  (yX5_begin, cX5_begin, 1, none),
  (yX5_readToken, cX5_readToken, 1, none),
  (yX5_readLetter, cX5_readLetter, 1, none),
  (yX5_isOver, cX5_isOver, 1, some .boolean),
  (yX5_isSign, cX5_isSign, 2, some .boolean),
  (yX5_isRow, cX5_isRow, 3, some .boolean),
  (yX5_numberBelow, cX5_numberBelow, 3, some .int),
  (yX5_oneWord, cX5_oneWord, 1, some .int),
  (yX5_risingWords, cX5_risingWords, 5, some .int),
  (yX5_wordOf, cX5_wordOf, 1, some .int),
  (yX5_sortOf, cX5_sortOf, 1, some .int),
  (yX6_init, cX6_init, 1, none),
  (yX6_faultIn, cX6_faultIn, 5, some .int),
  (yX6_take, cX6_take, 5, none),
  (yX6_endsIn, cX6_endsIn, 4, some .int),
  (yX6_sumEnds, cX6_sumEnds, 9, some .int),
  (yX6_behindPart, cX6_behindPart, 2, some .int),
  (yX6_repeatedEnds, cX6_repeatedEnds, 8, some .int),
  (yX6_partEnds, cX6_partEnds, 5, some .int),
  (yX6_wordEnds, cX6_wordEnds, 5, some .int),
  (yX7_init, cX7_init, 1, none),
  (yX7_become, cX7_become, 2, none),
  (yX7_clear, cX7_clear, 1, none),
  (yX7_addBird, cX7_addBird, 4, none),
  (yX7_addMan, cX7_addMan, 2, none),
  (yX7_isCovered, cX7_isCovered, 2, some .boolean),
  (yX7_knowledge, cX7_knowledge, 3, some .int),
  (yX7_allKnowledge, cX7_allKnowledge, 4, some .int),
  (yX7_wellKnown, cX7_wellKnown, 4, some .int),
  (yX7_wellKnownBySome, cX7_wellKnownBySome, 3, some .int),
  (yX7_allWordsOfMen, cX7_allWordsOfMen, 3, some .int),
  (yX7_manBeside, cX7_manBeside, 3, some .int),
  (yX7_seat, cX7_seat, 4, none),
  (yX7_learn, cX7_learn, 5, none),
  (yX7_halve, cX7_halve, 3, none),
  (yX7_hearable, cX7_hearable, 2, some .int),
  (yX7_passEvening, cX7_passEvening, 4, none),
  (yX7_handOver, cX7_handOver, 4, none),
  (yX7_awakeOn, cX7_awakeOn, 4, some .int),
  (yX7_isSilenced, cX7_isSilenced, 3, some .boolean),
  (yX7_speakOn, cX7_speakOn, 5, none),
  (yX7_speak, cX7_speak, 8, none),
  (yX7_bestKnown, cX7_bestKnown, 7, some .int),
  (yX7_spread, cX7_spread, 4, none),
  (yX7_lose, cX7_lose, 4, none),
  (yX8_init, cX8_init, 2, none),
  (yX8_write, cX8_write, 2, some .int),
  (yX8_erase, cX8_erase, 2, some .int),
  (yX8_fault, cX8_fault, 2, some .int),
  (yX8_harbour, cX8_harbour, 1, some .int),
  (yX8_tongue, cX8_tongue, 1, some .int),
  (yX8_bird, cX8_bird, 3, some .int),
  (yX8_man, cX8_man, 3, some .int),
  (yX8_known, cX8_known, 5, some .int),
  (yX8_as, cX8_as, 4, some .int),
  (yX8_evening, cX8_evening, 3, some .int),
  (yX8_teach, cX8_teach, 3, some .int),
  (yX8_moult, cX8_moult, 2, some .int),
  (yX8_perch, cX8_perch, 4, some .int),
  (yX8_cover, cX8_cover, 2, some .int),
  (yX8_sit, cX8_sit, 4, some .int),
  (yX8_undo, cX8_undo, 1, some .int),
  (yX8_keep, cX8_keep, 2, some .int),
  (yX8_back, cX8_back, 2, some .int),
  (yX8_said, cX8_said, 3, some .int),
  (yX8_when, cX8_when, 5, some .int),
  (yX8_keeps, cX8_keeps, 4, some .int),
  (yX8_match, cX8_match, 5, some .int),
  (yX8_clean, cX8_clean, 7, some .int),
  (yX8_of, cX8_of, 5, some .int),
  (yX8_left, cX8_left, 8, some .int),
  (yX8_seen, cX8_seen, 4, some .int),
  (yX8_forget, cX8_forget, 2, some .int),
  (yX8_kinds, cX8_kinds, 4, some .int),
  (yX8_reel, cX8_reel, 4, some .int),
  (yX8_record, cX8_record, 6, some .int),
  (yX8_play, cX8_play, 5, some .int),
  (yX8_splice, cX8_splice, 8, some .int),
  (yX8_drop, cX8_drop, 2, some .int),
  (yX8_count, cX8_count, 2, some .int),
  (yX8_isNot, cX8_isNot, 3, some .boolean),
  (yX8_noBird, cX8_noBird, 2, some .boolean),
  (yX8_noMan, cX8_noMan, 2, some .boolean),
  (yX8_noWord, cX8_noWord, 1, some .boolean),
  (yX8_noPerch, cX8_noPerch, 1, some .boolean),
  (yX8_noReel, cX8_noReel, 1, some .boolean),
  (yX8_noSort, cX8_noSort, 1, some .boolean),
  (yX8_foretellSpeech, cX8_foretellSpeech, 1, none),
  (yX8_keptWords, cX8_keptWords, 5, some .int),
  (yX8_mostKept, cX8_mostKept, 5, some .int),
  (yX8_matchOf, cX8_matchOf, 5, some .int),
  (yX8_leastChoice, cX8_leastChoice, 5, some .int),
  (yX8_staysClean, cX8_staysClean, 6, some .boolean),
  (yX8_commonDivisor, cX8_commonDivisor, 6, some .int),
  (yX8_reelsThere, cX8_reelsThere, 3, some .int),
  (yX9_init, cX9_init, 1, none),
  (yX9_in, cX9_in, 6, some .boolean),
  (yX9_has, cX9_has, 2, some .boolean),
  (yX9_bits, cX9_bits, 3, some .int),
  (yX9_write, cX9_write, 2, some .int),
  (yX9_erase, cX9_erase, 2, some .int),
  (yX9_isLetter, cX9_isLetter, 1, some .boolean),
  (yX9_isDigit, cX9_isDigit, 1, some .boolean),
  (yX9_nextToken, cX9_nextToken, 1, none),
  (yX9_isWord, cX9_isWord, 4, some .boolean),
  (yX9_numberHere, cX9_numberHere, 3, some .int),
  (yX9_number, cX9_number, 3, some .int),
  (yX9_words, cX9_words, 6, some .int),
  (yX9_kindHere, cX9_kindHere, 1, some .int),
  (yX9_readsBird, cX9_readsBird, 3, some .boolean),
  (yX9_readsMan, cX9_readsMan, 2, some .boolean),
  (yX9_readsKnows, cX9_readsKnows, 5, some .boolean),
  (yX9_readsSits, cX9_readsSits, 5, some .boolean),
  (yX9_readsCover, cX9_readsCover, 2, some .boolean),
  (yX9_readsHarbour, cX9_readsHarbour, 2, some .boolean),
  (yX9_readsClause, cX9_readsClause, 1, some .boolean),
  (yX9_reads, cX9_reads, 3, some .boolean),
  (yX9_copyHarbour, cX9_copyHarbour, 4, none),
  (yX9_harbour, cX9_harbour, 1, some .int),
  (yX9_tongueFault, cX9_tongueFault, 8, some .int),
  (yX9_fault, cX9_fault, 2, some .int),
  (yX9_layTongue, cX9_layTongue, 4, none),
  (yX9_tongue, cX9_tongue, 3, some .int),
  (yX9_mark, cX9_mark, 3, some .boolean),
  (yX9_goesOn, cX9_goesOn, 5, some .boolean),
  (yX9_goOnAll, cX9_goOnAll, 3, none),
  (yX9_hearWord, cX9_hearWord, 3, none),
  (yX9_hears, cX9_hears, 1, some .int),
  (yX9_gets, cX9_gets, 1, some .int),
  (yX9_says, cX9_says, 1, some .int),
  (yX9_loses, cX9_loses, 1, some .int),
  (yX9_isBird, cX9_isBird, 2, some .boolean),
  (yX9_isMan, cX9_isMan, 2, some .boolean),
  (yX9_isWordNumber, cX9_isWordNumber, 1, some .boolean),
  (yX9_isOpen, cX9_isOpen, 3, some .boolean),
  (yX9_learns, cX9_learns, 6, none),
  (yX9_manOf, cX9_manOf, 5, some .int),
  (yX9_wellKnown, cX9_wellKnown, 5, some .int),
  (yX9_bird, cX9_bird, 3, some .int),
  (yX9_man, cX9_man, 3, some .int),
  (yX9_as, cX9_as, 5, some .int),
  (yX9_handOver, cX9_handOver, 6, none),
  (yX9_isSilent, cX9_isSilent, 5, some .boolean),
  (yX9_bestWord, cX9_bestWord, 8, some .int),
  (yX9_say, cX9_say, 6, none),
  (yX9_speak, cX9_speak, 7, none),
  (yX9_lose, cX9_lose, 5, none),
  (yX9_passes, cX9_passes, 3, none),
  (yX9_layTried, cX9_layTried, 1, none),
  (yX9_passTried, cX9_passTried, 3, none),
  (yX9_known, cX9_known, 4, some .int),
  (yX9_keepPast, cX9_keepPast, 2, none),
  (yX9_evening, cX9_evening, 3, some .int),
  (yX9_teach, cX9_teach, 3, some .int),
  (yX9_moult, cX9_moult, 4, some .int),
  (yX9_perch, cX9_perch, 4, some .int),
  (yX9_cover, cX9_cover, 2, some .int),
  (yX9_sets, cX9_sets, 5, none),
  (yX9_sit, cX9_sit, 4, some .int),
  (yX9_undo, cX9_undo, 1, some .int),
  (yX9_keep, cX9_keep, 2, some .int),
  (yX9_back, cX9_back, 2, some .int),
  (yX9_saidAt, cX9_saidAt, 3, some .int),
  (yX9_said, cX9_said, 3, some .int),
  (yX9_when, cX9_when, 5, some .int),
  (yX9_keptBy, cX9_keptBy, 4, some .int),
  (yX9_keeps, cX9_keeps, 4, some .int),
  (yX9_keptByLine, cX9_keptByLine, 6, some .int),
  (yX9_nextLine, cX9_nextLine, 2, some .boolean),
  (yX9_match, cX9_match, 7, some .int),
  (yX9_clean, cX9_clean, 7, some .int),
  (yX9_of, cX9_of, 5, some .int),
  (yX9_left, cX9_left, 9, some .int),
  (yX9_seen, cX9_seen, 4, some .int),
  (yX9_forget, cX9_forget, 2, some .int),
  (yX9_kinds, cX9_kinds, 6, some .int),
  (yX9_isReel, cX9_isReel, 1, some .boolean),
  (yX9_reel, cX9_reel, 5, some .int),
  (yX9_noPlace, cX9_noPlace, 4, some .int),
  (yX9_record, cX9_record, 7, some .int),
  (yX9_play, cX9_play, 6, some .int),
  (yX9_isSpan, cX9_isSpan, 4, some .boolean),
  (yX9_splice, cX9_splice, 7, some .int),
  (yX9_drop, cX9_drop, 3, some .int),
  (yX9_menWords, cX9_menWords, 3, some .int),
  (yX9_allWellKnown, cX9_allWellKnown, 3, some .int),
  (yX9_reelsThere, cX9_reelsThere, 3, some .int),
  (yX9_count, cX9_count, 2, some .int),
  (yJ6_numberOfTrailingZeros_0f7a4, cJ6_numberOfTrailingZeros_0f7a4, 2, some .int),
  (yJ6_bitCount_0f7a4, cJ6_bitCount_0f7a4, 1, some .int),
  (yJ9_max_7cf53, cJ9_max_7cf53, 2, some .int),
  (yJ9_min_7cf53, cJ9_min_7cf53, 2, some .int),
  (yJ0_length_8abf5, cJ0_length_8abf5, 1, some .int),
  (yJ0_charAt_5068e, cJ0_charAt_5068e, 2, some .char),
  (yJ0_coder_7d493, cJ0_coder_7d493, 1, some .byte),
  (yJ0_isLatin1_aae02, cJ0_isLatin1_aae02, 1, some .boolean),
  (yJ0_checkIndex_df160, cJ0_checkIndex_df160, 2, none),
  (yJ1_charAt_3b067, cJ1_charAt_3b067, 2, some .char),
  (yJ2_getChar_3b067, cJ2_getChar_3b067, 2, some .char),
  (yJ2_length_9d52b, cJ2_length_9d52b, 1, some .int),
  (yJ2_charAt_3b067, cJ2_charAt_3b067, 2, some .char),
  (yJ2_checkIndex_2214a, cJ2_checkIndex_2214a, 2, none),
  (yJ3_checkIndex_8e157, cJ3_checkIndex_8e157, 3, some .int)]
abbrev iX0_init : Nat := 0
abbrev iX0_readOver : Nat := 1
abbrev iX0_readClause : Nat := 2
abbrev iX0_kindNamed : Nat := 3
abbrev iX0_readBird : Nat := 4
abbrev iX0_readMan : Nat := 5
abbrev iX0_readKnows : Nat := 6
abbrev iX0_readSits : Nat := 7
abbrev iX0_readCover : Nat := 8
abbrev iX0_readNumber : Nat := 9
abbrev iX1_init : Nat := 10
abbrev iX1_clear : Nat := 11
abbrev iX1_remember : Nat := 12
abbrev iX1_takeBack : Nat := 13
abbrev iX1_store : Nat := 14
abbrev iX1_isStored : Nat := 15
abbrev iX1_restore : Nat := 16
abbrev iX2_init : Nat := 17
abbrev iX2_wind : Nat := 18
abbrev iX2_find : Nat := 19
abbrev iX2_holds : Nat := 20
abbrev iX2_put : Nat := 21
abbrev iX2_sound : Nat := 22
abbrev iX3_init : Nat := 23
abbrev iX3_clear : Nat := 24
abbrev iX3_add : Nat := 25
abbrev iX3_agreeWith : Nat := 26
abbrev iX4_init : Nat := 27
abbrev iX4_clear : Nat := 28
abbrev iX4_add : Nat := 29
abbrev iX4_wordAt : Nat := 30
abbrev iX5_init : Nat := 31
abbrev iX5_add : Nat := 32
abbrev iX5_clear : Nat := 33
abbrev iX5_begin : Nat := 34
abbrev iX5_readToken : Nat := 35
abbrev iX5_readLetter : Nat := 36
abbrev iX5_isOver : Nat := 37
abbrev iX5_isSign : Nat := 38
abbrev iX5_isRow : Nat := 39
abbrev iX5_numberBelow : Nat := 40
abbrev iX5_oneWord : Nat := 41
abbrev iX5_risingWords : Nat := 42
abbrev iX5_wordOf : Nat := 43
abbrev iX5_sortOf : Nat := 44
abbrev iX6_init : Nat := 45
abbrev iX6_faultIn : Nat := 46
abbrev iX6_take : Nat := 47
abbrev iX6_endsIn : Nat := 48
abbrev iX6_sumEnds : Nat := 49
abbrev iX6_behindPart : Nat := 50
abbrev iX6_repeatedEnds : Nat := 51
abbrev iX6_partEnds : Nat := 52
abbrev iX6_wordEnds : Nat := 53
abbrev iX7_init : Nat := 54
abbrev iX7_become : Nat := 55
abbrev iX7_clear : Nat := 56
abbrev iX7_addBird : Nat := 57
abbrev iX7_addMan : Nat := 58
abbrev iX7_isCovered : Nat := 59
abbrev iX7_knowledge : Nat := 60
abbrev iX7_allKnowledge : Nat := 61
abbrev iX7_wellKnown : Nat := 62
abbrev iX7_wellKnownBySome : Nat := 63
abbrev iX7_allWordsOfMen : Nat := 64
abbrev iX7_manBeside : Nat := 65
abbrev iX7_seat : Nat := 66
abbrev iX7_learn : Nat := 67
abbrev iX7_halve : Nat := 68
abbrev iX7_hearable : Nat := 69
abbrev iX7_passEvening : Nat := 70
abbrev iX7_handOver : Nat := 71
abbrev iX7_awakeOn : Nat := 72
abbrev iX7_isSilenced : Nat := 73
abbrev iX7_speakOn : Nat := 74
abbrev iX7_speak : Nat := 75
abbrev iX7_bestKnown : Nat := 76
abbrev iX7_spread : Nat := 77
abbrev iX7_lose : Nat := 78
abbrev iX8_init : Nat := 79
abbrev iX8_write : Nat := 80
abbrev iX8_erase : Nat := 81
abbrev iX8_fault : Nat := 82
abbrev iX8_harbour : Nat := 83
abbrev iX8_tongue : Nat := 84
abbrev iX8_bird : Nat := 85
abbrev iX8_man : Nat := 86
abbrev iX8_known : Nat := 87
abbrev iX8_as : Nat := 88
abbrev iX8_evening : Nat := 89
abbrev iX8_teach : Nat := 90
abbrev iX8_moult : Nat := 91
abbrev iX8_perch : Nat := 92
abbrev iX8_cover : Nat := 93
abbrev iX8_sit : Nat := 94
abbrev iX8_undo : Nat := 95
abbrev iX8_keep : Nat := 96
abbrev iX8_back : Nat := 97
abbrev iX8_said : Nat := 98
abbrev iX8_when : Nat := 99
abbrev iX8_keeps : Nat := 100
abbrev iX8_match : Nat := 101
abbrev iX8_clean : Nat := 102
abbrev iX8_of : Nat := 103
abbrev iX8_left : Nat := 104
abbrev iX8_seen : Nat := 105
abbrev iX8_forget : Nat := 106
abbrev iX8_kinds : Nat := 107
abbrev iX8_reel : Nat := 108
abbrev iX8_record : Nat := 109
abbrev iX8_play : Nat := 110
abbrev iX8_splice : Nat := 111
abbrev iX8_drop : Nat := 112
abbrev iX8_count : Nat := 113
abbrev iX8_isNot : Nat := 114
abbrev iX8_noBird : Nat := 115
abbrev iX8_noMan : Nat := 116
abbrev iX8_noWord : Nat := 117
abbrev iX8_noPerch : Nat := 118
abbrev iX8_noReel : Nat := 119
abbrev iX8_noSort : Nat := 120
abbrev iX8_foretellSpeech : Nat := 121
abbrev iX8_keptWords : Nat := 122
abbrev iX8_mostKept : Nat := 123
abbrev iX8_matchOf : Nat := 124
abbrev iX8_leastChoice : Nat := 125
abbrev iX8_staysClean : Nat := 126
abbrev iX8_commonDivisor : Nat := 127
abbrev iX8_reelsThere : Nat := 128
abbrev iX9_init : Nat := 129
abbrev iX9_in : Nat := 130
abbrev iX9_has : Nat := 131
abbrev iX9_bits : Nat := 132
abbrev iX9_write : Nat := 133
abbrev iX9_erase : Nat := 134
abbrev iX9_isLetter : Nat := 135
abbrev iX9_isDigit : Nat := 136
abbrev iX9_nextToken : Nat := 137
abbrev iX9_isWord : Nat := 138
abbrev iX9_numberHere : Nat := 139
abbrev iX9_number : Nat := 140
abbrev iX9_words : Nat := 141
abbrev iX9_kindHere : Nat := 142
abbrev iX9_readsBird : Nat := 143
abbrev iX9_readsMan : Nat := 144
abbrev iX9_readsKnows : Nat := 145
abbrev iX9_readsSits : Nat := 146
abbrev iX9_readsCover : Nat := 147
abbrev iX9_readsHarbour : Nat := 148
abbrev iX9_readsClause : Nat := 149
abbrev iX9_reads : Nat := 150
abbrev iX9_copyHarbour : Nat := 151
abbrev iX9_harbour : Nat := 152
abbrev iX9_tongueFault : Nat := 153
abbrev iX9_fault : Nat := 154
abbrev iX9_layTongue : Nat := 155
abbrev iX9_tongue : Nat := 156
abbrev iX9_mark : Nat := 157
abbrev iX9_goesOn : Nat := 158
abbrev iX9_goOnAll : Nat := 159
abbrev iX9_hearWord : Nat := 160
abbrev iX9_hears : Nat := 161
abbrev iX9_gets : Nat := 162
abbrev iX9_says : Nat := 163
abbrev iX9_loses : Nat := 164
abbrev iX9_isBird : Nat := 165
abbrev iX9_isMan : Nat := 166
abbrev iX9_isWordNumber : Nat := 167
abbrev iX9_isOpen : Nat := 168
abbrev iX9_learns : Nat := 169
abbrev iX9_manOf : Nat := 170
abbrev iX9_wellKnown : Nat := 171
abbrev iX9_bird : Nat := 172
abbrev iX9_man : Nat := 173
abbrev iX9_as : Nat := 174
abbrev iX9_handOver : Nat := 175
abbrev iX9_isSilent : Nat := 176
abbrev iX9_bestWord : Nat := 177
abbrev iX9_say : Nat := 178
abbrev iX9_speak : Nat := 179
abbrev iX9_lose : Nat := 180
abbrev iX9_passes : Nat := 181
abbrev iX9_layTried : Nat := 182
abbrev iX9_passTried : Nat := 183
abbrev iX9_known : Nat := 184
abbrev iX9_keepPast : Nat := 185
abbrev iX9_evening : Nat := 186
abbrev iX9_teach : Nat := 187
abbrev iX9_moult : Nat := 188
abbrev iX9_perch : Nat := 189
abbrev iX9_cover : Nat := 190
abbrev iX9_sets : Nat := 191
abbrev iX9_sit : Nat := 192
abbrev iX9_undo : Nat := 193
abbrev iX9_keep : Nat := 194
abbrev iX9_back : Nat := 195
abbrev iX9_saidAt : Nat := 196
abbrev iX9_said : Nat := 197
abbrev iX9_when : Nat := 198
abbrev iX9_keptBy : Nat := 199
abbrev iX9_keeps : Nat := 200
abbrev iX9_keptByLine : Nat := 201
abbrev iX9_nextLine : Nat := 202
abbrev iX9_match : Nat := 203
abbrev iX9_clean : Nat := 204
abbrev iX9_of : Nat := 205
abbrev iX9_left : Nat := 206
abbrev iX9_seen : Nat := 207
abbrev iX9_forget : Nat := 208
abbrev iX9_kinds : Nat := 209
abbrev iX9_isReel : Nat := 210
abbrev iX9_reel : Nat := 211
abbrev iX9_noPlace : Nat := 212
abbrev iX9_record : Nat := 213
abbrev iX9_play : Nat := 214
abbrev iX9_isSpan : Nat := 215
abbrev iX9_splice : Nat := 216
abbrev iX9_drop : Nat := 217
abbrev iX9_menWords : Nat := 218
abbrev iX9_allWellKnown : Nat := 219
abbrev iX9_reelsThere : Nat := 220
abbrev iX9_count : Nat := 221
abbrev iJ6_numberOfTrailingZeros_0f7a4 : Nat := 222
abbrev iJ6_bitCount_0f7a4 : Nat := 223
abbrev iJ9_max_7cf53 : Nat := 224
abbrev iJ9_min_7cf53 : Nat := 225
abbrev iJ0_length_8abf5 : Nat := 226
abbrev iJ0_charAt_5068e : Nat := 227
abbrev iJ0_coder_7d493 : Nat := 228
abbrev iJ0_isLatin1_aae02 : Nat := 229
abbrev iJ0_checkIndex_df160 : Nat := 230
abbrev iJ1_charAt_3b067 : Nat := 231
abbrev iJ2_getChar_3b067 : Nat := 232
abbrev iJ2_length_9d52b : Nat := 233
abbrev iJ2_charAt_3b067 : Nat := 234
abbrev iJ2_checkIndex_2214a : Nat := 235
abbrev iJ3_checkIndex_8e157 : Nat := 236
def xsn (k : Nat) : String := ["", "HEARS", "GETS", "SAYS", "LOSES", "IS"].getD k ""
def xtab : List (List Int32) := [[], [1, 1, 1, 0, 2], [3, 5, 3, 0, 0], [1, 1, 2, 0, 0], [1, 0, 1, 0, 0], [3, 7, 11, 17, 49]]
def xtv (k j : Nat) : Int32 := (xtab.getD k []).getD j 0
def xsp (k : Nat) : Nat := [89, 91, 93, 95, 97, 60, 69, 74, 79, 84].getD k 0
def xsx (k : Nat) : String := ["parrot", "grey", "cockatoo", "hawk", "green", "harbour", "man", "knows", "sits", "cover"].getD k ""
def xsl : List Nat := [6, 4, 8, 4, 5, 7, 3, 5, 4, 5]
def xsb : List (List Int32) := [[112, 97, 114, 114, 111, 116], [103, 114, 101, 121], [99, 111, 99, 107, 97, 116, 111, 111], [104, 97, 119, 107], [103, 114, 101, 101, 110], [104, 97, 114, 98, 111, 117, 114], [109, 97, 110], [107, 110, 111, 119, 115], [115, 105, 116, 115], [99, 111, 118, 101, 114]]
def xnst : List (Nat × String) := [(88, "GETS"), (102, "SAYS"), (115, "HEARS"), (118, "LOSES")]
