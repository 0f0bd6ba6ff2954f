/-! ===== the layout: cells by number, in the order in which the two constructors make them; method heads ===== -/
abbrev xV : Type := Int32 ⊕ (Int64 ⊕ (Nat × Nat × Nat))
abbrev xI (x : Int32) : xV := .inl x
abbrev xL (x : Int64) : xV := .inr (.inl x)
abbrev xR (s k i : Nat) : xV := .inr (.inr (s, k, i))
abbrev xM : Type := Nat → Nat → Int32
abbrev xRow : Type := Nat × Instr × Nat × Nat × Nat
abbrev xHd : Type := MethodName × ByteArray × Nat × Option FieldType
def xkd : List (Nat × Nat) := [(0, 8), (0, 5), (1, 200), (0, 0), (0, 7), (1, 8), (1, 8), (1, 80), (1, 4), (1, 4), (0, 6), (1, 200), (1, 200), (1, 6), (1, 16), (0, 7), (1, 8), (1, 8), (1, 80), (1, 4), (1, 4), (0, 7), (1, 8), (1, 8), (1, 80), (1, 4), (1, 4), (0, 7), (1, 8), (1, 8), (1, 80), (1, 4), (1, 4), (0, 4), (1, 64), (1, 4), (0, 1), (3, 8), (3, 2), (0, 7), (1, 8), (1, 8), (1, 80), (1, 4), (1, 4), (0, 7), (1, 8), (1, 8), (1, 80), (1, 4), (1, 4), (0, 7), (1, 8), (1, 8), (1, 80), (1, 4), (1, 4), (0, 7), (1, 8), (1, 8), (1, 80), (1, 4), (1, 4), (0, 7), (1, 8), (1, 8), (1, 80), (1, 4), (1, 4), (0, 7), (1, 8), (1, 8), (1, 80), (1, 4), (1, 4), (0, 7), (1, 8), (1, 8), (1, 80), (1, 4), (1, 4), (0, 7), (1, 8), (1, 8), (1, 80), (1, 4), (1, 4), (0, 7), (1, 8), (1, 8), (1, 80), (1, 4), (1, 4), (0, 7), (1, 8), (1, 8), (1, 80), (1, 4), (1, 4), (0, 3), (1, 6), (1, 6), (1, 6), (6, 3), (0, 2), (1, 12), (0, 2), (1, 12), (0, 2), (1, 12), (1, 32), (0, 9), (1, 1404), (2, 2), (1, 200), (1, 6), (1, 6), (1, 6), (1, 202), (1, 202), (1, 202), (1, 3), (1, 3), (1, 36), (1, 4), (1, 7), (1, 6), (1, 4), (1, 8), (1, 4), (1, 5), (1, 3), (1, 5), (1, 4), (1, 5), (1, 8), (2, 203), (2, 203), (1, 64), (1, 4), (1, 32), (1, 4), (1, 4), (1, 12)]
def xfr : List (List (Option (Nat × Nat × Nat × Bool))) := [[some (0, 5, 1, false), some (0, 7, 4, false), none],
  [some (3, 8, 37, false), some (3, 2, 38, false), none, none, none],
  [some (1, 12, 1, true), none, none, none],
  [some (1, 6, 100, false), some (1, 6, 101, false), some (1, 6, 102, false), none],
  [some (1, 64, 34, false), some (1, 4, 35, false)],
  [some (1, 200, 2, false), none, none, none],
  [some (1, 200, 11, false), some (1, 200, 12, false), some (1, 6, 13, false), some (1, 16, 14, false), none, none, none],
  [none, none, none, none, some (1, 8, 1, true), some (1, 8, 2, true), some (1, 80, 3, true), some (1, 4, 4, true), some (1, 4, 5, true)],
  [some (0, 5, 1, false), some (0, 0, 3, false), some (0, 6, 10, false), some (0, 7, 15, false), some (0, 7, 21, false), some (0, 7, 27, false), some (0, 4, 33, false), some (0, 1, 36, false), some (0, 3, 99, false), some (6, 3, 103, false), some (1, 32, 110, false)],
  [some (1, 1404, 112, false), none, some (2, 2, 113, false), some (1, 200, 114, false), none, none, some (1, 6, 115, false), some (1, 6, 116, false), some (1, 6, 117, false), none, some (1, 202, 118, false), some (1, 202, 119, false), some (1, 202, 120, false), some (1, 3, 121, false), some (1, 3, 122, false), some (1, 36, 123, false), none, none, none, none, some (1, 4, 124, false), none, none, some (1, 7, 125, false), some (1, 6, 126, false), some (1, 4, 127, false), some (1, 8, 128, false), some (1, 4, 129, false), some (1, 5, 130, false), some (1, 3, 131, false), some (1, 5, 132, false), some (1, 4, 133, false), some (1, 5, 134, false), some (1, 8, 135, false), some (2, 203, 136, false), some (2, 203, 137, false), some (1, 64, 138, false), some (1, 4, 139, false), some (1, 32, 140, false), some (1, 4, 141, false), some (1, 4, 142, false), some (1, 12, 143, false)]]
abbrev q_x : Nat := 0
abbrev q_text : Nat := 1
abbrev q_reader : Nat := 3
abbrev q_rworld : Nat := 4
abbrev q_grammar : Nat := 10
abbrev q_told : Nat := 15
abbrev q_now : Nat := 21
abbrev q_trial : Nat := 27
abbrev q_speech : Nat := 33
abbrev q_history : Nat := 36
abbrev q_sightings : Nat := 99
abbrev q_keptBy : Nat := 110
abbrev q_m : Nat := 111
abbrev q_m_row : Nat := 112
abbrev q_m_isKept : Nat := 113
abbrev q_m_text : Nat := 114
abbrev q_m_seenPerch : Nat := 115
abbrev q_m_seenPlace : Nat := 116
abbrev q_m_seenWord : Nat := 117
abbrev q_m_letters : Nat := 118
abbrev q_m_ends : Nat := 119
abbrev q_m_begins : Nat := 120
abbrev q_m_sizes : Nat := 121
abbrev q_m_sorts : Nat := 122
abbrev q_m_places : Nat := 123
abbrev q_m_readBy : Nat := 124
abbrev q_m_harbourWord : Nat := 125
abbrev q_m_parrotWord : Nat := 126
abbrev q_m_greyWord : Nat := 127
abbrev q_m_cockatooWord : Nat := 128
abbrev q_m_hawkWord : Nat := 129
abbrev q_m_greenWord : Nat := 130
abbrev q_m_manWord : Nat := 131
abbrev q_m_knowsWord : Nat := 132
abbrev q_m_sitsWord : Nat := 133
abbrev q_m_coverWord : Nat := 134
abbrev q_m_open : Nat := 135
abbrev q_m_isNow : Nat := 136
abbrev q_m_isThen : Nat := 137
abbrev q_m_saidWords : Nat := 138
abbrev q_m_saidMany : Nat := 139
abbrev q_m_keepsBy : Nat := 140
abbrev q_m_line : Nat := 141
abbrev q_m_bestLine : Nat := 142
abbrev q_m_moved : Nat := 143
abbrev xB0 : Nat := 39
abbrev xK0 : Nat := 87
abbrev xR0 : Nat := 104
abbrev xNC : Nat := 144
def xsg : List (MethodName × ByteArray × Nat × Option FieldType) := [
  (yX0_init, cX0_init, 2, none),
  (yX0_readOver, cX0_readOver, 2, some .int),
  (yX0_readClause, cX0_readClause, 2, some .boolean),
  (yX0_kindNamed, cX0_kindNamed, 1, some .int),
  (yX0_readBird, cX0_readBird, 3, some .boolean),
  (yX0_readMan, cX0_readMan, 2, some .boolean),
  (yX0_readKnows, cX0_readKnows, 4, some .boolean),
  (yX0_readSits, cX0_readSits, 4, some .boolean),
  (yX0_readCover, cX0_readCover, 2, some .boolean),
  (yX0_readNumber, cX0_readNumber, 2, some .int),
  (yX1_init, cX1_init, 2, none),
  (yX1_clear, cX1_clear, 1, none),
  (yX1_remember, cX1_remember, 2, none),
  (yX1_takeBack, cX1_takeBack, 2, none),
  (yX1_store, cX1_store, 3, none),
  (yX1_isStored, cX1_isStored, 2, some .boolean),
  (yX1_restore, cX1_restore, 3, none),
  (yX2_init, cX2_init, 1, none),
  (yX2_wind, cX2_wind, 4, none),
  (yX2_find, cX2_find, 3, some .int),
  (yX2_holds, cX2_holds, 3, some .boolean),
  (yX2_put, cX2_put, 3, some .int),
  (yX2_sound, cX2_sound, 3, some .int),
  (yX3_init, cX3_init, 1, none),
  (yX3_clear, cX3_clear, 1, none),
  (yX3_add, cX3_add, 4, none),
  (yX3_agreeWith, cX3_agreeWith, 3, some .boolean),
  (yX4_init, cX4_init, 1, none),
  (yX4_clear, cX4_clear, 2, none),
  (yX4_add, cX4_add, 3, none),
  (yX4_wordAt, cX4_wordAt, 3, some .int),
  (yX5_init, cX5_init, 1, none),
  (yX5_add, cX5_add, 2, none),
  (yX5_clear, cX5_clear, 1, none),
  (yX5_begin, cX5_begin, 1, none),
  (yX5_readToken, cX5_readToken, 1, none),
  (yX5_readLetter, cX5_readLetter, 1, none),
  (yX5_isOver, cX5_isOver, 1, some .boolean),
  (yX5_isSign, cX5_isSign, 2, some .boolean),
  (yX5_isRow, cX5_isRow, 3, some .boolean),
  (yX5_numberBelow, cX5_numberBelow, 3, some .int),
  (yX5_oneWord, cX5_oneWord, 1, some .int),
  (yX5_risingWords, cX5_risingWords, 5, some .int),
  (yX5_wordOf, cX5_wordOf, 1, some .int),
  (yX5_sortOf, cX5_sortOf, 1, some .int),
  (yX6_init, cX6_init, 1, none),
  (yX6_faultIn, cX6_faultIn, 5, some .int),
  (yX6_take, cX6_take, 5, none),
  (yX6_endsIn, cX6_endsIn, 4, some .int),
  (yX6_sumEnds, cX6_sumEnds, 10, some .int),
  (yX6_behindPart, cX6_behindPart, 2, some .int),
  (yX6_repeatedEnds, cX6_repeatedEnds, 8, some .int),
  (yX6_partEnds, cX6_partEnds, 5, some .int),
  (yX6_wordEnds, cX6_wordEnds, 5, some .int),
  (yX7_init, cX7_init, 1, none),
  (yX7_become, cX7_become, 2, none),
  (yX7_clear, cX7_clear, 1, none),
  (yX7_addBird, cX7_addBird, 4, none),
  (yX7_addMan, cX7_addMan, 2, none),
  (yX7_isCovered, cX7_isCovered, 2, some .boolean),
  (yX7_knowledge, cX7_knowledge, 3, some .int),
  (yX7_allKnowledge, cX7_allKnowledge, 4, some .int),
  (yX7_wellKnown, cX7_wellKnown, 4, some .int),
  (yX7_wellKnownBySome, cX7_wellKnownBySome, 3, some .int),
  (yX7_allWordsOfMen, cX7_allWordsOfMen, 3, some .int),
  (yX7_manBeside, cX7_manBeside, 3, some .int),
  (yX7_seat, cX7_seat, 4, none),
  (yX7_learn, cX7_learn, 5, none),
  (yX7_halve, cX7_halve, 3, none),
  (yX7_hearable, cX7_hearable, 2, some .int),
  (yX7_passEvening, cX7_passEvening, 4, none),
  (yX7_handOver, cX7_handOver, 4, none),
  (yX7_awakeOn, cX7_awakeOn, 4, some .int),
  (yX7_isSilenced, cX7_isSilenced, 3, some .boolean),
  (yX7_speakOn, cX7_speakOn, 5, none),
  (yX7_speak, cX7_speak, 8, none),
  (yX7_bestKnown, cX7_bestKnown, 7, some .int),
  (yX7_spread, cX7_spread, 4, none),
  (yX7_lose, cX7_lose, 4, none),
  (yX8_init, cX8_init, 2, none),
  (yX8_write, cX8_write, 2, some .int),
  (yX8_erase, cX8_erase, 2, some .int),
  (yX8_fault, cX8_fault, 2, some .int),
  (yX8_harbour, cX8_harbour, 1, some .int),
  (yX8_tongue, cX8_tongue, 1, some .int),
  (yX8_bird, cX8_bird, 3, some .int),
  (yX8_man, cX8_man, 3, some .int),
  (yX8_known, cX8_known, 5, some .int),
  (yX8_as, cX8_as, 4, some .int),
  (yX8_evening, cX8_evening, 3, some .int),
  (yX8_teach, cX8_teach, 3, some .int),
  (yX8_moult, cX8_moult, 2, some .int),
  (yX8_perch, cX8_perch, 4, some .int),
  (yX8_cover, cX8_cover, 2, some .int),
  (yX8_sit, cX8_sit, 4, some .int),
  (yX8_undo, cX8_undo, 1, some .int),
  (yX8_keep, cX8_keep, 2, some .int),
  (yX8_back, cX8_back, 2, some .int),
  (yX8_said, cX8_said, 3, some .int),
  (yX8_when, cX8_when, 5, some .int),
  (yX8_keeps, cX8_keeps, 4, some .int),
  (yX8_match, cX8_match, 5, some .int),
  (yX8_clean, cX8_clean, 7, some .int),
  (yX8_of, cX8_of, 5, some .int),
  (yX8_left, cX8_left, 8, some .int),
  (yX8_seen, cX8_seen, 4, some .int),
  (yX8_forget, cX8_forget, 2, some .int),
  (yX8_kinds, cX8_kinds, 4, some .int),
  (yX8_reel, cX8_reel, 4, some .int),
  (yX8_record, cX8_record, 6, some .int),
  (yX8_play, cX8_play, 5, some .int),
  (yX8_splice, cX8_splice, 8, some .int),
  (yX8_drop, cX8_drop, 2, some .int),
  (yX8_count, cX8_count, 2, some .int),
  (yX8_isNot, cX8_isNot, 3, some .boolean),
  (yX8_noBird, cX8_noBird, 2, some .boolean),
  (yX8_noMan, cX8_noMan, 2, some .boolean),
  (yX8_noWord, cX8_noWord, 1, some .boolean),
  (yX8_noPerch, cX8_noPerch, 1, some .boolean),
  (yX8_noReel, cX8_noReel, 1, some .boolean),
  (yX8_noSort, cX8_noSort, 1, some .boolean),
  (yX8_foretellSpeech, cX8_foretellSpeech, 1, none),
  (yX8_keptWords, cX8_keptWords, 5, some .int),
  (yX8_mostKept, cX8_mostKept, 5, some .int),
  (yX8_matchOf, cX8_matchOf, 5, some .int),
  (yX8_leastChoice, cX8_leastChoice, 5, some .int),
  (yX8_staysClean, cX8_staysClean, 6, some .boolean),
  (yX8_commonDivisor, cX8_commonDivisor, 6, some .int),
  (yX8_reelsThere, cX8_reelsThere, 3, some .int),
  (yX9_init, cX9_init, 1, none),
  (yX9_in, cX9_in, 6, some .boolean),
  (yX9_has, cX9_has, 2, some .boolean),
  (yX9_bits, cX9_bits, 3, some .int),
  (yX9_write, cX9_write, 2, some .int),
  (yX9_erase, cX9_erase, 2, some .int),
  (yX9_isLetter, cX9_isLetter, 1, some .boolean),
  (yX9_isDigit, cX9_isDigit, 1, some .boolean),
  (yX9_nextToken, cX9_nextToken, 1, none),
  (yX9_isWord, cX9_isWord, 4, some .boolean),
  (yX9_numberHere, cX9_numberHere, 3, some .int),
  (yX9_number, cX9_number, 3, some .int),
  (yX9_words, cX9_words, 6, some .int),
  (yX9_kindHere, cX9_kindHere, 1, some .int),
  (yX9_readsBird, cX9_readsBird, 3, some .boolean),
  (yX9_readsMan, cX9_readsMan, 2, some .boolean),
  (yX9_readsKnows, cX9_readsKnows, 5, some .boolean),
  (yX9_readsSits, cX9_readsSits, 5, some .boolean),
  (yX9_readsCover, cX9_readsCover, 2, some .boolean),
  (yX9_readsHarbour, cX9_readsHarbour, 2, some .boolean),
  (yX9_readsClause, cX9_readsClause, 1, some .boolean),
  (yX9_reads, cX9_reads, 3, some .boolean),
  (yX9_copyHarbour, cX9_copyHarbour, 4, none),
  (yX9_harbour, cX9_harbour, 1, some .int),
  (yX9_tongueFault, cX9_tongueFault, 8, some .int),
  (yX9_fault, cX9_fault, 2, some .int),
  (yX9_layTongue, cX9_layTongue, 4, none),
  (yX9_tongue, cX9_tongue, 3, some .int),
  (yX9_mark, cX9_mark, 3, some .boolean),
  (yX9_goesOn, cX9_goesOn, 5, some .boolean),
  (yX9_goOnAll, cX9_goOnAll, 3, none),
  (yX9_hearWord, cX9_hearWord, 3, none),
  (yX9_hears, cX9_hears, 1, some .int),
  (yX9_gets, cX9_gets, 1, some .int),
  (yX9_says, cX9_says, 1, some .int),
  (yX9_loses, cX9_loses, 1, some .int),
  (yX9_isBird, cX9_isBird, 2, some .boolean),
  (yX9_isMan, cX9_isMan, 2, some .boolean),
  (yX9_isWordNumber, cX9_isWordNumber, 1, some .boolean),
  (yX9_isOpen, cX9_isOpen, 3, some .boolean),
  (yX9_learns, cX9_learns, 6, none),
  (yX9_manOf, cX9_manOf, 5, some .int),
  (yX9_wellKnown, cX9_wellKnown, 5, some .int),
  (yX9_bird, cX9_bird, 3, some .int),
  (yX9_man, cX9_man, 3, some .int),
  (yX9_as, cX9_as, 5, some .int),
  (yX9_handOver, cX9_handOver, 6, none),
  (yX9_isSilent, cX9_isSilent, 5, some .boolean),
  (yX9_bestWord, cX9_bestWord, 8, some .int),
  (yX9_say, cX9_say, 6, none),
  (yX9_speak, cX9_speak, 7, none),
  (yX9_lose, cX9_lose, 5, none),
  (yX9_passes, cX9_passes, 3, none),
  (yX9_layTried, cX9_layTried, 1, none),
  (yX9_passTried, cX9_passTried, 3, none),
  (yX9_known, cX9_known, 4, some .int),
  (yX9_keepPast, cX9_keepPast, 2, none),
  (yX9_evening, cX9_evening, 3, some .int),
  (yX9_teach, cX9_teach, 3, some .int),
  (yX9_moult, cX9_moult, 4, some .int),
  (yX9_perch, cX9_perch, 4, some .int),
  (yX9_cover, cX9_cover, 2, some .int),
  (yX9_sets, cX9_sets, 5, none),
  (yX9_sit, cX9_sit, 4, some .int),
  (yX9_undo, cX9_undo, 1, some .int),
  (yX9_keep, cX9_keep, 2, some .int),
  (yX9_back, cX9_back, 2, some .int),
  (yX9_saidAt, cX9_saidAt, 3, some .int),
  (yX9_said, cX9_said, 3, some .int),
  (yX9_when, cX9_when, 5, some .int),
  (yX9_keptBy, cX9_keptBy, 4, some .int),
  (yX9_keeps, cX9_keeps, 4, some .int),
  (yX9_keptByLine, cX9_keptByLine, 6, some .int),
  (yX9_nextLine, cX9_nextLine, 2, some .boolean),
  (yX9_match, cX9_match, 7, some .int),
  (yX9_clean, cX9_clean, 7, some .int),
  (yX9_of, cX9_of, 5, some .int),
  (yX9_left, cX9_left, 9, some .int),
  (yX9_seen, cX9_seen, 4, some .int),
  (yX9_forget, cX9_forget, 2, some .int),
  (yX9_kinds, cX9_kinds, 6, some .int),
  (yX9_isReel, cX9_isReel, 1, some .boolean),
  (yX9_reel, cX9_reel, 5, some .int),
  (yX9_noPlace, cX9_noPlace, 4, some .int),
  (yX9_record, cX9_record, 7, some .int),
  (yX9_play, cX9_play, 6, some .int),
  (yX9_isSpan, cX9_isSpan, 4, some .boolean),
  (yX9_splice, cX9_splice, 7, some .int),
  (yX9_drop, cX9_drop, 3, some .int),
  (yX9_menWords, cX9_menWords, 3, some .int),
  (yX9_allWellKnown, cX9_allWellKnown, 3, some .int),
  (yX9_reelsThere, cX9_reelsThere, 3, some .int),
  (yX9_count, cX9_count, 2, some .int),
  (yJ6_numberOfTrailingZeros_0f7a4, cJ6_numberOfTrailingZeros_0f7a4, 2, some .int),
  (yJ6_bitCount_0f7a4, cJ6_bitCount_0f7a4, 1, some .int),
  (yJ9_max_7cf53, cJ9_max_7cf53, 2, some .int),
  (yJ9_min_7cf53, cJ9_min_7cf53, 2, some .int),
  (yJ0_length_8abf5, cJ0_length_8abf5, 1, some .int),
  (yJ0_charAt_5068e, cJ0_charAt_5068e, 2, some .char),
  (yJ0_coder_7d493, cJ0_coder_7d493, 1, some .byte),
  (yJ0_isLatin1_aae02, cJ0_isLatin1_aae02, 1, some .boolean),
  (yJ0_checkIndex_df160, cJ0_checkIndex_df160, 2, none),
  (yJ1_charAt_3b067, cJ1_charAt_3b067, 2, some .char),
  (yJ2_getChar_3b067, cJ2_getChar_3b067, 2, some .char),
  (yJ2_length_9d52b, cJ2_length_9d52b, 1, some .int),
  (yJ2_charAt_3b067, cJ2_charAt_3b067, 2, some .char),
  (yJ2_checkIndex_2214a, cJ2_checkIndex_2214a, 2, none),
  (yJ3_checkIndex_8e157, cJ3_checkIndex_8e157, 3, some .int)]
abbrev iX0_init : Nat := 0
abbrev iX0_readOver : Nat := 1
abbrev iX0_readClause : Nat := 2
abbrev iX0_kindNamed : Nat := 3
abbrev iX0_readBird : Nat := 4
abbrev iX0_readMan : Nat := 5
abbrev iX0_readKnows : Nat := 6
abbrev iX0_readSits : Nat := 7
abbrev iX0_readCover : Nat := 8
abbrev iX0_readNumber : Nat := 9
abbrev iX1_init : Nat := 10
abbrev iX1_clear : Nat := 11
abbrev iX1_remember : Nat := 12
abbrev iX1_takeBack : Nat := 13
abbrev iX1_store : Nat := 14
abbrev iX1_isStored : Nat := 15
abbrev iX1_restore : Nat := 16
abbrev iX2_init : Nat := 17
abbrev iX2_wind : Nat := 18
abbrev iX2_find : Nat := 19
abbrev iX2_holds : Nat := 20
abbrev iX2_put : Nat := 21
abbrev iX2_sound : Nat := 22
abbrev iX3_init : Nat := 23
abbrev iX3_clear : Nat := 24
abbrev iX3_add : Nat := 25
abbrev iX3_agreeWith : Nat := 26
abbrev iX4_init : Nat := 27
abbrev iX4_clear : Nat := 28
abbrev iX4_add : Nat := 29
abbrev iX4_wordAt : Nat := 30
abbrev iX5_init : Nat := 31
abbrev iX5_add : Nat := 32
abbrev iX5_clear : Nat := 33
abbrev iX5_begin : Nat := 34
abbrev iX5_readToken : Nat := 35
abbrev iX5_readLetter : Nat := 36
abbrev iX5_isOver : Nat := 37
abbrev iX5_isSign : Nat := 38
abbrev iX5_isRow : Nat := 39
abbrev iX5_numberBelow : Nat := 40
abbrev iX5_oneWord : Nat := 41
abbrev iX5_risingWords : Nat := 42
abbrev iX5_wordOf : Nat := 43
abbrev iX5_sortOf : Nat := 44
abbrev iX6_init : Nat := 45
abbrev iX6_faultIn : Nat := 46
abbrev iX6_take : Nat := 47
abbrev iX6_endsIn : Nat := 48
abbrev iX6_sumEnds : Nat := 49
abbrev iX6_behindPart : Nat := 50
abbrev iX6_repeatedEnds : Nat := 51
abbrev iX6_partEnds : Nat := 52
abbrev iX6_wordEnds : Nat := 53
abbrev iX7_init : Nat := 54
abbrev iX7_become : Nat := 55
abbrev iX7_clear : Nat := 56
abbrev iX7_addBird : Nat := 57
abbrev iX7_addMan : Nat := 58
abbrev iX7_isCovered : Nat := 59
abbrev iX7_knowledge : Nat := 60
abbrev iX7_allKnowledge : Nat := 61
abbrev iX7_wellKnown : Nat := 62
abbrev iX7_wellKnownBySome : Nat := 63
abbrev iX7_allWordsOfMen : Nat := 64
abbrev iX7_manBeside : Nat := 65
abbrev iX7_seat : Nat := 66
abbrev iX7_learn : Nat := 67
abbrev iX7_halve : Nat := 68
abbrev iX7_hearable : Nat := 69
abbrev iX7_passEvening : Nat := 70
abbrev iX7_handOver : Nat := 71
abbrev iX7_awakeOn : Nat := 72
abbrev iX7_isSilenced : Nat := 73
abbrev iX7_speakOn : Nat := 74
abbrev iX7_speak : Nat := 75
abbrev iX7_bestKnown : Nat := 76
abbrev iX7_spread : Nat := 77
abbrev iX7_lose : Nat := 78
abbrev iX8_init : Nat := 79
abbrev iX8_write : Nat := 80
abbrev iX8_erase : Nat := 81
abbrev iX8_fault : Nat := 82
abbrev iX8_harbour : Nat := 83
abbrev iX8_tongue : Nat := 84
abbrev iX8_bird : Nat := 85
abbrev iX8_man : Nat := 86
abbrev iX8_known : Nat := 87
abbrev iX8_as : Nat := 88
abbrev iX8_evening : Nat := 89
abbrev iX8_teach : Nat := 90
abbrev iX8_moult : Nat := 91
abbrev iX8_perch : Nat := 92
abbrev iX8_cover : Nat := 93
abbrev iX8_sit : Nat := 94
abbrev iX8_undo : Nat := 95
abbrev iX8_keep : Nat := 96
abbrev iX8_back : Nat := 97
abbrev iX8_said : Nat := 98
abbrev iX8_when : Nat := 99
abbrev iX8_keeps : Nat := 100
abbrev iX8_match : Nat := 101
abbrev iX8_clean : Nat := 102
abbrev iX8_of : Nat := 103
abbrev iX8_left : Nat := 104
abbrev iX8_seen : Nat := 105
abbrev iX8_forget : Nat := 106
abbrev iX8_kinds : Nat := 107
abbrev iX8_reel : Nat := 108
abbrev iX8_record : Nat := 109
abbrev iX8_play : Nat := 110
abbrev iX8_splice : Nat := 111
abbrev iX8_drop : Nat := 112
abbrev iX8_count : Nat := 113
abbrev iX8_isNot : Nat := 114
abbrev iX8_noBird : Nat := 115
abbrev iX8_noMan : Nat := 116
abbrev iX8_noWord : Nat := 117
abbrev iX8_noPerch : Nat := 118
abbrev iX8_noReel : Nat := 119
abbrev iX8_noSort : Nat := 120
abbrev iX8_foretellSpeech : Nat := 121
abbrev iX8_keptWords : Nat := 122
abbrev iX8_mostKept : Nat := 123
abbrev iX8_matchOf : Nat := 124
abbrev iX8_leastChoice : Nat := 125
abbrev iX8_staysClean : Nat := 126
abbrev iX8_commonDivisor : Nat := 127
abbrev iX8_reelsThere : Nat := 128
abbrev iX9_init : Nat := 129
abbrev iX9_in : Nat := 130
abbrev iX9_has : Nat := 131
abbrev iX9_bits : Nat := 132
abbrev iX9_write : Nat := 133
abbrev iX9_erase : Nat := 134
abbrev iX9_isLetter : Nat := 135
abbrev iX9_isDigit : Nat := 136
abbrev iX9_nextToken : Nat := 137
abbrev iX9_isWord : Nat := 138
abbrev iX9_numberHere : Nat := 139
abbrev iX9_number : Nat := 140
abbrev iX9_words : Nat := 141
abbrev iX9_kindHere : Nat := 142
abbrev iX9_readsBird : Nat := 143
abbrev iX9_readsMan : Nat := 144
abbrev iX9_readsKnows : Nat := 145
abbrev iX9_readsSits : Nat := 146
abbrev iX9_readsCover : Nat := 147
abbrev iX9_readsHarbour : Nat := 148
abbrev iX9_readsClause : Nat := 149
abbrev iX9_reads : Nat := 150
abbrev iX9_copyHarbour : Nat := 151
abbrev iX9_harbour : Nat := 152
abbrev iX9_tongueFault : Nat := 153
abbrev iX9_fault : Nat := 154
abbrev iX9_layTongue : Nat := 155
abbrev iX9_tongue : Nat := 156
abbrev iX9_mark : Nat := 157
abbrev iX9_goesOn : Nat := 158
abbrev iX9_goOnAll : Nat := 159
abbrev iX9_hearWord : Nat := 160
abbrev iX9_hears : Nat := 161
abbrev iX9_gets : Nat := 162
abbrev iX9_says : Nat := 163
abbrev iX9_loses : Nat := 164
abbrev iX9_isBird : Nat := 165
abbrev iX9_isMan : Nat := 166
abbrev iX9_isWordNumber : Nat := 167
abbrev iX9_isOpen : Nat := 168
abbrev iX9_learns : Nat := 169
abbrev iX9_manOf : Nat := 170
abbrev iX9_wellKnown : Nat := 171
abbrev iX9_bird : Nat := 172
abbrev iX9_man : Nat := 173
abbrev iX9_as : Nat := 174
abbrev iX9_handOver : Nat := 175
abbrev iX9_isSilent : Nat := 176
abbrev iX9_bestWord : Nat := 177
abbrev iX9_say : Nat := 178
abbrev iX9_speak : Nat := 179
abbrev iX9_lose : Nat := 180
abbrev iX9_passes : Nat := 181
abbrev iX9_layTried : Nat := 182
abbrev iX9_passTried : Nat := 183
abbrev iX9_known : Nat := 184
abbrev iX9_keepPast : Nat := 185
abbrev iX9_evening : Nat := 186
abbrev iX9_teach : Nat := 187
abbrev iX9_moult : Nat := 188
abbrev iX9_perch : Nat := 189
abbrev iX9_cover : Nat := 190
abbrev iX9_sets : Nat := 191
abbrev iX9_sit : Nat := 192
abbrev iX9_undo : Nat := 193
abbrev iX9_keep : Nat := 194
abbrev iX9_back : Nat := 195
abbrev iX9_saidAt : Nat := 196
abbrev iX9_said : Nat := 197
abbrev iX9_when : Nat := 198
abbrev iX9_keptBy : Nat := 199
abbrev iX9_keeps : Nat := 200
abbrev iX9_keptByLine : Nat := 201
abbrev iX9_nextLine : Nat := 202
abbrev iX9_match : Nat := 203
abbrev iX9_clean : Nat := 204
abbrev iX9_of : Nat := 205
abbrev iX9_left : Nat := 206
abbrev iX9_seen : Nat := 207
abbrev iX9_forget : Nat := 208
abbrev iX9_kinds : Nat := 209
abbrev iX9_isReel : Nat := 210
abbrev iX9_reel : Nat := 211
abbrev iX9_noPlace : Nat := 212
abbrev iX9_record : Nat := 213
abbrev iX9_play : Nat := 214
abbrev iX9_isSpan : Nat := 215
abbrev iX9_splice : Nat := 216
abbrev iX9_drop : Nat := 217
abbrev iX9_menWords : Nat := 218
abbrev iX9_allWellKnown : Nat := 219
abbrev iX9_reelsThere : Nat := 220
abbrev iX9_count : Nat := 221
abbrev iJ6_numberOfTrailingZeros_0f7a4 : Nat := 222
abbrev iJ6_bitCount_0f7a4 : Nat := 223
abbrev iJ9_max_7cf53 : Nat := 224
abbrev iJ9_min_7cf53 : Nat := 225
abbrev iJ0_length_8abf5 : Nat := 226
abbrev iJ0_charAt_5068e : Nat := 227
abbrev iJ0_coder_7d493 : Nat := 228
abbrev iJ0_isLatin1_aae02 : Nat := 229
abbrev iJ0_checkIndex_df160 : Nat := 230
abbrev iJ1_charAt_3b067 : Nat := 231
abbrev iJ2_getChar_3b067 : Nat := 232
abbrev iJ2_length_9d52b : Nat := 233
abbrev iJ2_charAt_3b067 : Nat := 234
abbrev iJ2_checkIndex_2214a : Nat := 235
abbrev iJ3_checkIndex_8e157 : Nat := 236
def xsn (k : Nat) : String := ["", "HEARS", "GETS", "SAYS", "LOSES", "IS"].getD k ""
def xtab : List (List Int32) := [[], [1, 1, 1, 0, 2], [3, 5, 3, 0, 0], [1, 1, 2, 0, 0], [1, 0, 1, 0, 0], [3, 7, 11, 17, 49]]
def xtv (k j : Nat) : Int32 := (xtab.getD k []).getD j 0
def xsp (k : Nat) : Nat := [89, 91, 93, 95, 97, 60, 69, 74, 79, 84].getD k 0
def xsx (k : Nat) : String := ["parrot", "grey", "cockatoo", "hawk", "green", "harbour", "man", "knows", "sits", "cover"].getD k ""
def xsl : List Nat := [6, 4, 8, 4, 5, 7, 3, 5, 4, 5]
def xsb : List (List Int32) := [[112, 97, 114, 114, 111, 116], [103, 114, 101, 121], [99, 111, 99, 107, 97, 116, 111, 111], [104, 97, 119, 107], [103, 114, 101, 101, 110], [104, 97, 114, 98, 111, 117, 114], [109, 97, 110], [107, 110, 111, 119, 115], [115, 105, 116, 115], [99, 111, 118, 101, 114]]
def xnst : List (Nat × String) := [(88, "GETS"), (102, "SAYS"), (115, "HEARS"), (118, "LOSES")]
def xfl : List (Nat × String × Nat × Nat) := [(7, "ParrotSpeechModel", 9, 0), (9, "ParrotSpeech$Reel", 2, 0), (9, "ParrotSpeech$Sightings", 3, 0), (9, "ParrotSpeech$Speech", 4, 0), (9, "ParrotSpeech$Text", 5, 0), (9, "ParrotSpeech$Tongue", 6, 0), (9, "ParrotSpeech$World", 7, 4), (10, "ParrotSpeech", 8, 0), (11, "ParrotSpeech$History", 1, 0), (12, "ParrotSpeech$HarbourReader", 0, 1), (13, "ParrotSpeechModel", 9, 2), (15, "ParrotSpeech$Reel", 2, 1), (15, "ParrotSpeech$Sightings", 3, 1), (15, "ParrotSpeech$Speech", 4, 1), (15, "ParrotSpeech$Text", 5, 1), (15, "ParrotSpeech$Tongue", 6, 1), (15, "ParrotSpeech$World", 7, 5), (17, "ParrotSpeech$History", 1, 1), (17, "ParrotSpeechModel", 9, 3), (18, "ParrotSpeech$HarbourReader", 0, 0), (18, "ParrotSpeech$Sightings", 3, 2), (18, "ParrotSpeech$Tongue", 6, 2), (18, "ParrotSpeech$World", 7, 6), (19, "ParrotSpeech$Reel", 2, 2), (19, "ParrotSpeech$Text", 5, 2), (20, "ParrotSpeechModel", 9, 6), (21, "ParrotSpeech", 8, 1), (21, "ParrotSpeech$History", 1, 4), (21, "ParrotSpeech$Sightings", 3, 3), (21, "ParrotSpeech$Tongue", 6, 3), (21, "ParrotSpeech$World", 7, 7), (22, "ParrotSpeech$Text", 5, 3), (23, "ParrotSpeech$Reel", 2, 3), (23, "ParrotSpeechModel", 9, 7), (24, "ParrotSpeech$World", 7, 8), (25, "ParrotSpeech$History", 1, 3), (26, "ParrotSpeechModel", 9, 8), (27, "ParrotSpeech$World", 7, 0), (28, "ParrotSpeech", 8, 2), (28, "ParrotSpeech$History", 1, 2), (29, "ParrotSpeechModel", 9, 10), (31, "ParrotSpeech$HarbourReader", 0, 2), (31, "ParrotSpeech$World", 7, 1), (32, "ParrotSpeechModel", 9, 11), (34, "ParrotSpeech$World", 7, 2), (35, "ParrotSpeech", 8, 3), (35, "ParrotSpeechModel", 9, 12), (37, "ParrotSpeech$World", 7, 3), (38, "ParrotSpeechModel", 9, 13), (39, "ParrotSpeech", 8, 4), (41, "ParrotSpeechModel", 9, 14), (42, "ParrotSpeech", 8, 5), (42, "ParrotSpeech$HarbourReader", 5, 2), (44, "ParrotSpeech$Tongue", 5, 2), (44, "ParrotSpeechModel", 9, 15), (47, "ParrotSpeechModel", 9, 20), (48, "ParrotSpeech", 8, 6), (48, "ParrotSpeech$Tongue", 5, 1), (50, "ParrotSpeechModel", 9, 23), (51, "ParrotSpeech$Tongue", 6, 5), (52, "ParrotSpeech$Tongue", 6, 6), (53, "ParrotSpeechModel", 9, 24), (55, "ParrotSpeech", 8, 7), (55, "ParrotSpeech$Tongue", 5, 0), (56, "ParrotSpeechModel", 9, 25), (59, "ParrotSpeechModel", 9, 26), (62, "ParrotSpeech", 8, 8), (62, "ParrotSpeech$Tongue", 4, 1), (62, "ParrotSpeechModel", 9, 27), (65, "ParrotSpeechModel", 9, 28), (67, "ParrotSpeech$Tongue", 6, 4), (68, "ParrotSpeech", 8, 9), (68, "ParrotSpeechModel", 9, 29), (71, "ParrotSpeechModel", 9, 30), (73, "ParrotSpeech", 8, 10), (74, "ParrotSpeechModel", 9, 31), (77, "ParrotSpeechModel", 9, 32), (80, "ParrotSpeechModel", 9, 33), (81, "ParrotSpeech", 5, 1), (83, "ParrotSpeechModel", 9, 34), (86, "ParrotSpeechModel", 9, 35), (89, "ParrotSpeechModel", 9, 36), (92, "ParrotSpeechModel", 9, 37), (95, "ParrotSpeechModel", 9, 38), (98, "ParrotSpeechModel", 9, 39), (99, "ParrotSpeech$HarbourReader", 7, 0), (100, "ParrotSpeech", 0, 1), (101, "ParrotSpeechModel", 9, 40), (104, "ParrotSpeechModel", 9, 41), (109, "ParrotSpeech", 0, 2), (110, "ParrotSpeech$HarbourReader", 7, 1), (113, "ParrotSpeechModel", 9, 4), (115, "ParrotSpeech", 6, 6), (122, "ParrotSpeech", 7, 4), (123, "ParrotSpeech$HarbourReader", 7, 6), (125, "ParrotSpeech", 7, 5), (125, "ParrotSpeechModel", 9, 17), (128, "ParrotSpeechModel", 9, 16), (132, "ParrotSpeech$HarbourReader", 7, 3), (141, "ParrotSpeech", 7, 7), (144, "ParrotSpeech", 7, 8), (149, "ParrotSpeechModel", 9, 18), (155, "ParrotSpeechModel", 9, 22), (159, "ParrotSpeechModel", 9, 19), (164, "ParrotSpeech", 7, 2), (183, "ParrotSpeech", 7, 3), (190, "ParrotSpeech", 1, 4), (192, "ParrotSpeechModel", 9, 21), (206, "ParrotSpeechModel", 9, 1), (209, "ParrotSpeechModel", 9, 5), (216, "ParrotSpeech", 7, 1), (217, "ParrotSpeechModel", 9, 9), (219, "ParrotSpeech", 7, 0), (240, "ParrotSpeech", 6, 5), (245, "ParrotSpeech", 4, 1), (251, "ParrotSpeech", 3, 3), (276, "ParrotSpeech", 2, 1), (280, "ParrotSpeech", 2, 2), (287, "ParrotSpeech", 2, 0), (296, "ParrotSpeech", 2, 3)]
def xflp : List Nat := [935, 292, 271, 230, 109, 198, 151, 309, 248, 181, 937, 294, 272, 231, 111, 199, 153, 249, 938, 180, 273, 200, 155, 296, 116, 941, 310, 252, 274, 201, 157, 117, 298, 942, 159, 251, 943, 140, 311, 250, 945, 183, 143, 946, 146, 312, 947, 148, 948, 313, 949, 314, 114, 115, 950, 955, 315, 113, 958, 203, 205, 959, 316, 110, 960, 961, 317, 232, 962, 963, 202, 318, 964, 965, 319, 966, 967, 968, 112, 969, 970, 971, 972, 973, 974, 141, 182, 975, 976, 184, 144, 939, 206, 152, 156, 154, 952, 951, 149, 158, 160, 953, 957, 954, 147, 150, 253, 956, 936, 940, 145, 944, 142, 204, 233, 275, 295, 297, 293, 299]
def xpl : List (Nat × String × Nat × Nat) := [(15, "ParrotSpeech$Reel", 2, 101), (15, "ParrotSpeech$Text", 5, 1), (19, "ParrotSpeech$Reel", 2, 2), (19, "ParrotSpeech$Text", 5, 2), (21, "ParrotSpeech$History", 1, 4), (21, "ParrotSpeech$Sightings", 3, 3), (22, "ParrotSpeech$Text", 5, 3), (23, "ParrotSpeech$Reel", 2, 3), (25, "ParrotSpeech$History", 1, 3), (27, "ParrotSpeech$World", 7, 0), (28, "ParrotSpeech$History", 1, 2), (31, "ParrotSpeech$HarbourReader", 0, 2), (31, "ParrotSpeech$World", 7, 1), (34, "ParrotSpeech$World", 7, 2), (37, "ParrotSpeech$World", 7, 3), (51, "ParrotSpeech$Tongue", 6, 5), (52, "ParrotSpeech$Tongue", 6, 6), (67, "ParrotSpeech$Tongue", 6, 4), (113, "ParrotSpeechModel", 9, 4), (125, "ParrotSpeechModel", 9, 17), (128, "ParrotSpeechModel", 9, 16), (132, "ParrotSpeech$HarbourReader", 7, 3), (149, "ParrotSpeechModel", 9, 18), (155, "ParrotSpeechModel", 9, 122), (159, "ParrotSpeechModel", 9, 19), (183, "ParrotSpeech", 7, 3), (192, "ParrotSpeechModel", 9, 21), (206, "ParrotSpeechModel", 9, 1), (209, "ParrotSpeechModel", 9, 5), (217, "ParrotSpeechModel", 9, 9), (276, "ParrotSpeech", 2, 101)]
def xplp : List Nat := [294, 111, 296, 116, 252, 274, 117, 298, 251, 140, 250, 183, 143, 146, 148, 203, 205, 202, 939, 952, 951, 149, 953, 957, 954, 150, 956, 936, 940, 944, 295]
def xml : List (Nat × String × Nat) := [(9, "java/lang/StringLatin1", 230), (13, "ParrotSpeechLaw", 80), (17, "ParrotSpeechLaw", 133), (18, "ParrotSpeechLaw", 81), (22, "ParrotSpeech$HarbourReader", 55), (22, "ParrotSpeechLaw", 134), (23, "ParrotSpeechLaw", 82), (24, "ParrotSpeech$Tongue", 34), (25, "ParrotSpeech$Sightings", 30), (25, "ParrotSpeech$Text", 36), (26, "ParrotSpeech$HarbourReader", 34), (26, "ParrotSpeechLaw", 154), (27, "ParrotSpeechLaw", 83), (28, "ParrotSpeech$Text", 37), (29, "ParrotSpeech$Tongue", 36), (30, "ParrotSpeechLaw", 152), (31, "ParrotSpeech$History", 55), (31, "ParrotSpeechLaw", 84), (32, "ParrotSpeech$Text", 44), (32, "ParrotSpeech$Tongue", 37), (34, "ParrotSpeechLaw", 156), (35, "ParrotSpeech$HarbourReader", 35), (35, "ParrotSpeech$History", 225), (35, "ParrotSpeechLaw", 85), (36, "ParrotSpeech$Text", 225), (36, "ParrotSpeech$Tongue", 41), (38, "ParrotSpeech$HarbourReader", 2), (39, "ParrotSpeechLaw", 172), (40, "ParrotSpeech$Tongue", 38), (40, "ParrotSpeechLaw", 86), (42, "ParrotSpeech$Text", 226), (43, "ParrotSpeechLaw", 173), (44, "ParrotSpeechLaw", 87), (45, "ParrotSpeech$HarbourReader", 37), (46, "ParrotSpeech$World", 60), (47, "ParrotSpeech$Text", 227), (48, "ParrotSpeech$HarbourReader", 38), (48, "ParrotSpeechLaw", 184), (49, "ParrotSpeechLaw", 88), (50, "ParrotSpeech$World", 62), (51, "ParrotSpeech$Text", 43), (52, "ParrotSpeech$HarbourReader", 3), (52, "ParrotSpeechLaw", 174), (53, "ParrotSpeechLaw", 89), (54, "ParrotSpeech$World", 223), (56, "ParrotSpeech$HarbourReader", 4), (56, "ParrotSpeechLaw", 186), (57, "ParrotSpeechLaw", 90), (58, "ParrotSpeech$Tongue", 43), (59, "ParrotSpeech$World", 65), (60, "ParrotSpeechLaw", 187), (61, "ParrotSpeechLaw", 91), (62, "ParrotSpeech$HarbourReader", 39), (62, "ParrotSpeech$World", 72), (64, "ParrotSpeechLaw", 188), (65, "ParrotSpeech$World", 71), (65, "ParrotSpeechLaw", 92), (66, "ParrotSpeech$HarbourReader", 56), (68, "ParrotSpeechLaw", 189), (69, "ParrotSpeech$World", 28), (69, "ParrotSpeechLaw", 93), (70, "ParrotSpeech$Tongue", 30), (71, "ParrotSpeech$HarbourReader", 5), (72, "ParrotSpeechLaw", 190), (73, "ParrotSpeechLaw", 94), (74, "ParrotSpeech$Tongue", 49), (74, "ParrotSpeech$World", 73), (76, "ParrotSpeech$HarbourReader", 6), (76, "ParrotSpeechLaw", 192), (77, "ParrotSpeech", 114), (77, "ParrotSpeechLaw", 95), (78, "ParrotSpeech$Tongue", 50), (78, "ParrotSpeech$World", 74), (80, "ParrotSpeechLaw", 193), (81, "ParrotSpeech$HarbourReader", 7), (81, "ParrotSpeech$Tongue", 51), (81, "ParrotSpeechLaw", 96), (82, "ParrotSpeech$World", 78), (84, "ParrotSpeech$Tongue", 52), (84, "ParrotSpeechLaw", 194), (85, "ParrotSpeech", 32), (85, "ParrotSpeech$World", 59), (85, "ParrotSpeechLaw", 97), (86, "ParrotSpeech$HarbourReader", 8), (87, "ParrotSpeech$Tongue", 224), (88, "ParrotSpeechLaw", 195), (89, "ParrotSpeech", 33), (89, "ParrotSpeechLaw", 98), (91, "ParrotSpeech$World", 222), (92, "ParrotSpeech", 1), (92, "ParrotSpeech$Tongue", 53), (92, "ParrotSpeechLaw", 197), (93, "ParrotSpeechLaw", 99), (94, "ParrotSpeech$World", 67), (96, "ParrotSpeech", 46), (96, "ParrotSpeechLaw", 198), (97, "ParrotSpeechLaw", 100), (98, "ParrotSpeech$World", 75), (100, "ParrotSpeechLaw", 200), (101, "ParrotSpeechLaw", 101), (102, "ParrotSpeech$HarbourReader", 9), (103, "ParrotSpeech", 55), (104, "ParrotSpeechLaw", 203), (105, "ParrotSpeech$World", 76), (105, "ParrotSpeechLaw", 102), (106, "ParrotSpeech$HarbourReader", 57), (107, "ParrotSpeech", 11), (108, "ParrotSpeech", 24), (108, "ParrotSpeech$World", 29), (108, "ParrotSpeechLaw", 204), (109, "ParrotSpeechLaw", 103), (109, "ParrotSpeechModel", 130), (112, "ParrotSpeech", 47), (112, "ParrotSpeech$World", 77), (112, "ParrotSpeechLaw", 205), (113, "ParrotSpeech$HarbourReader", 42), (113, "ParrotSpeechLaw", 104), (116, "ParrotSpeech$HarbourReader", 58), (116, "ParrotSpeechLaw", 206), (117, "ParrotSpeechLaw", 105), (118, "ParrotSpeech", 115), (120, "ParrotSpeech$HarbourReader", 41), (120, "ParrotSpeechLaw", 207), (121, "ParrotSpeech$World", 224), (121, "ParrotSpeechLaw", 106), (124, "ParrotSpeechLaw", 208), (125, "ParrotSpeechLaw", 107), (126, "ParrotSpeech$HarbourReader", 65), (128, "ParrotSpeech", 59), (128, "ParrotSpeechLaw", 209), (129, "ParrotSpeech$HarbourReader", 66), (129, "ParrotSpeechLaw", 108), (131, "ParrotSpeech", 65), (131, "ParrotSpeechModel", 135), (132, "ParrotSpeechLaw", 211), (133, "ParrotSpeechLaw", 109), (135, "ParrotSpeech", 62), (135, "ParrotSpeech$HarbourReader", 40), (135, "ParrotSpeechModel", 136), (137, "ParrotSpeechLaw", 213), (138, "ParrotSpeech", 116), (138, "ParrotSpeechLaw", 110), (138, "ParrotSpeechModel", 139), (141, "ParrotSpeechLaw", 214), (142, "ParrotSpeechLaw", 111), (142, "ParrotSpeechModel", 137), (145, "ParrotSpeechModel", 138), (146, "ParrotSpeechLaw", 216), (147, "ParrotSpeech", 117), (147, "ParrotSpeechLaw", 112), (150, "ParrotSpeech", 70), (150, "ParrotSpeechLaw", 217), (151, "ParrotSpeechLaw", 113), (152, "ParrotSpeechModel", 140), (154, "ParrotSpeech", 60), (154, "ParrotSpeechLaw", 221), (162, "ParrotSpeechModel", 141), (165, "ParrotSpeechModel", 131), (167, "ParrotSpeech", 12), (169, "ParrotSpeechModel", 142), (170, "ParrotSpeech", 67), (173, "ParrotSpeechModel", 143), (174, "ParrotSpeech", 68), (176, "ParrotSpeechModel", 144), (177, "ParrotSpeech", 61), (180, "ParrotSpeech", 118), (180, "ParrotSpeechModel", 148), (183, "ParrotSpeechModel", 145), (186, "ParrotSpeech", 66), (186, "ParrotSpeechModel", 146), (189, "ParrotSpeechModel", 147), (193, "ParrotSpeech", 13), (195, "ParrotSpeechModel", 149), (196, "ParrotSpeech", 14), (198, "ParrotSpeechModel", 150), (200, "ParrotSpeech", 15), (202, "ParrotSpeechModel", 151), (203, "ParrotSpeech", 16), (206, "ParrotSpeech", 121), (209, "ParrotSpeech", 30), (212, "ParrotSpeech", 122), (214, "ParrotSpeechModel", 153), (220, "ParrotSpeechModel", 155), (222, "ParrotSpeech", 123), (223, "ParrotSpeechModel", 157), (225, "ParrotSpeech", 124), (226, "ParrotSpeechModel", 158), (228, "ParrotSpeech", 69), (229, "ParrotSpeechModel", 159), (231, "ParrotSpeech", 223), (234, "ParrotSpeechModel", 165), (236, "ParrotSpeech", 126), (237, "ParrotSpeechModel", 170), (241, "ParrotSpeech", 48), (241, "ParrotSpeechModel", 171), (244, "ParrotSpeechModel", 166), (248, "ParrotSpeech", 127), (249, "ParrotSpeechModel", 162), (252, "ParrotSpeech", 25), (252, "ParrotSpeechModel", 168), (254, "ParrotSpeech", 26), (255, "ParrotSpeechModel", 169), (258, "ParrotSpeech", 119), (259, "ParrotSpeechModel", 161), (261, "ParrotSpeech", 120), (262, "ParrotSpeechModel", 177), (264, "ParrotSpeech", 18), (266, "ParrotSpeechModel", 163), (267, "ParrotSpeech", 19), (269, "ParrotSpeechModel", 178), (270, "ParrotSpeech", 21), (273, "ParrotSpeech", 22), (274, "ParrotSpeechModel", 164), (277, "ParrotSpeechModel", 175), (281, "ParrotSpeechModel", 176), (283, "ParrotSpeech", 20), (284, "ParrotSpeechModel", 179), (287, "ParrotSpeechModel", 180), (290, "ParrotSpeechModel", 181), (293, "ParrotSpeechModel", 167), (297, "ParrotSpeech", 64), (298, "ParrotSpeechModel", 182), (301, "ParrotSpeech", 128), (301, "ParrotSpeechModel", 183), (304, "ParrotSpeech", 63), (306, "ParrotSpeechModel", 185), (307, "ParrotSpeech", 224), (311, "ParrotSpeechModel", 191), (312, "ParrotSpeech", 125), (317, "ParrotSpeechModel", 196), (320, "ParrotSpeechModel", 132), (325, "ParrotSpeechModel", 199), (328, "ParrotSpeechModel", 201), (331, "ParrotSpeechModel", 202), (334, "ParrotSpeechModel", 160), (335, "java/lang/String", 228), (341, "ParrotSpeechModel", 210), (344, "ParrotSpeechModel", 212), (350, "ParrotSpeechModel", 215), (354, "ParrotSpeechModel", 218), (357, "ParrotSpeechModel", 220), (360, "ParrotSpeechModel", 219), (492, "java/lang/String", 229), (495, "java/lang/String", 231), (498, "java/lang/String", 234)]
def xmlp : List Nat := [433, 343, 1063, 354, 370, 1071, 362, 537, 860, 385, 377, 1152, 543, 392, 538, 1075, 681, 556, 396, 539, 1161, 381, 682, 565, 389, 540, 399, 1169, 541, 586, 412, 1185, 594, 529, 582, 422, 530, 1201, 666, 928, 494, 403, 1193, 673, 919, 464, 1264, 683, 564, 523, 1273, 688, 408, 624, 1277, 605, 700, 481, 1281, 620, 707, 811, 486, 1286, 711, 812, 628, 502, 1290, 347, 716, 816, 632, 1298, 511, 821, 724, 656, 825, 1302, 350, 609, 732, 525, 820, 1306, 358, 744, 612, 366, 829, 1310, 756, 616, 534, 1319, 760, 636, 1323, 774, 468, 547, 1335, 642, 791, 476, 548, 552, 646, 1347, 803, 1068, 560, 650, 1351, 490, 833, 497, 1371, 840, 569, 506, 1376, 662, 848, 1380, 852, 515, 573, 1384, 519, 861, 577, 1087, 1388, 875, 578, 472, 1092, 1396, 590, 888, 1117, 1405, 898, 1083, 1105, 1411, 598, 907, 601, 1419, 911, 1113, 665, 1423, 1125, 1137, 677, 1101, 687, 1109, 692, 1121, 696, 704, 1129, 1133, 715, 1140, 1144, 720, 1097, 728, 1079, 736, 1148, 740, 748, 752, 764, 1156, 1165, 778, 1363, 783, 1359, 795, 1355, 768, 1173, 799, 1177, 807, 1181, 1189, 837, 1198, 844, 1226, 856, 1230, 865, 1253, 868, 1242, 871, 1246, 879, 1249, 883, 892, 1261, 1222, 1234, 902, 1238, 1256, 1218, 1205, 915, 1210, 920, 1214, 924, 1269, 782, 1294, 787, 1315, 1332, 1328, 1339, 1343, 1367, 416, 1392, 1400, 1415, 1427, 1431, 1435, 426, 430, 441]
def xcn : List (Nat × String × Nat) := [(26, "ParrotSpeech$Reel", 100000), (27, "ParrotSpeech$Reel", 1000003), (28, "ParrotSpeech$Reel", 2000000), (264, "java/lang/Integer", 65536), (265, "java/lang/Integer", 1431655765), (266, "java/lang/Integer", 858993459), (267, "java/lang/Integer", 252645135), (347, "ParrotSpeechModel", 100000), (348, "ParrotSpeechModel", 1000003), (349, "ParrotSpeechModel", 2000000)]
def xcnp : List Nat := [887, 896, 897, 615, 771, 772, 773, 1404, 1409, 1410]
def xcg : List (Nat × String × Nat) := [(107, "ParrotSpeechModel", 255), (117, "ParrotSpeechModel", 97), (119, "ParrotSpeechModel", 122), (121, "ParrotSpeechModel", 48), (123, "ParrotSpeechModel", 57), (212, "ParrotSpeechModel", 106), (232, "ParrotSpeechModel", 9), (247, "ParrotSpeechModel", 5), (272, "ParrotSpeechModel", 4), (296, "ParrotSpeechModel", 60), (304, "ParrotSpeechModel", 12), (309, "ParrotSpeechModel", 3), (315, "ParrotSpeechModel", 15), (323, "ParrotSpeechModel", 20), (337, "ParrotSpeechModel", 10), (339, "ParrotSpeechModel", 2)]
def xcgp : List Nat := [1067, 1090, 1091, 1095, 1096, 1160, 1208, 1197, 1260, 1209, 1268, 1285, 1314, 1327, 1375, 1395]
def xmv : List (Nat × Nat) := [(1, 1), (2, 0), (3, 0), (4, 1), (5, 0), (6, 0), (7, 0), (8, 0), (9, 1), (11, 0), (12, 1), (13, 1), (14, 2), (15, 1), (16, 2), (18, 2), (19, 2), (20, 2), (21, 2), (22, 1), (24, 0), (25, 3), (26, 1), (28, 0), (29, 2), (30, 2), (32, 1), (33, 0), (34, 0), (35, 0), (36, 0), (37, 0), (38, 1), (39, 1), (40, 1), (41, 0), (42, 0), (47, 1), (48, 2), (49, 4), (50, 1), (51, 4), (52, 4), (53, 2), (55, 1), (56, 0), (57, 2), (58, 1), (59, 1), (60, 2), (61, 1), (62, 1), (63, 0), (64, 0), (65, 1), (66, 2), (67, 3), (68, 1), (69, 1), (70, 1), (71, 1), (72, 1), (73, 1), (74, 3), (75, 4), (76, 2), (77, 2), (78, 1), (80, 1), (81, 0), (82, 1), (83, 0), (84, 0), (85, 2), (86, 2), (87, 3), (88, 2), (89, 1), (90, 2), (91, 1), (92, 2), (93, 1), (94, 2), (95, 0), (96, 1), (97, 1), (98, 2), (99, 3), (100, 3), (101, 2), (102, 3), (103, 2), (104, 3), (105, 3), (106, 0), (107, 1), (108, 3), (109, 4), (110, 3), (111, 5), (112, 1), (113, 1), (115, 1), (116, 1), (121, 0), (122, 3), (123, 2), (124, 1), (125, 2), (126, 4), (128, 0), (133, 1), (134, 0), (137, 0), (138, 1), (139, 1), (140, 1), (141, 1), (142, 0), (143, 1), (144, 0), (145, 0), (146, 0), (147, 0), (148, 0), (149, 0), (150, 1), (151, 2), (152, 0), (153, 0), (154, 1), (155, 0), (156, 0), (157, 1), (158, 1), (159, 0), (160, 1), (165, 1), (166, 1), (168, 2), (169, 4), (170, 2), (171, 2), (172, 2), (173, 2), (174, 2), (175, 1), (176, 2), (177, 3), (178, 4), (179, 2), (180, 1), (181, 1), (182, 0), (183, 1), (184, 3), (185, 0), (186, 1), (187, 2), (188, 1), (189, 2), (190, 1), (191, 3), (192, 2), (193, 0), (194, 1), (195, 1), (196, 2), (197, 2), (198, 3), (199, 3), (200, 3), (201, 0), (202, 0), (203, 2), (204, 3), (205, 2), (206, 3), (207, 3), (208, 0), (209, 1), (211, 3), (212, 3), (213, 4), (214, 3), (215, 3), (216, 5), (217, 1), (218, 0), (219, 0), (220, 0), (221, 1), (226, 0), (227, 1), (228, 0), (229, 0)]
def xmvp : List (Nat × Nat × Nat × Nat) := [(80, 369, 367, 368), (80, 402, 401, 0), (80, 406, 405, 1), (80, 467, 466, 2), (80, 489, 488, 4), (80, 505, 504, 5), (80, 514, 513, 6), (80, 528, 527, 7), (80, 471, 470, 3), (84, 551, 549, 550), (84, 680, 678, 679), (84, 723, 721, 722), (84, 731, 729, 730), (84, 739, 737, 738), (84, 743, 741, 742), (86, 874, 872, 873), (86, 882, 880, 881), (86, 905, 903, 904), (86, 886, 884, 885), (86, 895, 893, 894), (85, 555, 553, 554), (85, 847, 845, 846), (85, 859, 857, 858), (83, 623, 621, 622), (83, 649, 647, 648), (83, 755, 753, 754), (79, 353, 351, 352), (79, 361, 359, 360), (79, 380, 378, 379), (79, 384, 382, 383), (79, 388, 386, 387), (79, 395, 393, 394), (79, 533, 531, 532), (79, 411, 409, 410), (79, 475, 473, 474), (79, 509, 507, 508), (79, 493, 491, 492), (82, 563, 561, 562), (82, 810, 808, 809), (82, 815, 814, 24), (82, 819, 818, 25), (82, 824, 823, 26), (82, 828, 827, 27), (82, 832, 831, 28), (81, 373, 371, 372), (81, 484, 482, 483), (81, 479, 477, 478), (81, 500, 498, 499), (81, 576, 574, 575), (81, 585, 583, 584), (81, 699, 697, 698), (81, 581, 579, 580), (81, 927, 925, 926), (81, 918, 916, 917), (81, 518, 516, 517), (81, 522, 520, 521), (81, 619, 617, 618), (81, 695, 693, 694), (81, 798, 796, 797), (81, 604, 602, 603), (81, 608, 607, 10), (81, 627, 626, 11), (81, 631, 630, 12), (81, 635, 634, 13), (81, 639, 638, 14), (81, 645, 644, 15), (81, 653, 652, 16), (81, 659, 658, 17), (78, 346, 344, 345), (78, 357, 355, 356), (78, 365, 363, 364), (78, 546, 544, 545), (78, 559, 557, 558), (78, 568, 566, 567), (78, 589, 587, 588), (78, 597, 595, 596), (78, 669, 667, 668), (78, 676, 674, 675), (78, 686, 684, 685), (78, 691, 689, 690), (78, 703, 701, 702), (78, 710, 708, 709), (78, 714, 712, 713), (78, 719, 717, 718), (78, 727, 725, 726), (78, 735, 733, 734), (78, 747, 745, 746), (78, 759, 757, 758), (78, 763, 761, 762), (78, 777, 775, 776), (78, 794, 792, 793), (78, 806, 804, 805), (78, 836, 834, 835), (78, 843, 841, 842), (78, 851, 849, 850), (78, 855, 853, 854), (78, 864, 862, 863), (78, 878, 876, 877), (78, 891, 889, 890), (78, 901, 899, 900), (78, 910, 908, 909), (78, 914, 912, 913), (78, 572, 571, 8), (78, 593, 592, 9), (78, 751, 750, 18), (78, 767, 766, 19), (78, 781, 780, 20), (78, 786, 785, 21), (78, 790, 789, 22), (78, 802, 801, 23), (78, 923, 922, 29), (87, 1066, 1064, 1065), (87, 1074, 1072, 1073), (87, 1086, 1085, 31), (87, 1108, 1107, 34), (87, 1120, 1119, 37), (87, 1116, 1115, 36), (87, 1128, 1127, 39), (87, 1104, 1103, 33), (87, 1112, 1111, 35), (87, 1124, 1123, 38), (87, 1136, 1135, 41), (87, 1143, 1142, 42), (87, 1147, 1146, 43), (87, 1132, 1131, 40), (87, 1100, 1099, 32), (87, 1082, 1081, 30), (87, 1151, 1150, 44), (87, 1078, 1076, 1077), (87, 1159, 1158, 45), (87, 1155, 1153, 1154), (87, 1168, 1167, 46), (87, 1164, 1162, 1163), (87, 1366, 1365, 70), (87, 1362, 1361, 69), (87, 1358, 1357, 68), (87, 1370, 1369, 71), (87, 1176, 1175, 47), (87, 1192, 1191, 50), (87, 1229, 1228, 55), (87, 1233, 1232, 56), (87, 1180, 1179, 48), (87, 1184, 1183, 49), (87, 1172, 1170, 1171), (87, 1188, 1186, 1187), (87, 1196, 1194, 1195), (87, 1225, 1224, 54), (87, 1237, 1236, 57), (87, 1245, 1244, 59), (87, 1252, 1251, 60), (87, 1241, 1240, 58), (87, 1259, 1258, 61), (87, 1221, 1220, 53), (87, 1213, 1212, 51), (87, 1217, 1216, 52), (87, 1204, 1202, 1203), (87, 1272, 1271, 62), (87, 1267, 1265, 1266), (87, 1276, 1274, 1275), (87, 1280, 1278, 1279), (87, 1284, 1282, 1283), (87, 1289, 1287, 1288), (87, 1297, 1296, 63), (87, 1293, 1291, 1292), (87, 1301, 1299, 1300), (87, 1305, 1303, 1304), (87, 1309, 1307, 1308), (87, 1318, 1317, 64), (87, 1313, 1311, 1312), (87, 1322, 1320, 1321), (87, 1331, 1330, 65), (87, 1326, 1324, 1325), (87, 1342, 1341, 66), (87, 1346, 1345, 67), (87, 1338, 1336, 1337), (87, 1350, 1348, 1349), (87, 1354, 1352, 1353), (87, 1374, 1372, 1373), (87, 1379, 1377, 1378), (87, 1383, 1381, 1382), (87, 1387, 1385, 1386), (87, 1391, 1389, 1390), (87, 1403, 1402, 72), (87, 1399, 1397, 1398), (87, 1408, 1406, 1407), (87, 1418, 1417, 73), (87, 1414, 1412, 1413), (87, 1422, 1420, 1421), (87, 1430, 1429, 74), (87, 1438, 1437, 76), (87, 1434, 1433, 75), (87, 1426, 1424, 1425), (90, 415, 413, 414), (90, 425, 423, 424), (90, 419, 417, 418), (90, 429, 427, 428)]
def xms : List (Nat × Nat) := [(43, 1), (44, 1), (46, 1), (114, 3), (117, 1), (118, 1), (119, 1), (120, 1), (127, 2), (130, 3), (131, 2), (132, 1), (135, 1), (136, 1), (161, 1), (162, 1), (163, 1), (164, 1), (167, 1), (210, 1), (222, 1), (223, 1), (224, 2), (225, 2), (230, 2), (231, 2), (234, 2)]
def xmsp : List (Nat × Nat × Nat) := [(79, 496, 495), (79, 398, 397), (82, 536, 535), (78, 349, 348), (78, 600, 599), (78, 706, 705), (78, 867, 866), (78, 870, 869), (78, 839, 838), (87, 1070, 1069), (87, 1139, 1138), (87, 1334, 1333), (87, 1089, 1088), (87, 1094, 1093), (87, 1255, 1254), (87, 1200, 1199), (87, 1248, 1247), (87, 1263, 1262), (87, 1207, 1206), (87, 1394, 1393), (94, 614, 613), (94, 770, 769), (89, 664, 663), (89, 391, 390), (90, 435, 434), (91, 432, 431), (93, 443, 442)]
