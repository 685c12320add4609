/-! WORDS OF THE TABLES: methods, links, fields (by program: wip/whole/gen/genwords.py) -/
abbrev MJ0_charAt_5068e : jMM := (RJ0, cJ0_charAt_5068e, 2, (some .char))
abbrev MJ0_checkIndex_df160 : jMM := (RJ0, cJ0_checkIndex_df160, 2, none)
abbrev MJ0_coder_7d493 : jMM := (RJ0, cJ0_coder_7d493, 1, (some .byte))
abbrev MJ0_isLatin1_aae02 : jMM := (RJ0, cJ0_isLatin1_aae02, 1, (some .boolean))
abbrev MJ0_length_8abf5 : jMM := (RJ0, cJ0_length_8abf5, 1, (some .int))
abbrev MJ1_charAt_3b067 : jMM := (RJ1, cJ1_charAt_3b067, 2, (some .char))
abbrev MJ3_checkIndex_8e157 : jMM := (RJ3, cJ3_checkIndex_8e157, 3, (some .int))
abbrev MJ6_bitCount_0f7a4 : jMM := (RJ6, cJ6_bitCount_0f7a4, 1, (some .int))
abbrev MJ7_fill_53178 : jMM := (RJ7, cJ7_fill_53178, 4, none)
abbrev MJ7_fill_bad5a : jMM := (RJ7, cJ7_fill_bad5a, 6, none)
abbrev MJ7_rangeCheck_23922 : jMM := (RJ7, cJ7_rangeCheck_23922, 3, none)
abbrev MJ9_max_7cf53 : jMM := (RJ9, cJ9_max_7cf53, 2, (some .int))
abbrev MJ9_max_f86c9 : jMM := (RJ9, cJ9_max_f86c9, 4, (some .long))
abbrev MJ9_min_7cf53 : jMM := (RJ9, cJ9_min_7cf53, 2, (some .int))
abbrev MX0_copy : jMM := (RX0, cX0_copy, 2, none)
abbrev MX0_greatest : jMM := (RX0, cX0_greatest, 1, (some .int))
abbrev MX0_has : jMM := (RX0, cX0_has, 2, (some .boolean))
abbrev MX0_hear : jMM := (RX0, cX0_hear, 6, none)
abbrev MX0_heard : jMM := (RX0, cX0_heard, 3, (some .int))
abbrev MX0_room : jMM := (RX0, cX0_room, 1, (some .int))
abbrev MX0_start : jMM := (RX0, cX0_start, 4, (some .int))
abbrev MX10_copy : jMM := (RX10, cX10_copy, 2, none)
abbrev MX10_costOfParts : jMM := (RX10, cX10_costOfParts, 6, (some .int))
abbrev MX10_gatherSayings : jMM := (RX10, cX10_gatherSayings, 4, none)
abbrev MX10_has : jMM := (RX10, cX10_has, 2, (some .boolean))
abbrev MX10_hasAll : jMM := (RX10, cX10_hasAll, 2, (some .boolean))
abbrev MX10_start : jMM := (RX10, cX10_start, 2, (some .int))
abbrev MX10_tell : jMM := (RX10, cX10_tell, 6, (some .int))
abbrev MX10_weigh : jMM := (RX10, cX10_weigh, 3, none)
abbrev MX10_weighOne : jMM := (RX10, cX10_weighOne, 5, none)
abbrev MX10_weightOf : jMM := (RX10, cX10_weightOf, 4, (some .int))
abbrev MX11_added : jMM := (RX11, cX11_added, 4, (some .int))
abbrev MX11_adds : jMM := (RX11, cX11_adds, 3, (some .int))
abbrev MX11_answer : jMM := (RX11, cX11_answer, 11, (some .int))
abbrev MX11_ask : jMM := (RX11, cX11_ask, 3, (some .int))
abbrev MX11_back : jMM := (RX11, cX11_back, 2, (some .int))
abbrev MX11_backOdds : jMM := (RX11, cX11_backOdds, 7, (some .int))
abbrev MX11_bounds : jMM := (RX11, cX11_bounds, 3, (some .int))
abbrev MX11_chance : jMM := (RX11, cX11_chance, 3, (some .int))
abbrev MX11_count : jMM := (RX11, cX11_count, 2, (some .int))
abbrev MX11_fault : jMM := (RX11, cX11_fault, 2, (some .int))
abbrev MX11_feed : jMM := (RX11, cX11_feed, 6, (some .int))
abbrev MX11_feedInt : jMM := (RX11, cX11_feedInt, 3, none)
abbrev MX11_free : jMM := (RX11, cX11_free, 3, (some .int))
abbrev MX11_glen : jMM := (RX11, cX11_glen, 5, (some .int))
abbrev MX11_image : jMM := (RX11, cX11_image, 2, (some .int))
abbrev MX11_imageAt : jMM := (RX11, cX11_imageAt, 2, (some (.object "NobodysBard$State")))
abbrev MX11_isBound : jMM := (RX11, cX11_isBound, 1, (some .boolean))
abbrev MX11_isGlenAndDay : jMM := (RX11, cX11_isGlenAndDay, 2, (some .boolean))
abbrev MX11_isHalf : jMM := (RX11, cX11_isHalf, 1, (some .boolean))
abbrev MX11_late : jMM := (RX11, cX11_late, 5, (some .int))
abbrev MX11_like : jMM := (RX11, cX11_like, 9, (some .int))
abbrev MX11_line : jMM := (RX11, cX11_line, 10, (some .int))
abbrev MX11_linesOf : jMM := (RX11, cX11_linesOf, 2, (some .int))
abbrev MX11_matches : jMM := (RX11, cX11_matches, 3, (some .int))
abbrev MX11_minister : jMM := (RX11, cX11_minister, 7, (some .int))
abbrev MX11_more : jMM := (RX11, cX11_more, 3, (some .int))
abbrev MX11_most : jMM := (RX11, cX11_most, 9, (some .int))
abbrev MX11_muddled : jMM := (RX11, cX11_muddled, 2, (some .int))
abbrev MX11_odds : jMM := (RX11, cX11_odds, 7, (some .long))
abbrev MX11_open : jMM := (RX11, cX11_open, 6, (some .int))
abbrev MX11_pages : jMM := (RX11, cX11_pages, 3, (some .int))
abbrev MX11_paid : jMM := (RX11, cX11_paid, 3, (some .int))
abbrev MX11_parted : jMM := (RX11, cX11_parted, 3, (some .int))
abbrev MX11_print : jMM := (RX11, cX11_print, 3, (some .int))
abbrev MX11_rate : jMM := (RX11, cX11_rate, 1, (some .int))
abbrev MX11_refuse : jMM := (RX11, cX11_refuse, 3, (some .int))
abbrev MX11_restore : jMM := (RX11, cX11_restore, 2, (some .int))
abbrev MX11_row : jMM := (RX11, cX11_row, 4, (some .int))
abbrev MX11_say : jMM := (RX11, cX11_say, 2, (some .int))
abbrev MX11_says : jMM := (RX11, cX11_says, 4, (some .int))
abbrev MX11_share : jMM := (RX11, cX11_share, 5, (some .int))
abbrev MX11_smoothed : jMM := (RX11, cX11_smoothed, 6, (some .long))
abbrev MX11_span : jMM := (RX11, cX11_span, 4, (some .int))
abbrev MX11_status : jMM := (RX11, cX11_status, 2, (some .int))
abbrev MX11_text : jMM := (RX11, cX11_text, 3, (some .int))
abbrev MX11_told : jMM := (RX11, cX11_told, 8, (some .int))
abbrev MX11_version : jMM := (RX11, cX11_version, 12, (some .int))
abbrev MX11_which : jMM := (RX11, cX11_which, 7, (some .int))
abbrev MX11_whose : jMM := (RX11, cX11_whose, 3, (some .int))
abbrev MX11_within : jMM := (RX11, cX11_within, 6, (some .boolean))
abbrev MX11_words : jMM := (RX11, cX11_words, 7, (some .long))
abbrev MX11_world : jMM := (RX11, cX11_world, 2, (some .int))
abbrev MX11_write : jMM := (RX11, cX11_write, 5, (some .long))
abbrev MX11_year : jMM := (RX11, cX11_year, 4, (some .int))
abbrev MX12_added : jMM := (RX12, cX12_added, 4, (some .int))
abbrev MX12_adds : jMM := (RX12, cX12_adds, 3, (some .int))
abbrev MX12_addsBy : jMM := (RX12, cX12_addsBy, 10, (some .int))
abbrev MX12_answer : jMM := (RX12, cX12_answer, 8, (some .int))
abbrev MX12_answers : jMM := (RX12, cX12_answers, 9, none)
abbrev MX12_ask : jMM := (RX12, cX12_ask, 7, (some .int))
abbrev MX12_back : jMM := (RX12, cX12_back, 2, (some .int))
abbrev MX12_backOdds : jMM := (RX12, cX12_backOdds, 5, (some .int))
abbrev MX12_best : jMM := (RX12, cX12_best, 8, none)
abbrev MX12_bounds : jMM := (RX12, cX12_bounds, 3, (some .int))
abbrev MX12_chance : jMM := (RX12, cX12_chance, 3, (some .int))
abbrev MX12_common : jMM := (RX12, cX12_common, 10, (some .long))
abbrev MX12_copies : jMM := (RX12, cX12_copies, 4, none)
abbrev MX12_costBy : jMM := (RX12, cX12_costBy, 6, (some .int))
abbrev MX12_count : jMM := (RX12, cX12_count, 2, (some .int))
abbrev MX12_counts : jMM := (RX12, cX12_counts, 2, none)
abbrev MX12_cut : jMM := (RX12, cX12_cut, 3, (some .long))
abbrev MX12_does : jMM := (RX12, cX12_does, 9, (some .boolean))
abbrev MX12_draw : jMM := (RX12, cX12_draw, 1, (some .int))
abbrev MX12_eats : jMM := (RX12, cX12_eats, 2, (some .boolean))
abbrev MX12_emit : jMM := (RX12, cX12_emit, 3, none)
abbrev MX12_fact : jMM := (RX12, cX12_fact, 3, none)
abbrev MX12_fails : jMM := (RX12, cX12_fails, 2, none)
abbrev MX12_fault : jMM := (RX12, cX12_fault, 2, (some .int))
abbrev MX12_feed : jMM := (RX12, cX12_feed, 8, (some .int))
abbrev MX12_free : jMM := (RX12, cX12_free, 3, (some .int))
abbrev MX12_freeUpTo : jMM := (RX12, cX12_freeUpTo, 4, (some .int))
abbrev MX12_glen : jMM := (RX12, cX12_glen, 6, (some .int))
abbrev MX12_hasWord : jMM := (RX12, cX12_hasWord, 4, (some .boolean))
abbrev MX12_holds : jMM := (RX12, cX12_holds, 7, (some .boolean))
abbrev MX12_image : jMM := (RX12, cX12_image, 2, (some .int))
abbrev MX12_is : jMM := (RX12, cX12_is, 2, (some .boolean))
abbrev MX12_isAnswer : jMM := (RX12, cX12_isAnswer, 10, (some .boolean))
abbrev MX12_isAnyEarly : jMM := (RX12, cX12_isAnyEarly, 3, (some .boolean))
abbrev MX12_isBack : jMM := (RX12, cX12_isBack, 4, (some .boolean))
abbrev MX12_isBehind : jMM := (RX12, cX12_isBehind, 2, (some .boolean))
abbrev MX12_isDigit : jMM := (RX12, cX12_isDigit, 1, (some .boolean))
abbrev MX12_isEarly : jMM := (RX12, cX12_isEarly, 2, (some .boolean))
abbrev MX12_isFree : jMM := (RX12, cX12_isFree, 4, (some .boolean))
abbrev MX12_isLine : jMM := (RX12, cX12_isLine, 4, (some .boolean))
abbrev MX12_isMuddled : jMM := (RX12, cX12_isMuddled, 4, (some .boolean))
abbrev MX12_isSmall : jMM := (RX12, cX12_isSmall, 1, (some .boolean))
abbrev MX12_isThere : jMM := (RX12, cX12_isThere, 2, (some .boolean))
abbrev MX12_keyAt : jMM := (RX12, cX12_keyAt, 4, (some .int))
abbrev MX12_late : jMM := (RX12, cX12_late, 5, (some .int))
abbrev MX12_lengthOf : jMM := (RX12, cX12_lengthOf, 3, (some .int))
abbrev MX12_like : jMM := (RX12, cX12_like, 5, (some .int))
abbrev MX12_likeOf : jMM := (RX12, cX12_likeOf, 10, (some .int))
abbrev MX12_line : jMM := (RX12, cX12_line, 7, (some .int))
abbrev MX12_looks : jMM := (RX12, cX12_looks, 7, none)
abbrev MX12_matches : jMM := (RX12, cX12_matches, 3, (some .int))
abbrev MX12_matchesOf : jMM := (RX12, cX12_matchesOf, 7, (some .int))
abbrev MX12_meets : jMM := (RX12, cX12_meets, 8, none)
abbrev MX12_minister : jMM := (RX12, cX12_minister, 5, (some .int))
abbrev MX12_more : jMM := (RX12, cX12_more, 6, (some .int))
abbrev MX12_most : jMM := (RX12, cX12_most, 8, (some .int))
abbrev MX12_mostOfPrint : jMM := (RX12, cX12_mostOfPrint, 6, (some .int))
abbrev MX12_mostOfSongs : jMM := (RX12, cX12_mostOfSongs, 8, (some .int))
abbrev MX12_muddled : jMM := (RX12, cX12_muddled, 4, (some .int))
abbrev MX12_needs : jMM := (RX12, cX12_needs, 2, none)
abbrev MX12_next : jMM := (RX12, cX12_next, 1, none)
abbrev MX12_no : jMM := (RX12, cX12_no, 2, (some .int))
abbrev MX12_odds : jMM := (RX12, cX12_odds, 7, (some .long))
abbrev MX12_open : jMM := (RX12, cX12_open, 5, (some .int))
abbrev MX12_opens : jMM := (RX12, cX12_opens, 5, (some .int))
abbrev MX12_pages : jMM := (RX12, cX12_pages, 3, (some .int))
abbrev MX12_pagesIn : jMM := (RX12, cX12_pagesIn, 5, (some .int))
abbrev MX12_paid : jMM := (RX12, cX12_paid, 3, (some .int))
abbrev MX12_part : jMM := (RX12, cX12_part, 7, (some .long))
abbrev MX12_parted : jMM := (RX12, cX12_parted, 6, (some .int))
abbrev MX12_parts : jMM := (RX12, cX12_parts, 1, none)
abbrev MX12_plain : jMM := (RX12, cX12_plain, 6, (some .long))
abbrev MX12_print : jMM := (RX12, cX12_print, 3, (some .int))
abbrev MX12_rate : jMM := (RX12, cX12_rate, 6, (some .int))
abbrev MX12_readRule : jMM := (RX12, cX12_readRule, 6, none)
abbrev MX12_readWay : jMM := (RX12, cX12_readWay, 5, none)
abbrev MX12_reads : jMM := (RX12, cX12_reads, 5, (some .int))
abbrev MX12_restore : jMM := (RX12, cX12_restore, 2, (some .int))
abbrev MX12_row : jMM := (RX12, cX12_row, 5, (some .int))
abbrev MX12_said : jMM := (RX12, cX12_said, 10, (some .long))
abbrev MX12_say : jMM := (RX12, cX12_say, 3, (some .int))
abbrev MX12_saying : jMM := (RX12, cX12_saying, 6, (some .int))
abbrev MX12_says : jMM := (RX12, cX12_says, 5, (some .int))
abbrev MX12_see : jMM := (RX12, cX12_see, 2, (some .int))
abbrev MX12_share : jMM := (RX12, cX12_share, 3, (some .int))
abbrev MX12_side : jMM := (RX12, cX12_side, 6, (some .int))
abbrev MX12_smooth : jMM := (RX12, cX12_smooth, 8, (some .long))
abbrev MX12_smoothed : jMM := (RX12, cX12_smoothed, 4, (some .long))
abbrev MX12_smooths : jMM := (RX12, cX12_smooths, 3, none)
abbrev MX12_span : jMM := (RX12, cX12_span, 2, (some .int))
abbrev MX12_stands : jMM := (RX12, cX12_stands, 5, (some .int))
abbrev MX12_status : jMM := (RX12, cX12_status, 2, (some .int))
abbrev MX12_test : jMM := (RX12, cX12_test, 1, none)
abbrev MX12_text : jMM := (RX12, cX12_text, 4, (some .int))
abbrev MX12_told : jMM := (RX12, cX12_told, 9, (some .int))
abbrev MX12_version : jMM := (RX12, cX12_version, 8, (some .int))
abbrev MX12_weightOf : jMM := (RX12, cX12_weightOf, 4, (some .int))
abbrev MX12_which : jMM := (RX12, cX12_which, 7, (some .int))
abbrev MX12_whose : jMM := (RX12, cX12_whose, 4, (some .int))
abbrev MX12_whoseIs : jMM := (RX12, cX12_whoseIs, 4, (some .int))
abbrev MX12_within : jMM := (RX12, cX12_within, 6, (some .boolean))
abbrev MX12_wordAt : jMM := (RX12, cX12_wordAt, 3, (some .int))
abbrev MX12_words : jMM := (RX12, cX12_words, 4, (some .long))
abbrev MX12_world : jMM := (RX12, cX12_world, 3, (some .int))
abbrev MX12_write : jMM := (RX12, cX12_write, 5, (some .long))
abbrev MX12_year : jMM := (RX12, cX12_year, 4, (some .int))
abbrev MX1_clear : jMM := (RX1, cX1_clear, 1, none)
abbrev MX1_copy : jMM := (RX1, cX1_copy, 2, none)
abbrev MX1_emit : jMM := (RX1, cX1_emit, 3, none)
abbrev MX1_holds : jMM := (RX1, cX1_holds, 8, (some .boolean))
abbrev MX1_put : jMM := (RX1, cX1_put, 6, none)
abbrev MX1_replaced : jMM := (RX1, cX1_replaced, 10, (some .long))
abbrev MX1_smooth : jMM := (RX1, cX1_smooth, 9, (some .long))
abbrev MX1_step : jMM := (RX1, cX1_step, 7, (some .long))
abbrev MX1_taken : jMM := (RX1, cX1_taken, 7, (some .long))
abbrev MX2_addsOf : jMM := (RX2, cX2_addsOf, 6, (some .int))
abbrev MX2_bookHasLike : jMM := (RX2, cX2_bookHasLike, 6, (some .boolean))
abbrev MX2_countKinds : jMM := (RX2, cX2_countKinds, 2, none)
abbrev MX2_fraction : jMM := (RX2, cX2_fraction, 7, (some .long))
abbrev MX2_greatestCommon : jMM := (RX2, cX2_greatestCommon, 11, (some .long))
abbrev MX2_isAmong : jMM := (RX2, cX2_isAmong, 4, (some .boolean))
abbrev MX2_isBack : jMM := (RX2, cX2_isBack, 4, (some .boolean))
abbrev MX2_isCounted : jMM := (RX2, cX2_isCounted, 3, (some .boolean))
abbrev MX2_isMuddled : jMM := (RX2, cX2_isMuddled, 4, (some .boolean))
abbrev MX2_look : jMM := (RX2, cX2_look, 8, none)
abbrev MX2_matchesOf : jMM := (RX2, cX2_matchesOf, 5, (some .int))
abbrev MX2_muddledAt : jMM := (RX2, cX2_muddledAt, 4, (some .int))
abbrev MX2_nearest : jMM := (RX2, cX2_nearest, 11, (some .int))
abbrev MX2_pairs : jMM := (RX2, cX2_pairs, 5, (some .int))
abbrev MX2_pairsBy : jMM := (RX2, cX2_pairsBy, 7, (some .int))
abbrev MX2_partedBy : jMM := (RX2, cX2_partedBy, 5, (some .int))
abbrev MX2_pileOf : jMM := (RX2, cX2_pileOf, 2, (some (.object "NobodysBard$Pile")))
abbrev MX2_printedLike : jMM := (RX2, cX2_printedLike, 6, (some .int))
abbrev MX2_wouldBeTheirs : jMM := (RX2, cX2_wouldBeTheirs, 5, (some .boolean))
abbrev MX3_clear : jMM := (RX3, cX3_clear, 1, none)
abbrev MX3_copy : jMM := (RX3, cX3_copy, 2, none)
abbrev MX3_drawn : jMM := (RX3, cX3_drawn, 1, (some .int))
abbrev MX3_next : jMM := (RX3, cX3_next, 1, (some .int))
abbrev MX3_putChance : jMM := (RX3, cX3_putChance, 3, none)
abbrev MX3_putSaying : jMM := (RX3, cX3_putSaying, 3, none)
abbrev MX3_respoken : jMM := (RX3, cX3_respoken, 8, (some .long))
abbrev MX4_alike : jMM := (RX4, cX4_alike, 5, (some .int))
abbrev MX4_behind : jMM := (RX4, cX4_behind, 3, (some .long))
abbrev MX4_clean : jMM := (RX4, cX4_clean, 2, (some .long))
abbrev MX4_common : jMM := (RX4, cX4_common, 9, (some .int))
abbrev MX4_head : jMM := (RX4, cX4_head, 3, (some .long))
abbrev MX4_length : jMM := (RX4, cX4_length, 3, (some .int))
abbrev MX4_places : jMM := (RX4, cX4_places, 7, (some .int))
abbrev MX4_without : jMM := (RX4, cX4_without, 3, (some .long))
abbrev MX4_word : jMM := (RX4, cX4_word, 3, (some .int))
abbrev MX5_at : jMM := (RX5, cX5_at, 3, (some .long))
abbrev MX5_copy : jMM := (RX5, cX5_copy, 2, none)
abbrev MX5_has : jMM := (RX5, cX5_has, 2, (some .boolean))
abbrev MX5_has_ : jMM := (RX5, cX5_has_, 3, (some .boolean))
abbrev MX5_isFull : jMM := (RX5, cX5_isFull, 1, (some .boolean))
abbrev MX5_isFull_ : jMM := (RX5, cX5_isFull_, 2, (some .boolean))
abbrev MX5_put : jMM := (RX5, cX5_put, 6, (some .int))
abbrev MX5_start : jMM := (RX5, cX5_start, 4, (some .int))
abbrev MX6_blame : jMM := (RX6, cX6_blame, 2, none)
abbrev MX6_endOfToken : jMM := (RX6, cX6_endOfToken, 5, (some .int))
abbrev MX6_isAt : jMM := (RX6, cX6_isAt, 2, (some .boolean))
abbrev MX6_isDigit : jMM := (RX6, cX6_isDigit, 1, (some .boolean))
abbrev MX6_isLetter : jMM := (RX6, cX6_isLetter, 1, (some .boolean))
abbrev MX6_kindOf : jMM := (RX6, cX6_kindOf, 4, (some .int))
abbrev MX6_numberOf : jMM := (RX6, cX6_numberOf, 5, (some .int))
abbrev MX6_putToken : jMM := (RX6, cX6_putToken, 4, none)
abbrev MX6_readFact : jMM := (RX6, cX6_readFact, 2, none)
abbrev MX6_readFashion : jMM := (RX6, cX6_readFashion, 2, none)
abbrev MX6_readLaw : jMM := (RX6, cX6_readLaw, 2, none)
abbrev MX6_readNumber : jMM := (RX6, cX6_readNumber, 5, (some .int))
abbrev MX6_readPlainFact : jMM := (RX6, cX6_readPlainFact, 4, none)
abbrev MX6_readRule : jMM := (RX6, cX6_readRule, 6, none)
abbrev MX6_readSide : jMM := (RX6, cX6_readSide, 6, (some .long))
abbrev MX6_readTest : jMM := (RX6, cX6_readTest, 4, none)
abbrev MX6_readWay : jMM := (RX6, cX6_readWay, 3, none)
abbrev MX6_scan : jMM := (RX6, cX6_scan, 6, none)
abbrev MX6_spells : jMM := (RX6, cX6_spells, 5, (some .boolean))
abbrev MX6_take : jMM := (RX6, cX6_take, 2, none)
abbrev MX6_wordKind : jMM := (RX6, cX6_wordKind, 3, (some .int))
abbrev MX7_at : jMM := (RX7, cX7_at, 3, (some .long))
abbrev MX7_canBe : jMM := (RX7, cX7_canBe, 2, (some .boolean))
abbrev MX7_cut : jMM := (RX7, cX7_cut, 3, (some .long))
abbrev MX7_lay : jMM := (RX7, cX7_lay, 4, none)
abbrev MX7_put : jMM := (RX7, cX7_put, 7, (some .long))
abbrev MX8_copy : jMM := (RX8, cX8_copy, 2, none)
abbrev MX8_follow : jMM := (RX8, cX8_follow, 4, none)
abbrev MX8_hasEarly : jMM := (RX8, cX8_hasEarly, 2, (some .boolean))
abbrev MX8_hasWordAfter : jMM := (RX8, cX8_hasWordAfter, 5, (some .boolean))
abbrev MX8_isEarly : jMM := (RX8, cX8_isEarly, 2, (some .boolean))
abbrev MX8_moveAbout : jMM := (RX8, cX8_moveAbout, 8, none)
abbrev MX8_pile : jMM := (RX8, cX8_pile, 2, (some (.object "NobodysBard$Pile")))
abbrev MX8_putIntoSong : jMM := (RX8, cX8_putIntoSong, 5, (some .int))
abbrev MX8_tellOn : jMM := (RX8, cX8_tellOn, 9, (some .int))
abbrev MX9_allPaid : jMM := (RX9, cX9_allPaid, 3, (some .int))
abbrev MX9_copy : jMM := (RX9, cX9_copy, 2, none)
abbrev MX9_fill : jMM := (RX9, cX9_fill, 3, (some .int))
abbrev MX9_firstSpanEndingFrom : jMM := (RX9, cX9_firstSpanEndingFrom, 4, (some .int))
abbrev MX9_freeUpTo : jMM := (RX9, cX9_freeUpTo, 8, (some .int))
abbrev MX9_leastRate : jMM := (RX9, cX9_leastRate, 5, (some .int))
abbrev MX9_leave : jMM := (RX9, cX9_leave, 3, (some .int))
abbrev MX9_moreBy : jMM := (RX9, cX9_moreBy, 5, (some .int))
abbrev MX9_pagesOf : jMM := (RX9, cX9_pagesOf, 5, (some .int))
abbrev MX9_pay : jMM := (RX9, cX9_pay, 3, (some .int))
theorem pl_X11 : plainName RX11 = true := by decide +kernel
theorem wIN_X11 : Cond.initialized RX11 ∈ jT := jT_in (i := 83) (by decide +kernel) (by decide +kernel)
theorem pl_X0 : plainName RX0 = true := by decide +kernel
theorem wIN_X0 : Cond.initialized RX0 ∈ jT := jT_in (i := 89) (by decide +kernel) (by decide +kernel)
theorem pl_X1 : plainName RX1 = true := by decide +kernel
theorem wIN_X1 : Cond.initialized RX1 ∈ jT := jT_in (i := 87) (by decide +kernel) (by decide +kernel)
theorem pl_X2 : plainName RX2 = true := by decide +kernel
theorem wIN_X2 : Cond.initialized RX2 ∈ jT := jT_in (i := 92) (by decide +kernel) (by decide +kernel)
theorem pl_X3 : plainName RX3 = true := by decide +kernel
theorem wIN_X3 : Cond.initialized RX3 ∈ jT := jT_in (i := 88) (by decide +kernel) (by decide +kernel)
theorem pl_X4 : plainName RX4 = true := by decide +kernel
theorem wIN_X4 : Cond.initialized RX4 ∈ jT := jT_in (i := 97) (by decide +kernel) (by decide +kernel)
theorem pl_X5 : plainName RX5 = true := by decide +kernel
theorem wIN_X5 : Cond.initialized RX5 ∈ jT := jT_in (i := 85) (by decide +kernel) (by decide +kernel)
theorem pl_X6 : plainName RX6 = true := by decide +kernel
theorem wIN_X6 : Cond.initialized RX6 ∈ jT := jT_in (i := 95) (by decide +kernel) (by decide +kernel)
theorem pl_X7 : plainName RX7 = true := by decide +kernel
theorem wIN_X7 : Cond.initialized RX7 ∈ jT := jT_in (i := 93) (by decide +kernel) (by decide +kernel)
theorem pl_X8 : plainName RX8 = true := by decide +kernel
theorem wIN_X8 : Cond.initialized RX8 ∈ jT := jT_in (i := 84) (by decide +kernel) (by decide +kernel)
theorem pl_X9 : plainName RX9 = true := by decide +kernel
theorem wIN_X9 : Cond.initialized RX9 ∈ jT := jT_in (i := 90) (by decide +kernel) (by decide +kernel)
theorem pl_X10 : plainName RX10 = true := by decide +kernel
theorem wIN_X10 : Cond.initialized RX10 ∈ jT := jT_in (i := 91) (by decide +kernel) (by decide +kernel)
theorem pl_X12 : plainName RX12 = true := by decide +kernel
theorem wIN_X12 : Cond.initialized RX12 ∈ jT := jT_in (i := 96) (by decide +kernel) (by decide +kernel)
theorem pl_J6 : plainName RJ6 = true := by decide +kernel
theorem wIN_J6 : Cond.initialized RJ6 ∈ jT := jT_in (i := 98) (by decide +kernel) (by decide +kernel)
theorem pl_J9 : plainName RJ9 = true := by decide +kernel
theorem wIN_J9 : Cond.initialized RJ9 ∈ jT := jT_in (i := 86) (by decide +kernel) (by decide +kernel)
theorem pl_J0 : plainName RJ0 = true := by decide +kernel
theorem wIN_J0 : Cond.initialized RJ0 ∈ jT := jT_in (i := 99) (by decide +kernel) (by decide +kernel)
theorem pl_J1 : plainName RJ1 = true := by decide +kernel
theorem wIN_J1 : Cond.initialized RJ1 ∈ jT := jT_in (i := 100) (by decide +kernel) (by decide +kernel)
theorem pl_J7 : plainName RJ7 = true := by decide +kernel
theorem wIN_J7 : Cond.initialized RJ7 ∈ jT := jT_in (i := 94) (by decide +kernel) (by decide +kernel)
theorem pl_J3 : plainName RJ3 = true := by decide +kernel
theorem wIN_J3 : Cond.initialized RJ3 ∈ jT := jT_in (i := 101) (by decide +kernel) (by decide +kernel)
theorem wCD_J0_charAt_5068e : Cond.code yJ0_charAt_5068e cJ0_charAt_5068e 2 (some .char) ∈ jT := jT_in (i := 717) (by decide +kernel) (by decide +kernel)
theorem wCD_J0_checkIndex_df160 : Cond.code yJ0_checkIndex_df160 cJ0_checkIndex_df160 2 none ∈ jT := jT_in (i := 727) (by decide +kernel) (by decide +kernel)
theorem wCD_J0_coder_7d493 : Cond.code yJ0_coder_7d493 cJ0_coder_7d493 1 (some .byte) ∈ jT := jT_in (i := 711) (by decide +kernel) (by decide +kernel)
theorem wCD_J0_isLatin1_aae02 : Cond.code yJ0_isLatin1_aae02 cJ0_isLatin1_aae02 1 (some .boolean) ∈ jT := jT_in (i := 721) (by decide +kernel) (by decide +kernel)
theorem wCD_J0_length_8abf5 : Cond.code yJ0_length_8abf5 cJ0_length_8abf5 1 (some .int) ∈ jT := jT_in (i := 707) (by decide +kernel) (by decide +kernel)
theorem wCD_J1_charAt_3b067 : Cond.code yJ1_charAt_3b067 cJ1_charAt_3b067 2 (some .char) ∈ jT := jT_in (i := 724) (by decide +kernel) (by decide +kernel)
theorem wCD_J3_checkIndex_8e157 : Cond.code yJ3_checkIndex_8e157 cJ3_checkIndex_8e157 3 (some .int) ∈ jT := jT_in (i := 732) (by decide +kernel) (by decide +kernel)
theorem wCD_J6_bitCount_0f7a4 : Cond.code yJ6_bitCount_0f7a4 cJ6_bitCount_0f7a4 1 (some .int) ∈ jT := jT_in (i := 661) (by decide +kernel) (by decide +kernel)
theorem wCD_J7_fill_53178 : Cond.code yJ7_fill_53178 cJ7_fill_53178 4 none ∈ jT := jT_in (i := 441) (by decide +kernel) (by decide +kernel)
theorem wCD_J7_fill_bad5a : Cond.code yJ7_fill_bad5a cJ7_fill_bad5a 6 none ∈ jT := jT_in (i := 1226) (by decide +kernel) (by decide +kernel)
theorem wCD_J7_rangeCheck_23922 : Cond.code yJ7_rangeCheck_23922 cJ7_rangeCheck_23922 3 none ∈ jT := jT_in (i := 1229) (by decide +kernel) (by decide +kernel)
theorem wCD_J9_max_7cf53 : Cond.code yJ9_max_7cf53 cJ9_max_7cf53 2 (some .int) ∈ jT := jT_in (i := 126) (by decide +kernel) (by decide +kernel)
theorem wCD_J9_max_f86c9 : Cond.code yJ9_max_f86c9 cJ9_max_f86c9 4 (some .long) ∈ jT := jT_in (i := 974) (by decide +kernel) (by decide +kernel)
theorem wCD_J9_min_7cf53 : Cond.code yJ9_min_7cf53 cJ9_min_7cf53 2 (some .int) ∈ jT := jT_in (i := 683) (by decide +kernel) (by decide +kernel)
theorem wCD_X0_copy : Cond.code yX0_copy cX0_copy 2 none ∈ jT := jT_in (i := 1283) (by decide +kernel) (by decide +kernel)
theorem wCD_X0_greatest : Cond.code yX0_greatest cX0_greatest 1 (some .int) ∈ jT := jT_in (i := 1251) (by decide +kernel) (by decide +kernel)
theorem wCD_X0_has : Cond.code yX0_has cX0_has 2 (some .boolean) ∈ jT := jT_in (i := 1050) (by decide +kernel) (by decide +kernel)
theorem wCD_X0_hear : Cond.code yX0_hear cX0_hear 6 none ∈ jT := jT_in (i := 1046) (by decide +kernel) (by decide +kernel)
theorem wCD_X0_heard : Cond.code yX0_heard cX0_heard 3 (some .int) ∈ jT := jT_in (i := 1076) (by decide +kernel) (by decide +kernel)
theorem wCD_X0_room : Cond.code yX0_room cX0_room 1 (some .int) ∈ jT := jT_in (i := 1038) (by decide +kernel) (by decide +kernel)
theorem wCD_X0_start : Cond.code yX0_start cX0_start 4 (some .int) ∈ jT := jT_in (i := 1042) (by decide +kernel) (by decide +kernel)
theorem wCD_X10_copy : Cond.code yX10_copy cX10_copy 2 none ∈ jT := jT_in (i := 1293) (by decide +kernel) (by decide +kernel)
theorem wCD_X10_costOfParts : Cond.code yX10_costOfParts cX10_costOfParts 6 (some .int) ∈ jT := jT_in (i := 1209) (by decide +kernel) (by decide +kernel)
theorem wCD_X10_gatherSayings : Cond.code yX10_gatherSayings cX10_gatherSayings 4 none ∈ jT := jT_in (i := 1196) (by decide +kernel) (by decide +kernel)
theorem wCD_X10_has : Cond.code yX10_has cX10_has 2 (some .boolean) ∈ jT := jT_in (i := 1174) (by decide +kernel) (by decide +kernel)
theorem wCD_X10_hasAll : Cond.code yX10_hasAll cX10_hasAll 2 (some .boolean) ∈ jT := jT_in (i := 1187) (by decide +kernel) (by decide +kernel)
theorem wCD_X10_start : Cond.code yX10_start cX10_start 2 (some .int) ∈ jT := jT_in (i := 1166) (by decide +kernel) (by decide +kernel)
theorem wCD_X10_tell : Cond.code yX10_tell cX10_tell 6 (some .int) ∈ jT := jT_in (i := 1178) (by decide +kernel) (by decide +kernel)
theorem wCD_X10_weigh : Cond.code yX10_weigh cX10_weigh 3 none ∈ jT := jT_in (i := 1191) (by decide +kernel) (by decide +kernel)
theorem wCD_X10_weighOne : Cond.code yX10_weighOne cX10_weighOne 5 none ∈ jT := jT_in (i := 1201) (by decide +kernel) (by decide +kernel)
theorem wCD_X10_weightOf : Cond.code yX10_weightOf cX10_weightOf 4 (some .int) ∈ jT := jT_in (i := 1205) (by decide +kernel) (by decide +kernel)
theorem wCD_X11_added : Cond.code yX11_added cX11_added 4 (some .int) ∈ jT := jT_in (i := 1011) (by decide +kernel) (by decide +kernel)
theorem wCD_X11_adds : Cond.code yX11_adds cX11_adds 3 (some .int) ∈ jT := jT_in (i := 998) (by decide +kernel) (by decide +kernel)
theorem wCD_X11_answer : Cond.code yX11_answer cX11_answer 11 (some .int) ∈ jT := jT_in (i := 1034) (by decide +kernel) (by decide +kernel)
theorem wCD_X11_ask : Cond.code yX11_ask cX11_ask 3 (some .int) ∈ jT := jT_in (i := 1183) (by decide +kernel) (by decide +kernel)
theorem wCD_X11_back : Cond.code yX11_back cX11_back 2 (some .int) ∈ jT := jT_in (i := 1054) (by decide +kernel) (by decide +kernel)
theorem wCD_X11_backOdds : Cond.code yX11_backOdds cX11_backOdds 7 (some .int) ∈ jT := jT_in (i := 1064) (by decide +kernel) (by decide +kernel)
theorem wCD_X11_bounds : Cond.code yX11_bounds cX11_bounds 3 (some .int) ∈ jT := jT_in (i := 631) (by decide +kernel) (by decide +kernel)
theorem wCD_X11_chance : Cond.code yX11_chance cX11_chance 3 (some .int) ∈ jT := jT_in (i := 950) (by decide +kernel) (by decide +kernel)
theorem wCD_X11_count : Cond.code yX11_count cX11_count 2 (some .int) ∈ jT := jT_in (i := 1307) (by decide +kernel) (by decide +kernel)
theorem wCD_X11_fault : Cond.code yX11_fault cX11_fault 2 (some .int) ∈ jT := jT_in (i := 865) (by decide +kernel) (by decide +kernel)
theorem wCD_X11_feed : Cond.code yX11_feed cX11_feed 6 (some .int) ∈ jT := jT_in (i := 668) (by decide +kernel) (by decide +kernel)
theorem wCD_X11_feedInt : Cond.code yX11_feedInt cX11_feedInt 3 none ∈ jT := jT_in (i := 672) (by decide +kernel) (by decide +kernel)
theorem wCD_X11_free : Cond.code yX11_free cX11_free 3 (some .int) ∈ jT := jT_in (i := 1136) (by decide +kernel) (by decide +kernel)
theorem wCD_X11_glen : Cond.code yX11_glen cX11_glen 5 (some .int) ∈ jT := jT_in (i := 1093) (by decide +kernel) (by decide +kernel)
theorem wCD_X11_image : Cond.code yX11_image cX11_image 2 (some .int) ∈ jT := jT_in (i := 1264) (by decide +kernel) (by decide +kernel)
theorem wCD_X11_imageAt : Cond.code yX11_imageAt cX11_imageAt 2 (some (.object "NobodysBard$State")) ∈ jT := jT_in (i := 1268) (by decide +kernel) (by decide +kernel)
theorem wCD_X11_isBound : Cond.code yX11_isBound cX11_isBound 1 (some .boolean) ∈ jT := jT_in (i := 953) (by decide +kernel) (by decide +kernel)
theorem wCD_X11_isGlenAndDay : Cond.code yX11_isGlenAndDay cX11_isGlenAndDay 2 (some .boolean) ∈ jT := jT_in (i := 545) (by decide +kernel) (by decide +kernel)
theorem wCD_X11_isHalf : Cond.code yX11_isHalf cX11_isHalf 1 (some .boolean) ∈ jT := jT_in (i := 901) (by decide +kernel) (by decide +kernel)
theorem wCD_X11_late : Cond.code yX11_late cX11_late 5 (some .int) ∈ jT := jT_in (i := 930) (by decide +kernel) (by decide +kernel)
theorem wCD_X11_like : Cond.code yX11_like cX11_like 9 (some .int) ∈ jT := jT_in (i := 650) (by decide +kernel) (by decide +kernel)
theorem wCD_X11_line : Cond.code yX11_line cX11_line 10 (some .int) ∈ jT := jT_in (i := 557) (by decide +kernel) (by decide +kernel)
theorem wCD_X11_linesOf : Cond.code yX11_linesOf cX11_linesOf 2 (some .int) ∈ jT := jT_in (i := 1311) (by decide +kernel) (by decide +kernel)
theorem wCD_X11_matches : Cond.code yX11_matches cX11_matches 3 (some .int) ∈ jT := jT_in (i := 982) (by decide +kernel) (by decide +kernel)
theorem wCD_X11_minister : Cond.code yX11_minister cX11_minister 7 (some .int) ∈ jT := jT_in (i := 1244) (by decide +kernel) (by decide +kernel)
theorem wCD_X11_more : Cond.code yX11_more cX11_more 3 (some .int) ∈ jT := jT_in (i := 1120) (by decide +kernel) (by decide +kernel)
theorem wCD_X11_most : Cond.code yX11_most cX11_most 9 (some .int) ∈ jT := jT_in (i := 994) (by decide +kernel) (by decide +kernel)
theorem wCD_X11_muddled : Cond.code yX11_muddled cX11_muddled 2 (some .int) ∈ jT := jT_in (i := 1081) (by decide +kernel) (by decide +kernel)
theorem wCD_X11_odds : Cond.code yX11_odds cX11_odds 7 (some .long) ∈ jT := jT_in (i := 978) (by decide +kernel) (by decide +kernel)
theorem wCD_X11_open : Cond.code yX11_open cX11_open 6 (some .int) ∈ jT := jT_in (i := 533) (by decide +kernel) (by decide +kernel)
theorem wCD_X11_pages : Cond.code yX11_pages cX11_pages 3 (some .int) ∈ jT := jT_in (i := 1111) (by decide +kernel) (by decide +kernel)
theorem wCD_X11_paid : Cond.code yX11_paid cX11_paid 3 (some .int) ∈ jT := jT_in (i := 1102) (by decide +kernel) (by decide +kernel)
theorem wCD_X11_parted : Cond.code yX11_parted cX11_parted 3 (some .int) ∈ jT := jT_in (i := 1068) (by decide +kernel) (by decide +kernel)
theorem wCD_X11_print : Cond.code yX11_print cX11_print 3 (some .int) ∈ jT := jT_in (i := 627) (by decide +kernel) (by decide +kernel)
theorem wCD_X11_rate : Cond.code yX11_rate cX11_rate 1 (some .int) ∈ jT := jT_in (i := 1144) (by decide +kernel) (by decide +kernel)
theorem wCD_X11_refuse : Cond.code yX11_refuse cX11_refuse 3 (some .int) ∈ jT := jT_in (i := 537) (by decide +kernel) (by decide +kernel)
theorem wCD_X11_restore : Cond.code yX11_restore cX11_restore 2 (some .int) ∈ jT := jT_in (i := 1298) (by decide +kernel) (by decide +kernel)
theorem wCD_X11_row : Cond.code yX11_row cX11_row 4 (some .int) ∈ jT := jT_in (i := 1213) (by decide +kernel) (by decide +kernel)
theorem wCD_X11_say : Cond.code yX11_say cX11_say 2 (some .int) ∈ jT := jT_in (i := 1255) (by decide +kernel) (by decide +kernel)
theorem wCD_X11_says : Cond.code yX11_says cX11_says 4 (some .int) ∈ jT := jT_in (i := 1170) (by decide +kernel) (by decide +kernel)
theorem wCD_X11_share : Cond.code yX11_share cX11_share 5 (some .int) ∈ jT := jT_in (i := 936) (by decide +kernel) (by decide +kernel)
theorem wCD_X11_smoothed : Cond.code yX11_smoothed cX11_smoothed 6 (some .long) ∈ jT := jT_in (i := 869) (by decide +kernel) (by decide +kernel)
theorem wCD_X11_span : Cond.code yX11_span cX11_span 4 (some .int) ∈ jT := jT_in (i := 946) (by decide +kernel) (by decide +kernel)
theorem wCD_X11_status : Cond.code yX11_status cX11_status 2 (some .int) ∈ jT := jT_in (i := 1302) (by decide +kernel) (by decide +kernel)
theorem wCD_X11_text : Cond.code yX11_text cX11_text 3 (some .int) ∈ jT := jT_in (i := 676) (by decide +kernel) (by decide +kernel)
theorem wCD_X11_told : Cond.code yX11_told cX11_told 8 (some .int) ∈ jT := jT_in (i := 874) (by decide +kernel) (by decide +kernel)
theorem wCD_X11_version : Cond.code yX11_version cX11_version 12 (some .int) ∈ jT := jT_in (i := 1020) (by decide +kernel) (by decide +kernel)
theorem wCD_X11_which : Cond.code yX11_which cX11_which 7 (some .int) ∈ jT := jT_in (i := 1024) (by decide +kernel) (by decide +kernel)
theorem wCD_X11_whose : Cond.code yX11_whose cX11_whose 3 (some .int) ∈ jT := jT_in (i := 898) (by decide +kernel) (by decide +kernel)
theorem wCD_X11_within : Cond.code yX11_within cX11_within 6 (some .boolean) ∈ jT := jT_in (i := 542) (by decide +kernel) (by decide +kernel)
theorem wCD_X11_words : Cond.code yX11_words cX11_words 7 (some .long) ∈ jT := jT_in (i := 636) (by decide +kernel) (by decide +kernel)
theorem wCD_X11_world : Cond.code yX11_world cX11_world 2 (some .int) ∈ jT := jT_in (i := 1162) (by decide +kernel) (by decide +kernel)
theorem wCD_X11_write : Cond.code yX11_write cX11_write 5 (some .long) ∈ jT := jT_in (i := 1233) (by decide +kernel) (by decide +kernel)
theorem wCD_X11_year : Cond.code yX11_year cX11_year 4 (some .int) ∈ jT := jT_in (i := 1015) (by decide +kernel) (by decide +kernel)
theorem wCD_X12_added : Cond.code yX12_added cX12_added 4 (some .int) ∈ jT := jT_in (i := 1700) (by decide +kernel) (by decide +kernel)
theorem wCD_X12_adds : Cond.code yX12_adds cX12_adds 3 (some .int) ∈ jT := jT_in (i := 1692) (by decide +kernel) (by decide +kernel)
theorem wCD_X12_addsBy : Cond.code yX12_addsBy cX12_addsBy 10 (some .int) ∈ jT := jT_in (i := 1696) (by decide +kernel) (by decide +kernel)
theorem wCD_X12_answer : Cond.code yX12_answer cX12_answer 8 (some .int) ∈ jT := jT_in (i := 1717) (by decide +kernel) (by decide +kernel)
theorem wCD_X12_answers : Cond.code yX12_answers cX12_answers 9 none ∈ jT := jT_in (i := 1724) (by decide +kernel) (by decide +kernel)
theorem wCD_X12_ask : Cond.code yX12_ask cX12_ask 7 (some .int) ∈ jT := jT_in (i := 1808) (by decide +kernel) (by decide +kernel)
theorem wCD_X12_back : Cond.code yX12_back cX12_back 2 (some .int) ∈ jT := jT_in (i := 1728) (by decide +kernel) (by decide +kernel)
theorem wCD_X12_backOdds : Cond.code yX12_backOdds cX12_backOdds 5 (some .int) ∈ jT := jT_in (i := 1744) (by decide +kernel) (by decide +kernel)
theorem wCD_X12_best : Cond.code yX12_best cX12_best 8 none ∈ jT := jT_in (i := 1629) (by decide +kernel) (by decide +kernel)
theorem wCD_X12_bounds : Cond.code yX12_bounds cX12_bounds 3 (some .int) ∈ jT := jT_in (i := 1472) (by decide +kernel) (by decide +kernel)
theorem wCD_X12_chance : Cond.code yX12_chance cX12_chance 3 (some .int) ∈ jT := jT_in (i := 1661) (by decide +kernel) (by decide +kernel)
theorem wCD_X12_common : Cond.code yX12_common cX12_common 10 (some .long) ∈ jT := jT_in (i := 1671) (by decide +kernel) (by decide +kernel)
theorem wCD_X12_copies : Cond.code yX12_copies cX12_copies 4 none ∈ jT := jT_in (i := 1852) (by decide +kernel) (by decide +kernel)
theorem wCD_X12_costBy : Cond.code yX12_costBy cX12_costBy 6 (some .int) ∈ jT := jT_in (i := 1812) (by decide +kernel) (by decide +kernel)
theorem wCD_X12_count : Cond.code yX12_count cX12_count 2 (some .int) ∈ jT := jT_in (i := 1865) (by decide +kernel) (by decide +kernel)
theorem wCD_X12_counts : Cond.code yX12_counts cX12_counts 2 none ∈ jT := jT_in (i := 1653) (by decide +kernel) (by decide +kernel)
theorem wCD_X12_cut : Cond.code yX12_cut cX12_cut 3 (some .long) ∈ jT := jT_in (i := 1832) (by decide +kernel) (by decide +kernel)
theorem wCD_X12_does : Cond.code yX12_does cX12_does 9 (some .boolean) ∈ jT := jT_in (i := 1584) (by decide +kernel) (by decide +kernel)
theorem wCD_X12_draw : Cond.code yX12_draw cX12_draw 1 (some .int) ∈ jT := jT_in (i := 1604) (by decide +kernel) (by decide +kernel)
theorem wCD_X12_eats : Cond.code yX12_eats cX12_eats 2 (some .boolean) ∈ jT := jT_in (i := 1546) (by decide +kernel) (by decide +kernel)
theorem wCD_X12_emit : Cond.code yX12_emit cX12_emit 3 none ∈ jT := jT_in (i := 1562) (by decide +kernel) (by decide +kernel)
theorem wCD_X12_fact : Cond.code yX12_fact cX12_fact 3 none ∈ jT := jT_in (i := 1558) (by decide +kernel) (by decide +kernel)
theorem wCD_X12_fails : Cond.code yX12_fails cX12_fails 2 none ∈ jT := jT_in (i := 1538) (by decide +kernel) (by decide +kernel)
theorem wCD_X12_fault : Cond.code yX12_fault cX12_fault 2 (some .int) ∈ jT := jT_in (i := 1572) (by decide +kernel) (by decide +kernel)
theorem wCD_X12_feed : Cond.code yX12_feed cX12_feed 8 (some .int) ∈ jT := jT_in (i := 1493) (by decide +kernel) (by decide +kernel)
theorem wCD_X12_free : Cond.code yX12_free cX12_free 3 (some .int) ∈ jT := jT_in (i := 1784) (by decide +kernel) (by decide +kernel)
theorem wCD_X12_freeUpTo : Cond.code yX12_freeUpTo cX12_freeUpTo 4 (some .int) ∈ jT := jT_in (i := 1792) (by decide +kernel) (by decide +kernel)
theorem wCD_X12_glen : Cond.code yX12_glen cX12_glen 6 (some .int) ∈ jT := jT_in (i := 1761) (by decide +kernel) (by decide +kernel)
theorem wCD_X12_hasWord : Cond.code yX12_hasWord cX12_hasWord 4 (some .boolean) ∈ jT := jT_in (i := 1592) (by decide +kernel) (by decide +kernel)
theorem wCD_X12_holds : Cond.code yX12_holds cX12_holds 7 (some .boolean) ∈ jT := jT_in (i := 1588) (by decide +kernel) (by decide +kernel)
theorem wCD_X12_image : Cond.code yX12_image cX12_image 2 (some .int) ∈ jT := jT_in (i := 1848) (by decide +kernel) (by decide +kernel)
theorem wCD_X12_is : Cond.code yX12_is cX12_is 2 (some .boolean) ∈ jT := jT_in (i := 1534) (by decide +kernel) (by decide +kernel)
theorem wCD_X12_isAnswer : Cond.code yX12_isAnswer cX12_isAnswer 10 (some .boolean) ∈ jT := jT_in (i := 1720) (by decide +kernel) (by decide +kernel)
theorem wCD_X12_isAnyEarly : Cond.code yX12_isAnyEarly cX12_isAnyEarly 3 (some .boolean) ∈ jT := jT_in (i := 1844) (by decide +kernel) (by decide +kernel)
theorem wCD_X12_isBack : Cond.code yX12_isBack cX12_isBack 4 (some .boolean) ∈ jT := jT_in (i := 1736) (by decide +kernel) (by decide +kernel)
theorem wCD_X12_isBehind : Cond.code yX12_isBehind cX12_isBehind 2 (some .boolean) ∈ jT := jT_in (i := 1740) (by decide +kernel) (by decide +kernel)
theorem wCD_X12_isDigit : Cond.code yX12_isDigit cX12_isDigit 1 (some .boolean) ∈ jT := jT_in (i := 1518) (by decide +kernel) (by decide +kernel)
theorem wCD_X12_isEarly : Cond.code yX12_isEarly cX12_isEarly 2 (some .boolean) ∈ jT := jT_in (i := 1621) (by decide +kernel) (by decide +kernel)
theorem wCD_X12_isFree : Cond.code yX12_isFree cX12_isFree 4 (some .boolean) ∈ jT := jT_in (i := 1796) (by decide +kernel) (by decide +kernel)
theorem wCD_X12_isLine : Cond.code yX12_isLine cX12_isLine 4 (some .boolean) ∈ jT := jT_in (i := 1481) (by decide +kernel) (by decide +kernel)
theorem wCD_X12_isMuddled : Cond.code yX12_isMuddled cX12_isMuddled 4 (some .boolean) ∈ jT := jT_in (i := 1757) (by decide +kernel) (by decide +kernel)
theorem wCD_X12_isSmall : Cond.code yX12_isSmall cX12_isSmall 1 (some .boolean) ∈ jT := jT_in (i := 1508) (by decide +kernel) (by decide +kernel)
theorem wCD_X12_isThere : Cond.code yX12_isThere cX12_isThere 2 (some .boolean) ∈ jT := jT_in (i := 1732) (by decide +kernel) (by decide +kernel)
theorem wCD_X12_keyAt : Cond.code yX12_keyAt cX12_keyAt 4 (some .int) ∈ jT := jT_in (i := 1512) (by decide +kernel) (by decide +kernel)
theorem wCD_X12_late : Cond.code yX12_late cX12_late 5 (some .int) ∈ jT := jT_in (i := 1637) (by decide +kernel) (by decide +kernel)
theorem wCD_X12_lengthOf : Cond.code yX12_lengthOf cX12_lengthOf 3 (some .int) ∈ jT := jT_in (i := 1458) (by decide +kernel) (by decide +kernel)
theorem wCD_X12_like : Cond.code yX12_like cX12_like 5 (some .int) ∈ jT := jT_in (i := 1485) (by decide +kernel) (by decide +kernel)
theorem wCD_X12_likeOf : Cond.code yX12_likeOf cX12_likeOf 10 (some .int) ∈ jT := jT_in (i := 1489) (by decide +kernel) (by decide +kernel)
theorem wCD_X12_line : Cond.code yX12_line cX12_line 7 (some .int) ∈ jT := jT_in (i := 1455) (by decide +kernel) (by decide +kernel)
theorem wCD_X12_looks : Cond.code yX12_looks cX12_looks 7 none ∈ jT := jT_in (i := 1633) (by decide +kernel) (by decide +kernel)
theorem wCD_X12_matches : Cond.code yX12_matches cX12_matches 3 (some .int) ∈ jT := jT_in (i := 1679) (by decide +kernel) (by decide +kernel)
theorem wCD_X12_matchesOf : Cond.code yX12_matchesOf cX12_matchesOf 7 (some .int) ∈ jT := jT_in (i := 1683) (by decide +kernel) (by decide +kernel)
theorem wCD_X12_meets : Cond.code yX12_meets cX12_meets 8 none ∈ jT := jT_in (i := 1665) (by decide +kernel) (by decide +kernel)
theorem wCD_X12_minister : Cond.code yX12_minister cX12_minister 5 (some .int) ∈ jT := jT_in (i := 1836) (by decide +kernel) (by decide +kernel)
theorem wCD_X12_more : Cond.code yX12_more cX12_more 6 (some .int) ∈ jT := jT_in (i := 1776) (by decide +kernel) (by decide +kernel)
theorem wCD_X12_most : Cond.code yX12_most cX12_most 8 (some .int) ∈ jT := jT_in (i := 1687) (by decide +kernel) (by decide +kernel)
theorem wCD_X12_mostOfPrint : Cond.code yX12_mostOfPrint cX12_mostOfPrint 6 (some .int) ∈ jT := jT_in (i := 1645) (by decide +kernel) (by decide +kernel)
theorem wCD_X12_mostOfSongs : Cond.code yX12_mostOfSongs cX12_mostOfSongs 8 (some .int) ∈ jT := jT_in (i := 1641) (by decide +kernel) (by decide +kernel)
theorem wCD_X12_muddled : Cond.code yX12_muddled cX12_muddled 4 (some .int) ∈ jT := jT_in (i := 1753) (by decide +kernel) (by decide +kernel)
theorem wCD_X12_needs : Cond.code yX12_needs cX12_needs 2 none ∈ jT := jT_in (i := 1542) (by decide +kernel) (by decide +kernel)
theorem wCD_X12_next : Cond.code yX12_next cX12_next 1 none ∈ jT := jT_in (i := 1501) (by decide +kernel) (by decide +kernel)
theorem wCD_X12_no : Cond.code yX12_no cX12_no 2 (some .int) ∈ jT := jT_in (i := 1443) (by decide +kernel) (by decide +kernel)
theorem wCD_X12_odds : Cond.code yX12_odds cX12_odds 7 (some .long) ∈ jT := jT_in (i := 1675) (by decide +kernel) (by decide +kernel)
theorem wCD_X12_open : Cond.code yX12_open cX12_open 5 (some .int) ∈ jT := jT_in (i := 1436) (by decide +kernel) (by decide +kernel)
theorem wCD_X12_opens : Cond.code yX12_opens cX12_opens 5 (some .int) ∈ jT := jT_in (i := 1451) (by decide +kernel) (by decide +kernel)
theorem wCD_X12_pages : Cond.code yX12_pages cX12_pages 3 (some .int) ∈ jT := jT_in (i := 1771) (by decide +kernel) (by decide +kernel)
theorem wCD_X12_pagesIn : Cond.code yX12_pagesIn cX12_pagesIn 5 (some .int) ∈ jT := jT_in (i := 1780) (by decide +kernel) (by decide +kernel)
theorem wCD_X12_paid : Cond.code yX12_paid cX12_paid 3 (some .int) ∈ jT := jT_in (i := 1766) (by decide +kernel) (by decide +kernel)
theorem wCD_X12_part : Cond.code yX12_part cX12_part 7 (some .long) ∈ jT := jT_in (i := 1668) (by decide +kernel) (by decide +kernel)
theorem wCD_X12_parted : Cond.code yX12_parted cX12_parted 6 (some .int) ∈ jT := jT_in (i := 1749) (by decide +kernel) (by decide +kernel)
theorem wCD_X12_parts : Cond.code yX12_parts cX12_parts 1 none ∈ jT := jT_in (i := 1554) (by decide +kernel) (by decide +kernel)
theorem wCD_X12_plain : Cond.code yX12_plain cX12_plain 6 (some .long) ∈ jT := jT_in (i := 1464) (by decide +kernel) (by decide +kernel)
theorem wCD_X12_print : Cond.code yX12_print cX12_print 3 (some .int) ∈ jT := jT_in (i := 1468) (by decide +kernel) (by decide +kernel)
theorem wCD_X12_rate : Cond.code yX12_rate cX12_rate 6 (some .int) ∈ jT := jT_in (i := 1788) (by decide +kernel) (by decide +kernel)
theorem wCD_X12_readRule : Cond.code yX12_readRule cX12_readRule 6 none ∈ jT := jT_in (i := 1522) (by decide +kernel) (by decide +kernel)
theorem wCD_X12_readWay : Cond.code yX12_readWay cX12_readWay 5 none ∈ jT := jT_in (i := 1566) (by decide +kernel) (by decide +kernel)
theorem wCD_X12_reads : Cond.code yX12_reads cX12_reads 5 (some .int) ∈ jT := jT_in (i := 1530) (by decide +kernel) (by decide +kernel)
theorem wCD_X12_restore : Cond.code yX12_restore cX12_restore 2 (some .int) ∈ jT := jT_in (i := 1856) (by decide +kernel) (by decide +kernel)
theorem wCD_X12_row : Cond.code yX12_row cX12_row 5 (some .int) ∈ jT := jT_in (i := 1824) (by decide +kernel) (by decide +kernel)
theorem wCD_X12_said : Cond.code yX12_said cX12_said 10 (some .long) ∈ jT := jT_in (i := 1609) (by decide +kernel) (by decide +kernel)
theorem wCD_X12_say : Cond.code yX12_say cX12_say 3 (some .int) ∈ jT := jT_in (i := 1840) (by decide +kernel) (by decide +kernel)
theorem wCD_X12_saying : Cond.code yX12_saying cX12_saying 6 (some .int) ∈ jT := jT_in (i := 1820) (by decide +kernel) (by decide +kernel)
theorem wCD_X12_says : Cond.code yX12_says cX12_says 5 (some .int) ∈ jT := jT_in (i := 1804) (by decide +kernel) (by decide +kernel)
theorem wCD_X12_see : Cond.code yX12_see cX12_see 2 (some .int) ∈ jT := jT_in (i := 1505) (by decide +kernel) (by decide +kernel)
theorem wCD_X12_share : Cond.code yX12_share cX12_share 3 (some .int) ∈ jT := jT_in (i := 1649) (by decide +kernel) (by decide +kernel)
theorem wCD_X12_side : Cond.code yX12_side cX12_side 6 (some .int) ∈ jT := jT_in (i := 1526) (by decide +kernel) (by decide +kernel)
theorem wCD_X12_smooth : Cond.code yX12_smooth cX12_smooth 8 (some .long) ∈ jT := jT_in (i := 1580) (by decide +kernel) (by decide +kernel)
theorem wCD_X12_smoothed : Cond.code yX12_smoothed cX12_smoothed 4 (some .long) ∈ jT := jT_in (i := 1576) (by decide +kernel) (by decide +kernel)
theorem wCD_X12_smooths : Cond.code yX12_smooths cX12_smooths 3 none ∈ jT := jT_in (i := 1617) (by decide +kernel) (by decide +kernel)
theorem wCD_X12_span : Cond.code yX12_span cX12_span 2 (some .int) ∈ jT := jT_in (i := 1657) (by decide +kernel) (by decide +kernel)
theorem wCD_X12_stands : Cond.code yX12_stands cX12_stands 5 (some .int) ∈ jT := jT_in (i := 1596) (by decide +kernel) (by decide +kernel)
theorem wCD_X12_status : Cond.code yX12_status cX12_status 2 (some .int) ∈ jT := jT_in (i := 1860) (by decide +kernel) (by decide +kernel)
theorem wCD_X12_test : Cond.code yX12_test cX12_test 1 none ∈ jT := jT_in (i := 1550) (by decide +kernel) (by decide +kernel)
theorem wCD_X12_text : Cond.code yX12_text cX12_text 4 (some .int) ∈ jT := jT_in (i := 1497) (by decide +kernel) (by decide +kernel)
theorem wCD_X12_told : Cond.code yX12_told cX12_told 9 (some .int) ∈ jT := jT_in (i := 1600) (by decide +kernel) (by decide +kernel)
theorem wCD_X12_version : Cond.code yX12_version cX12_version 8 (some .int) ∈ jT := jT_in (i := 1709) (by decide +kernel) (by decide +kernel)
theorem wCD_X12_weightOf : Cond.code yX12_weightOf cX12_weightOf 4 (some .int) ∈ jT := jT_in (i := 1816) (by decide +kernel) (by decide +kernel)
theorem wCD_X12_which : Cond.code yX12_which cX12_which 7 (some .int) ∈ jT := jT_in (i := 1713) (by decide +kernel) (by decide +kernel)
theorem wCD_X12_whose : Cond.code yX12_whose cX12_whose 4 (some .int) ∈ jT := jT_in (i := 1613) (by decide +kernel) (by decide +kernel)
theorem wCD_X12_whoseIs : Cond.code yX12_whoseIs cX12_whoseIs 4 (some .int) ∈ jT := jT_in (i := 1625) (by decide +kernel) (by decide +kernel)
theorem wCD_X12_within : Cond.code yX12_within cX12_within 6 (some .boolean) ∈ jT := jT_in (i := 1439) (by decide +kernel) (by decide +kernel)
theorem wCD_X12_wordAt : Cond.code yX12_wordAt cX12_wordAt 3 (some .int) ∈ jT := jT_in (i := 1461) (by decide +kernel) (by decide +kernel)
theorem wCD_X12_words : Cond.code yX12_words cX12_words 4 (some .long) ∈ jT := jT_in (i := 1477) (by decide +kernel) (by decide +kernel)
theorem wCD_X12_world : Cond.code yX12_world cX12_world 3 (some .int) ∈ jT := jT_in (i := 1800) (by decide +kernel) (by decide +kernel)
theorem wCD_X12_write : Cond.code yX12_write cX12_write 5 (some .long) ∈ jT := jT_in (i := 1829) (by decide +kernel) (by decide +kernel)
theorem wCD_X12_year : Cond.code yX12_year cX12_year 4 (some .int) ∈ jT := jT_in (i := 1704) (by decide +kernel) (by decide +kernel)
theorem wCD_X1_clear : Cond.code yX1_clear cX1_clear 1 none ∈ jT := jT_in (i := 778) (by decide +kernel) (by decide +kernel)
theorem wCD_X1_copy : Cond.code yX1_copy cX1_copy 2 none ∈ jT := jT_in (i := 852) (by decide +kernel) (by decide +kernel)
theorem wCD_X1_emit : Cond.code yX1_emit cX1_emit 3 none ∈ jT := jT_in (i := 819) (by decide +kernel) (by decide +kernel)
theorem wCD_X1_holds : Cond.code yX1_holds cX1_holds 8 (some .boolean) ∈ jT := jT_in (i := 602) (by decide +kernel) (by decide +kernel)
theorem wCD_X1_put : Cond.code yX1_put cX1_put 6 none ∈ jT := jT_in (i := 823) (by decide +kernel) (by decide +kernel)
theorem wCD_X1_replaced : Cond.code yX1_replaced cX1_replaced 10 (some .long) ∈ jT := jT_in (i := 615) (by decide +kernel) (by decide +kernel)
theorem wCD_X1_smooth : Cond.code yX1_smooth cX1_smooth 9 (some .long) ∈ jT := jT_in (i := 594) (by decide +kernel) (by decide +kernel)
theorem wCD_X1_step : Cond.code yX1_step cX1_step 7 (some .long) ∈ jT := jT_in (i := 598) (by decide +kernel) (by decide +kernel)
theorem wCD_X1_taken : Cond.code yX1_taken cX1_taken 7 (some .long) ∈ jT := jT_in (i := 606) (by decide +kernel) (by decide +kernel)
theorem wCD_X2_addsOf : Cond.code yX2_addsOf cX2_addsOf 6 (some .int) ∈ jT := jT_in (i := 1002) (by decide +kernel) (by decide +kernel)
theorem wCD_X2_bookHasLike : Cond.code yX2_bookHasLike cX2_bookHasLike 6 (some .boolean) ∈ jT := jT_in (i := 990) (by decide +kernel) (by decide +kernel)
theorem wCD_X2_countKinds : Cond.code yX2_countKinds cX2_countKinds 2 none ∈ jT := jT_in (i := 940) (by decide +kernel) (by decide +kernel)
theorem wCD_X2_fraction : Cond.code yX2_fraction cX2_fraction 7 (some .long) ∈ jT := jT_in (i := 968) (by decide +kernel) (by decide +kernel)
theorem wCD_X2_greatestCommon : Cond.code yX2_greatestCommon cX2_greatestCommon 11 (some .long) ∈ jT := jT_in (i := 971) (by decide +kernel) (by decide +kernel)
theorem wCD_X2_isAmong : Cond.code yX2_isAmong cX2_isAmong 4 (some .boolean) ∈ jT := jT_in (i := 919) (by decide +kernel) (by decide +kernel)
theorem wCD_X2_isBack : Cond.code yX2_isBack cX2_isBack 4 (some .boolean) ∈ jT := jT_in (i := 1059) (by decide +kernel) (by decide +kernel)
theorem wCD_X2_isCounted : Cond.code yX2_isCounted cX2_isCounted 3 (some .boolean) ∈ jT := jT_in (i := 1098) (by decide +kernel) (by decide +kernel)
theorem wCD_X2_isMuddled : Cond.code yX2_isMuddled cX2_isMuddled 4 (some .boolean) ∈ jT := jT_in (i := 1089) (by decide +kernel) (by decide +kernel)
theorem wCD_X2_look : Cond.code yX2_look cX2_look 8 none ∈ jT := jT_in (i := 905) (by decide +kernel) (by decide +kernel)
theorem wCD_X2_matchesOf : Cond.code yX2_matchesOf cX2_matchesOf 5 (some .int) ∈ jT := jT_in (i := 986) (by decide +kernel) (by decide +kernel)
theorem wCD_X2_muddledAt : Cond.code yX2_muddledAt cX2_muddledAt 4 (some .int) ∈ jT := jT_in (i := 1085) (by decide +kernel) (by decide +kernel)
theorem wCD_X2_nearest : Cond.code yX2_nearest cX2_nearest 11 (some .int) ∈ jT := jT_in (i := 911) (by decide +kernel) (by decide +kernel)
theorem wCD_X2_pairs : Cond.code yX2_pairs cX2_pairs 5 (some .int) ∈ jT := jT_in (i := 965) (by decide +kernel) (by decide +kernel)
theorem wCD_X2_pairsBy : Cond.code yX2_pairsBy cX2_pairsBy 7 (some .int) ∈ jT := jT_in (i := 957) (by decide +kernel) (by decide +kernel)
theorem wCD_X2_partedBy : Cond.code yX2_partedBy cX2_partedBy 5 (some .int) ∈ jT := jT_in (i := 1072) (by decide +kernel) (by decide +kernel)
theorem wCD_X2_pileOf : Cond.code yX2_pileOf cX2_pileOf 2 (some (.object "NobodysBard$Pile")) ∈ jT := jT_in (i := 915) (by decide +kernel) (by decide +kernel)
theorem wCD_X2_printedLike : Cond.code yX2_printedLike cX2_printedLike 6 (some .int) ∈ jT := jT_in (i := 961) (by decide +kernel) (by decide +kernel)
theorem wCD_X2_wouldBeTheirs : Cond.code yX2_wouldBeTheirs cX2_wouldBeTheirs 5 (some .boolean) ∈ jT := jT_in (i := 1007) (by decide +kernel) (by decide +kernel)
theorem wCD_X3_clear : Cond.code yX3_clear cX3_clear 1 none ∈ jT := jT_in (i := 831) (by decide +kernel) (by decide +kernel)
theorem wCD_X3_copy : Cond.code yX3_copy cX3_copy 2 none ∈ jT := jT_in (i := 860) (by decide +kernel) (by decide +kernel)
theorem wCD_X3_drawn : Cond.code yX3_drawn cX3_drawn 1 (some .int) ∈ jT := jT_in (i := 885) (by decide +kernel) (by decide +kernel)
theorem wCD_X3_next : Cond.code yX3_next cX3_next 1 (some .int) ∈ jT := jT_in (i := 881) (by decide +kernel) (by decide +kernel)
theorem wCD_X3_putChance : Cond.code yX3_putChance cX3_putChance 3 none ∈ jT := jT_in (i := 844) (by decide +kernel) (by decide +kernel)
theorem wCD_X3_putSaying : Cond.code yX3_putSaying cX3_putSaying 3 none ∈ jT := jT_in (i := 840) (by decide +kernel) (by decide +kernel)
theorem wCD_X3_respoken : Cond.code yX3_respoken cX3_respoken 8 (some .long) ∈ jT := jT_in (i := 889) (by decide +kernel) (by decide +kernel)
theorem wCD_X4_alike : Cond.code yX4_alike cX4_alike 5 (some .int) ∈ jT := jT_in (i := 653) (by decide +kernel) (by decide +kernel)
theorem wCD_X4_behind : Cond.code yX4_behind cX4_behind 3 (some .long) ∈ jT := jT_in (i := 622) (by decide +kernel) (by decide +kernel)
theorem wCD_X4_clean : Cond.code yX4_clean cX4_clean 2 (some .long) ∈ jT := jT_in (i := 565) (by decide +kernel) (by decide +kernel)
theorem wCD_X4_common : Cond.code yX4_common cX4_common 9 (some .int) ∈ jT := jT_in (i := 657) (by decide +kernel) (by decide +kernel)
theorem wCD_X4_head : Cond.code yX4_head cX4_head 3 (some .long) ∈ jT := jT_in (i := 574) (by decide +kernel) (by decide +kernel)
theorem wCD_X4_length : Cond.code yX4_length cX4_length 3 (some .int) ∈ jT := jT_in (i := 568) (by decide +kernel) (by decide +kernel)
theorem wCD_X4_places : Cond.code yX4_places cX4_places 7 (some .int) ∈ jT := jT_in (i := 610) (by decide +kernel) (by decide +kernel)
theorem wCD_X4_without : Cond.code yX4_without cX4_without 3 (some .long) ∈ jT := jT_in (i := 618) (by decide +kernel) (by decide +kernel)
theorem wCD_X4_word : Cond.code yX4_word cX4_word 3 (some .int) ∈ jT := jT_in (i := 571) (by decide +kernel) (by decide +kernel)
theorem wCD_X5_at : Cond.code yX5_at cX5_at 3 (some .long) ∈ jT := jT_in (i := 645) (by decide +kernel) (by decide +kernel)
theorem wCD_X5_copy : Cond.code yX5_copy cX5_copy 2 none ∈ jT := jT_in (i := 1276) (by decide +kernel) (by decide +kernel)
theorem wCD_X5_has : Cond.code yX5_has cX5_has 2 (some .boolean) ∈ jT := jT_in (i := 562) (by decide +kernel) (by decide +kernel)
theorem wCD_X5_has_ : Cond.code yX5_has_ cX5_has_ 3 (some .boolean) ∈ jT := jT_in (i := 641) (by decide +kernel) (by decide +kernel)
theorem wCD_X5_isFull : Cond.code yX5_isFull cX5_isFull 1 (some .boolean) ∈ jT := jT_in (i := 343) (by decide +kernel) (by decide +kernel)
theorem wCD_X5_isFull_ : Cond.code yX5_isFull_ cX5_isFull_ 2 (some .boolean) ∈ jT := jT_in (i := 579) (by decide +kernel) (by decide +kernel)
theorem wCD_X5_put : Cond.code yX5_put cX5_put 6 (some .int) ∈ jT := jT_in (i := 589) (by decide +kernel) (by decide +kernel)
theorem wCD_X5_start : Cond.code yX5_start cX5_start 4 (some .int) ∈ jT := jT_in (i := 339) (by decide +kernel) (by decide +kernel)
theorem wCD_X6_blame : Cond.code yX6_blame cX6_blame 2 none ∈ jT := jT_in (i := 798) (by decide +kernel) (by decide +kernel)
theorem wCD_X6_endOfToken : Cond.code yX6_endOfToken cX6_endOfToken 5 (some .int) ∈ jT := jT_in (i := 686) (by decide +kernel) (by decide +kernel)
theorem wCD_X6_isAt : Cond.code yX6_isAt cX6_isAt 2 (some .boolean) ∈ jT := jT_in (i := 782) (by decide +kernel) (by decide +kernel)
theorem wCD_X6_isDigit : Cond.code yX6_isDigit cX6_isDigit 1 (some .boolean) ∈ jT := jT_in (i := 692) (by decide +kernel) (by decide +kernel)
theorem wCD_X6_isLetter : Cond.code yX6_isLetter cX6_isLetter 1 (some .boolean) ∈ jT := jT_in (i := 689) (by decide +kernel) (by decide +kernel)
theorem wCD_X6_kindOf : Cond.code yX6_kindOf cX6_kindOf 4 (some .int) ∈ jT := jT_in (i := 696) (by decide +kernel) (by decide +kernel)
theorem wCD_X6_numberOf : Cond.code yX6_numberOf cX6_numberOf 5 (some .int) ∈ jT := jT_in (i := 766) (by decide +kernel) (by decide +kernel)
theorem wCD_X6_putToken : Cond.code yX6_putToken cX6_putToken 4 none ∈ jT := jT_in (i := 770) (by decide +kernel) (by decide +kernel)
theorem wCD_X6_readFact : Cond.code yX6_readFact cX6_readFact 2 none ∈ jT := jT_in (i := 811) (by decide +kernel) (by decide +kernel)
theorem wCD_X6_readFashion : Cond.code yX6_readFashion cX6_readFashion 2 none ∈ jT := jT_in (i := 774) (by decide +kernel) (by decide +kernel)
theorem wCD_X6_readLaw : Cond.code yX6_readLaw cX6_readLaw 2 none ∈ jT := jT_in (i := 827) (by decide +kernel) (by decide +kernel)
theorem wCD_X6_readNumber : Cond.code yX6_readNumber cX6_readNumber 5 (some .int) ∈ jT := jT_in (i := 794) (by decide +kernel) (by decide +kernel)
theorem wCD_X6_readPlainFact : Cond.code yX6_readPlainFact cX6_readPlainFact 4 none ∈ jT := jT_in (i := 815) (by decide +kernel) (by decide +kernel)
theorem wCD_X6_readRule : Cond.code yX6_readRule cX6_readRule 6 none ∈ jT := jT_in (i := 786) (by decide +kernel) (by decide +kernel)
theorem wCD_X6_readSide : Cond.code yX6_readSide cX6_readSide 6 (some .long) ∈ jT := jT_in (i := 790) (by decide +kernel) (by decide +kernel)
theorem wCD_X6_readTest : Cond.code yX6_readTest cX6_readTest 4 none ∈ jT := jT_in (i := 807) (by decide +kernel) (by decide +kernel)
theorem wCD_X6_readWay : Cond.code yX6_readWay cX6_readWay 3 none ∈ jT := jT_in (i := 836) (by decide +kernel) (by decide +kernel)
theorem wCD_X6_scan : Cond.code yX6_scan cX6_scan 6 none ∈ jT := jT_in (i := 680) (by decide +kernel) (by decide +kernel)
theorem wCD_X6_spells : Cond.code yX6_spells cX6_spells 5 (some .boolean) ∈ jT := jT_in (i := 703) (by decide +kernel) (by decide +kernel)
theorem wCD_X6_take : Cond.code yX6_take cX6_take 2 none ∈ jT := jT_in (i := 803) (by decide +kernel) (by decide +kernel)
theorem wCD_X6_wordKind : Cond.code yX6_wordKind cX6_wordKind 3 (some .int) ∈ jT := jT_in (i := 699) (by decide +kernel) (by decide +kernel)
theorem wCD_X7_at : Cond.code yX7_at cX7_at 3 (some .long) ∈ jT := jT_in (i := 1248) (by decide +kernel) (by decide +kernel)
theorem wCD_X7_canBe : Cond.code yX7_canBe cX7_canBe 2 (some .boolean) ∈ jT := jT_in (i := 1217) (by decide +kernel) (by decide +kernel)
theorem wCD_X7_cut : Cond.code yX7_cut cX7_cut 3 (some .long) ∈ jT := jT_in (i := 1240) (by decide +kernel) (by decide +kernel)
theorem wCD_X7_lay : Cond.code yX7_lay cX7_lay 4 none ∈ jT := jT_in (i := 1222) (by decide +kernel) (by decide +kernel)
theorem wCD_X7_put : Cond.code yX7_put cX7_put 7 (some .long) ∈ jT := jT_in (i := 1237) (by decide +kernel) (by decide +kernel)
theorem wCD_X8_copy : Cond.code yX8_copy cX8_copy 2 none ∈ jT := jT_in (i := 1272) (by decide +kernel) (by decide +kernel)
theorem wCD_X8_follow : Cond.code yX8_follow cX8_follow 4 none ∈ jT := jT_in (i := 848) (by decide +kernel) (by decide +kernel)
theorem wCD_X8_hasEarly : Cond.code yX8_hasEarly cX8_hasEarly 2 (some .boolean) ∈ jT := jT_in (i := 1259) (by decide +kernel) (by decide +kernel)
theorem wCD_X8_hasWordAfter : Cond.code yX8_hasWordAfter cX8_hasWordAfter 5 (some .boolean) ∈ jT := jT_in (i := 1028) (by decide +kernel) (by decide +kernel)
theorem wCD_X8_isEarly : Cond.code yX8_isEarly cX8_isEarly 2 (some .boolean) ∈ jT := jT_in (i := 923) (by decide +kernel) (by decide +kernel)
theorem wCD_X8_moveAbout : Cond.code yX8_moveAbout cX8_moveAbout 8 none ∈ jT := jT_in (i := 894) (by decide +kernel) (by decide +kernel)
theorem wCD_X8_pile : Cond.code yX8_pile cX8_pile 2 (some (.object "NobodysBard$Pile")) ∈ jT := jT_in (i := 551) (by decide +kernel) (by decide +kernel)
theorem wCD_X8_putIntoSong : Cond.code yX8_putIntoSong cX8_putIntoSong 5 (some .int) ∈ jT := jT_in (i := 584) (by decide +kernel) (by decide +kernel)
theorem wCD_X8_tellOn : Cond.code yX8_tellOn cX8_tellOn 9 (some .int) ∈ jT := jT_in (i := 878) (by decide +kernel) (by decide +kernel)
theorem wCD_X9_allPaid : Cond.code yX9_allPaid cX9_allPaid 3 (some .int) ∈ jT := jT_in (i := 1124) (by decide +kernel) (by decide +kernel)
theorem wCD_X9_copy : Cond.code yX9_copy cX9_copy 2 none ∈ jT := jT_in (i := 1288) (by decide +kernel) (by decide +kernel)
theorem wCD_X9_fill : Cond.code yX9_fill cX9_fill 3 (some .int) ∈ jT := jT_in (i := 1116) (by decide +kernel) (by decide +kernel)
theorem wCD_X9_firstSpanEndingFrom : Cond.code yX9_firstSpanEndingFrom cX9_firstSpanEndingFrom 4 (some .int) ∈ jT := jT_in (i := 1156) (by decide +kernel) (by decide +kernel)
theorem wCD_X9_freeUpTo : Cond.code yX9_freeUpTo cX9_freeUpTo 8 (some .int) ∈ jT := jT_in (i := 1152) (by decide +kernel) (by decide +kernel)
theorem wCD_X9_leastRate : Cond.code yX9_leastRate cX9_leastRate 5 (some .int) ∈ jT := jT_in (i := 1148) (by decide +kernel) (by decide +kernel)
theorem wCD_X9_leave : Cond.code yX9_leave cX9_leave 3 (some .int) ∈ jT := jT_in (i := 1140) (by decide +kernel) (by decide +kernel)
theorem wCD_X9_moreBy : Cond.code yX9_moreBy cX9_moreBy 5 (some .int) ∈ jT := jT_in (i := 1128) (by decide +kernel) (by decide +kernel)
theorem wCD_X9_pagesOf : Cond.code yX9_pagesOf cX9_pagesOf 5 (some .int) ∈ jT := jT_in (i := 1132) (by decide +kernel) (by decide +kernel)
theorem wCD_X9_pay : Cond.code yX9_pay cX9_pay 3 (some .int) ∈ jT := jT_in (i := 1107) (by decide +kernel) (by decide +kernel)
theorem wST_J0_checkIndex_df160 : Cond.static yJ0_checkIndex_df160 ∈ jT := jT_in (i := 726) (by decide +kernel) (by decide +kernel)
theorem wST_J1_charAt_3b067 : Cond.static yJ1_charAt_3b067 ∈ jT := jT_in (i := 723) (by decide +kernel) (by decide +kernel)
theorem wST_J3_checkIndex_8e157 : Cond.static yJ3_checkIndex_8e157 ∈ jT := jT_in (i := 731) (by decide +kernel) (by decide +kernel)
theorem wST_J6_bitCount_0f7a4 : Cond.static yJ6_bitCount_0f7a4 ∈ jT := jT_in (i := 660) (by decide +kernel) (by decide +kernel)
theorem wST_J7_fill_53178 : Cond.static yJ7_fill_53178 ∈ jT := jT_in (i := 440) (by decide +kernel) (by decide +kernel)
theorem wST_J7_fill_bad5a : Cond.static yJ7_fill_bad5a ∈ jT := jT_in (i := 1225) (by decide +kernel) (by decide +kernel)
theorem wST_J7_rangeCheck_23922 : Cond.static yJ7_rangeCheck_23922 ∈ jT := jT_in (i := 1228) (by decide +kernel) (by decide +kernel)
theorem wST_X0_greatest : Cond.static yX0_greatest ∈ jT := jT_in (i := 1250) (by decide +kernel) (by decide +kernel)
theorem wST_X11_isBound : Cond.static yX11_isBound ∈ jT := jT_in (i := 952) (by decide +kernel) (by decide +kernel)
theorem wST_X11_isGlenAndDay : Cond.static yX11_isGlenAndDay ∈ jT := jT_in (i := 544) (by decide +kernel) (by decide +kernel)
theorem wST_X11_isHalf : Cond.static yX11_isHalf ∈ jT := jT_in (i := 900) (by decide +kernel) (by decide +kernel)
theorem wST_X11_linesOf : Cond.static yX11_linesOf ∈ jT := jT_in (i := 1310) (by decide +kernel) (by decide +kernel)
theorem wST_X11_within : Cond.static yX11_within ∈ jT := jT_in (i := 541) (by decide +kernel) (by decide +kernel)
theorem wST_X12_common : Cond.static yX12_common ∈ jT := jT_in (i := 1670) (by decide +kernel) (by decide +kernel)
theorem wST_X12_cut : Cond.static yX12_cut ∈ jT := jT_in (i := 1831) (by decide +kernel) (by decide +kernel)
theorem wST_X12_isAnswer : Cond.static yX12_isAnswer ∈ jT := jT_in (i := 1719) (by decide +kernel) (by decide +kernel)
theorem wST_X12_isDigit : Cond.static yX12_isDigit ∈ jT := jT_in (i := 1517) (by decide +kernel) (by decide +kernel)
theorem wST_X12_isSmall : Cond.static yX12_isSmall ∈ jT := jT_in (i := 1507) (by decide +kernel) (by decide +kernel)
theorem wST_X12_lengthOf : Cond.static yX12_lengthOf ∈ jT := jT_in (i := 1457) (by decide +kernel) (by decide +kernel)
theorem wST_X12_part : Cond.static yX12_part ∈ jT := jT_in (i := 1667) (by decide +kernel) (by decide +kernel)
theorem wST_X12_plain : Cond.static yX12_plain ∈ jT := jT_in (i := 1463) (by decide +kernel) (by decide +kernel)
theorem wST_X12_within : Cond.static yX12_within ∈ jT := jT_in (i := 1438) (by decide +kernel) (by decide +kernel)
theorem wST_X12_wordAt : Cond.static yX12_wordAt ∈ jT := jT_in (i := 1460) (by decide +kernel) (by decide +kernel)
theorem wST_X2_fraction : Cond.static yX2_fraction ∈ jT := jT_in (i := 967) (by decide +kernel) (by decide +kernel)
theorem wST_X2_greatestCommon : Cond.static yX2_greatestCommon ∈ jT := jT_in (i := 970) (by decide +kernel) (by decide +kernel)
theorem wST_X3_drawn : Cond.static yX3_drawn ∈ jT := jT_in (i := 884) (by decide +kernel) (by decide +kernel)
theorem wST_X3_next : Cond.static yX3_next ∈ jT := jT_in (i := 880) (by decide +kernel) (by decide +kernel)
theorem wST_X4_alike : Cond.static yX4_alike ∈ jT := jT_in (i := 652) (by decide +kernel) (by decide +kernel)
theorem wST_X4_behind : Cond.static yX4_behind ∈ jT := jT_in (i := 621) (by decide +kernel) (by decide +kernel)
theorem wST_X4_clean : Cond.static yX4_clean ∈ jT := jT_in (i := 564) (by decide +kernel) (by decide +kernel)
theorem wST_X4_common : Cond.static yX4_common ∈ jT := jT_in (i := 656) (by decide +kernel) (by decide +kernel)
theorem wST_X4_head : Cond.static yX4_head ∈ jT := jT_in (i := 573) (by decide +kernel) (by decide +kernel)
theorem wST_X4_length : Cond.static yX4_length ∈ jT := jT_in (i := 567) (by decide +kernel) (by decide +kernel)
theorem wST_X4_places : Cond.static yX4_places ∈ jT := jT_in (i := 609) (by decide +kernel) (by decide +kernel)
theorem wST_X4_without : Cond.static yX4_without ∈ jT := jT_in (i := 617) (by decide +kernel) (by decide +kernel)
theorem wST_X4_word : Cond.static yX4_word ∈ jT := jT_in (i := 570) (by decide +kernel) (by decide +kernel)
theorem wST_X6_endOfToken : Cond.static yX6_endOfToken ∈ jT := jT_in (i := 685) (by decide +kernel) (by decide +kernel)
theorem wST_X6_isDigit : Cond.static yX6_isDigit ∈ jT := jT_in (i := 691) (by decide +kernel) (by decide +kernel)
theorem wST_X6_isLetter : Cond.static yX6_isLetter ∈ jT := jT_in (i := 688) (by decide +kernel) (by decide +kernel)
theorem wST_X6_kindOf : Cond.static yX6_kindOf ∈ jT := jT_in (i := 695) (by decide +kernel) (by decide +kernel)
theorem wST_X6_numberOf : Cond.static yX6_numberOf ∈ jT := jT_in (i := 765) (by decide +kernel) (by decide +kernel)
theorem wST_X6_spells : Cond.static yX6_spells ∈ jT := jT_in (i := 702) (by decide +kernel) (by decide +kernel)
theorem wST_X6_wordKind : Cond.static yX6_wordKind ∈ jT := jT_in (i := 698) (by decide +kernel) (by decide +kernel)
theorem wST_X7_cut : Cond.static yX7_cut ∈ jT := jT_in (i := 1239) (by decide +kernel) (by decide +kernel)
theorem wIM_J0_charAt_5068e : Cond.instanceMethod yJ0_charAt_5068e ∈ jT := jT_in (i := 715) (by decide +kernel) (by decide +kernel)
theorem wSE_J0_charAt_5068e : Cond.selects yJ0_charAt_5068e.cls yJ0_charAt_5068e yJ0_charAt_5068e ∈ jT := jT_in (i := 716) (by decide +kernel) (by decide +kernel)
theorem wIM_J0_coder_7d493 : Cond.instanceMethod yJ0_coder_7d493 ∈ jT := jT_in (i := 709) (by decide +kernel) (by decide +kernel)
theorem wSE_J0_coder_7d493 : Cond.selects yJ0_coder_7d493.cls yJ0_coder_7d493 yJ0_coder_7d493 ∈ jT := jT_in (i := 710) (by decide +kernel) (by decide +kernel)
theorem wIM_J0_isLatin1_aae02 : Cond.instanceMethod yJ0_isLatin1_aae02 ∈ jT := jT_in (i := 719) (by decide +kernel) (by decide +kernel)
theorem wSE_J0_isLatin1_aae02 : Cond.selects yJ0_isLatin1_aae02.cls yJ0_isLatin1_aae02 yJ0_isLatin1_aae02 ∈ jT := jT_in (i := 720) (by decide +kernel) (by decide +kernel)
theorem wIM_J0_length_8abf5 : Cond.instanceMethod yJ0_length_8abf5 ∈ jT := jT_in (i := 705) (by decide +kernel) (by decide +kernel)
theorem wSE_J0_length_8abf5 : Cond.selects yJ0_length_8abf5.cls yJ0_length_8abf5 yJ0_length_8abf5 ∈ jT := jT_in (i := 706) (by decide +kernel) (by decide +kernel)
theorem wIM_X0_copy : Cond.instanceMethod yX0_copy ∈ jT := jT_in (i := 1281) (by decide +kernel) (by decide +kernel)
theorem wSE_X0_copy : Cond.selects yX0_copy.cls yX0_copy yX0_copy ∈ jT := jT_in (i := 1282) (by decide +kernel) (by decide +kernel)
theorem wIM_X0_has : Cond.instanceMethod yX0_has ∈ jT := jT_in (i := 1048) (by decide +kernel) (by decide +kernel)
theorem wSE_X0_has : Cond.selects yX0_has.cls yX0_has yX0_has ∈ jT := jT_in (i := 1049) (by decide +kernel) (by decide +kernel)
theorem wIM_X0_hear : Cond.instanceMethod yX0_hear ∈ jT := jT_in (i := 1044) (by decide +kernel) (by decide +kernel)
theorem wSE_X0_hear : Cond.selects yX0_hear.cls yX0_hear yX0_hear ∈ jT := jT_in (i := 1045) (by decide +kernel) (by decide +kernel)
theorem wIM_X0_heard : Cond.instanceMethod yX0_heard ∈ jT := jT_in (i := 1074) (by decide +kernel) (by decide +kernel)
theorem wSE_X0_heard : Cond.selects yX0_heard.cls yX0_heard yX0_heard ∈ jT := jT_in (i := 1075) (by decide +kernel) (by decide +kernel)
theorem wIM_X0_room : Cond.instanceMethod yX0_room ∈ jT := jT_in (i := 1036) (by decide +kernel) (by decide +kernel)
theorem wSE_X0_room : Cond.selects yX0_room.cls yX0_room yX0_room ∈ jT := jT_in (i := 1037) (by decide +kernel) (by decide +kernel)
theorem wIM_X0_start : Cond.instanceMethod yX0_start ∈ jT := jT_in (i := 1040) (by decide +kernel) (by decide +kernel)
theorem wSE_X0_start : Cond.selects yX0_start.cls yX0_start yX0_start ∈ jT := jT_in (i := 1041) (by decide +kernel) (by decide +kernel)
theorem wIM_X10_copy : Cond.instanceMethod yX10_copy ∈ jT := jT_in (i := 1291) (by decide +kernel) (by decide +kernel)
theorem wSE_X10_copy : Cond.selects yX10_copy.cls yX10_copy yX10_copy ∈ jT := jT_in (i := 1292) (by decide +kernel) (by decide +kernel)
theorem wIM_X10_costOfParts : Cond.instanceMethod yX10_costOfParts ∈ jT := jT_in (i := 1208) (by decide +kernel) (by decide +kernel)
theorem wSE_X10_costOfParts : Cond.selects yX10_costOfParts.cls yX10_costOfParts yX10_costOfParts ∈ jT := jT_in (i := 30) (by decide +kernel) (by decide +kernel)
theorem wIM_X10_gatherSayings : Cond.instanceMethod yX10_gatherSayings ∈ jT := jT_in (i := 1195) (by decide +kernel) (by decide +kernel)
theorem wSE_X10_gatherSayings : Cond.selects yX10_gatherSayings.cls yX10_gatherSayings yX10_gatherSayings ∈ jT := jT_in (i := 27) (by decide +kernel) (by decide +kernel)
theorem wIM_X10_has : Cond.instanceMethod yX10_has ∈ jT := jT_in (i := 1172) (by decide +kernel) (by decide +kernel)
theorem wSE_X10_has : Cond.selects yX10_has.cls yX10_has yX10_has ∈ jT := jT_in (i := 1173) (by decide +kernel) (by decide +kernel)
theorem wIM_X10_hasAll : Cond.instanceMethod yX10_hasAll ∈ jT := jT_in (i := 1185) (by decide +kernel) (by decide +kernel)
theorem wSE_X10_hasAll : Cond.selects yX10_hasAll.cls yX10_hasAll yX10_hasAll ∈ jT := jT_in (i := 1186) (by decide +kernel) (by decide +kernel)
theorem wIM_X10_start : Cond.instanceMethod yX10_start ∈ jT := jT_in (i := 1164) (by decide +kernel) (by decide +kernel)
theorem wSE_X10_start : Cond.selects yX10_start.cls yX10_start yX10_start ∈ jT := jT_in (i := 1165) (by decide +kernel) (by decide +kernel)
theorem wIM_X10_tell : Cond.instanceMethod yX10_tell ∈ jT := jT_in (i := 1176) (by decide +kernel) (by decide +kernel)
theorem wSE_X10_tell : Cond.selects yX10_tell.cls yX10_tell yX10_tell ∈ jT := jT_in (i := 1177) (by decide +kernel) (by decide +kernel)
theorem wIM_X10_weigh : Cond.instanceMethod yX10_weigh ∈ jT := jT_in (i := 1189) (by decide +kernel) (by decide +kernel)
theorem wSE_X10_weigh : Cond.selects yX10_weigh.cls yX10_weigh yX10_weigh ∈ jT := jT_in (i := 1190) (by decide +kernel) (by decide +kernel)
theorem wIM_X10_weighOne : Cond.instanceMethod yX10_weighOne ∈ jT := jT_in (i := 1200) (by decide +kernel) (by decide +kernel)
theorem wSE_X10_weighOne : Cond.selects yX10_weighOne.cls yX10_weighOne yX10_weighOne ∈ jT := jT_in (i := 28) (by decide +kernel) (by decide +kernel)
theorem wIM_X10_weightOf : Cond.instanceMethod yX10_weightOf ∈ jT := jT_in (i := 1204) (by decide +kernel) (by decide +kernel)
theorem wSE_X10_weightOf : Cond.selects yX10_weightOf.cls yX10_weightOf yX10_weightOf ∈ jT := jT_in (i := 29) (by decide +kernel) (by decide +kernel)
theorem wIM_X11_feedInt : Cond.instanceMethod yX11_feedInt ∈ jT := jT_in (i := 671) (by decide +kernel) (by decide +kernel)
theorem wSE_X11_feedInt : Cond.selects yX11_feedInt.cls yX11_feedInt yX11_feedInt ∈ jT := jT_in (i := 5) (by decide +kernel) (by decide +kernel)
theorem wIM_X11_imageAt : Cond.instanceMethod yX11_imageAt ∈ jT := jT_in (i := 1267) (by decide +kernel) (by decide +kernel)
theorem wSE_X11_imageAt : Cond.selects yX11_imageAt.cls yX11_imageAt yX11_imageAt ∈ jT := jT_in (i := 31) (by decide +kernel) (by decide +kernel)
theorem wIM_X11_refuse : Cond.instanceMethod yX11_refuse ∈ jT := jT_in (i := 536) (by decide +kernel) (by decide +kernel)
theorem wSE_X11_refuse : Cond.selects yX11_refuse.cls yX11_refuse yX11_refuse ∈ jT := jT_in (i := 0) (by decide +kernel) (by decide +kernel)
theorem wIM_X12_addsBy : Cond.instanceMethod yX12_addsBy ∈ jT := jT_in (i := 1695) (by decide +kernel) (by decide +kernel)
theorem wSE_X12_addsBy : Cond.selects yX12_addsBy.cls yX12_addsBy yX12_addsBy ∈ jT := jT_in (i := 68) (by decide +kernel) (by decide +kernel)
theorem wIM_X12_answers : Cond.instanceMethod yX12_answers ∈ jT := jT_in (i := 1723) (by decide +kernel) (by decide +kernel)
theorem wSE_X12_answers : Cond.selects yX12_answers.cls yX12_answers yX12_answers ∈ jT := jT_in (i := 69) (by decide +kernel) (by decide +kernel)
theorem wIM_X12_best : Cond.instanceMethod yX12_best ∈ jT := jT_in (i := 1628) (by decide +kernel) (by decide +kernel)
theorem wSE_X12_best : Cond.selects yX12_best.cls yX12_best yX12_best ∈ jT := jT_in (i := 61) (by decide +kernel) (by decide +kernel)
theorem wIM_X12_copies : Cond.instanceMethod yX12_copies ∈ jT := jT_in (i := 1851) (by decide +kernel) (by decide +kernel)
theorem wSE_X12_copies : Cond.selects yX12_copies.cls yX12_copies yX12_copies ∈ jT := jT_in (i := 81) (by decide +kernel) (by decide +kernel)
theorem wIM_X12_costBy : Cond.instanceMethod yX12_costBy ∈ jT := jT_in (i := 1811) (by decide +kernel) (by decide +kernel)
theorem wSE_X12_costBy : Cond.selects yX12_costBy.cls yX12_costBy yX12_costBy ∈ jT := jT_in (i := 77) (by decide +kernel) (by decide +kernel)
theorem wIM_X12_counts : Cond.instanceMethod yX12_counts ∈ jT := jT_in (i := 1652) (by decide +kernel) (by decide +kernel)
theorem wSE_X12_counts : Cond.selects yX12_counts.cls yX12_counts yX12_counts ∈ jT := jT_in (i := 65) (by decide +kernel) (by decide +kernel)
theorem wIM_X12_does : Cond.instanceMethod yX12_does ∈ jT := jT_in (i := 1583) (by decide +kernel) (by decide +kernel)
theorem wSE_X12_does : Cond.selects yX12_does.cls yX12_does yX12_does ∈ jT := jT_in (i := 52) (by decide +kernel) (by decide +kernel)
theorem wIM_X12_draw : Cond.instanceMethod yX12_draw ∈ jT := jT_in (i := 1603) (by decide +kernel) (by decide +kernel)
theorem wSE_X12_draw : Cond.selects yX12_draw.cls yX12_draw yX12_draw ∈ jT := jT_in (i := 56) (by decide +kernel) (by decide +kernel)
theorem wIM_X12_eats : Cond.instanceMethod yX12_eats ∈ jT := jT_in (i := 1545) (by decide +kernel) (by decide +kernel)
theorem wSE_X12_eats : Cond.selects yX12_eats.cls yX12_eats yX12_eats ∈ jT := jT_in (i := 45) (by decide +kernel) (by decide +kernel)
theorem wIM_X12_emit : Cond.instanceMethod yX12_emit ∈ jT := jT_in (i := 1561) (by decide +kernel) (by decide +kernel)
theorem wSE_X12_emit : Cond.selects yX12_emit.cls yX12_emit yX12_emit ∈ jT := jT_in (i := 49) (by decide +kernel) (by decide +kernel)
theorem wIM_X12_fact : Cond.instanceMethod yX12_fact ∈ jT := jT_in (i := 1557) (by decide +kernel) (by decide +kernel)
theorem wSE_X12_fact : Cond.selects yX12_fact.cls yX12_fact yX12_fact ∈ jT := jT_in (i := 48) (by decide +kernel) (by decide +kernel)
theorem wIM_X12_fails : Cond.instanceMethod yX12_fails ∈ jT := jT_in (i := 1537) (by decide +kernel) (by decide +kernel)
theorem wSE_X12_fails : Cond.selects yX12_fails.cls yX12_fails yX12_fails ∈ jT := jT_in (i := 43) (by decide +kernel) (by decide +kernel)
theorem wIM_X12_freeUpTo : Cond.instanceMethod yX12_freeUpTo ∈ jT := jT_in (i := 1791) (by decide +kernel) (by decide +kernel)
theorem wSE_X12_freeUpTo : Cond.selects yX12_freeUpTo.cls yX12_freeUpTo yX12_freeUpTo ∈ jT := jT_in (i := 75) (by decide +kernel) (by decide +kernel)
theorem wIM_X12_hasWord : Cond.instanceMethod yX12_hasWord ∈ jT := jT_in (i := 1591) (by decide +kernel) (by decide +kernel)
theorem wSE_X12_hasWord : Cond.selects yX12_hasWord.cls yX12_hasWord yX12_hasWord ∈ jT := jT_in (i := 54) (by decide +kernel) (by decide +kernel)
theorem wIM_X12_holds : Cond.instanceMethod yX12_holds ∈ jT := jT_in (i := 1587) (by decide +kernel) (by decide +kernel)
theorem wSE_X12_holds : Cond.selects yX12_holds.cls yX12_holds yX12_holds ∈ jT := jT_in (i := 53) (by decide +kernel) (by decide +kernel)
theorem wIM_X12_is : Cond.instanceMethod yX12_is ∈ jT := jT_in (i := 1533) (by decide +kernel) (by decide +kernel)
theorem wSE_X12_is : Cond.selects yX12_is.cls yX12_is yX12_is ∈ jT := jT_in (i := 42) (by decide +kernel) (by decide +kernel)
theorem wIM_X12_isAnyEarly : Cond.instanceMethod yX12_isAnyEarly ∈ jT := jT_in (i := 1843) (by decide +kernel) (by decide +kernel)
theorem wSE_X12_isAnyEarly : Cond.selects yX12_isAnyEarly.cls yX12_isAnyEarly yX12_isAnyEarly ∈ jT := jT_in (i := 80) (by decide +kernel) (by decide +kernel)
theorem wIM_X12_isBack : Cond.instanceMethod yX12_isBack ∈ jT := jT_in (i := 1735) (by decide +kernel) (by decide +kernel)
theorem wSE_X12_isBack : Cond.selects yX12_isBack.cls yX12_isBack yX12_isBack ∈ jT := jT_in (i := 71) (by decide +kernel) (by decide +kernel)
theorem wIM_X12_isBehind : Cond.instanceMethod yX12_isBehind ∈ jT := jT_in (i := 1739) (by decide +kernel) (by decide +kernel)
theorem wSE_X12_isBehind : Cond.selects yX12_isBehind.cls yX12_isBehind yX12_isBehind ∈ jT := jT_in (i := 72) (by decide +kernel) (by decide +kernel)
theorem wIM_X12_isEarly : Cond.instanceMethod yX12_isEarly ∈ jT := jT_in (i := 1620) (by decide +kernel) (by decide +kernel)
theorem wSE_X12_isEarly : Cond.selects yX12_isEarly.cls yX12_isEarly yX12_isEarly ∈ jT := jT_in (i := 59) (by decide +kernel) (by decide +kernel)
theorem wIM_X12_isFree : Cond.instanceMethod yX12_isFree ∈ jT := jT_in (i := 1795) (by decide +kernel) (by decide +kernel)
theorem wSE_X12_isFree : Cond.selects yX12_isFree.cls yX12_isFree yX12_isFree ∈ jT := jT_in (i := 76) (by decide +kernel) (by decide +kernel)
theorem wIM_X12_isLine : Cond.instanceMethod yX12_isLine ∈ jT := jT_in (i := 1480) (by decide +kernel) (by decide +kernel)
theorem wSE_X12_isLine : Cond.selects yX12_isLine.cls yX12_isLine yX12_isLine ∈ jT := jT_in (i := 34) (by decide +kernel) (by decide +kernel)
theorem wIM_X12_isMuddled : Cond.instanceMethod yX12_isMuddled ∈ jT := jT_in (i := 1756) (by decide +kernel) (by decide +kernel)
theorem wSE_X12_isMuddled : Cond.selects yX12_isMuddled.cls yX12_isMuddled yX12_isMuddled ∈ jT := jT_in (i := 73) (by decide +kernel) (by decide +kernel)
theorem wIM_X12_isThere : Cond.instanceMethod yX12_isThere ∈ jT := jT_in (i := 1731) (by decide +kernel) (by decide +kernel)
theorem wSE_X12_isThere : Cond.selects yX12_isThere.cls yX12_isThere yX12_isThere ∈ jT := jT_in (i := 70) (by decide +kernel) (by decide +kernel)
theorem wIM_X12_keyAt : Cond.instanceMethod yX12_keyAt ∈ jT := jT_in (i := 1511) (by decide +kernel) (by decide +kernel)
theorem wSE_X12_keyAt : Cond.selects yX12_keyAt.cls yX12_keyAt yX12_keyAt ∈ jT := jT_in (i := 38) (by decide +kernel) (by decide +kernel)
theorem wIM_X12_likeOf : Cond.instanceMethod yX12_likeOf ∈ jT := jT_in (i := 1488) (by decide +kernel) (by decide +kernel)
theorem wSE_X12_likeOf : Cond.selects yX12_likeOf.cls yX12_likeOf yX12_likeOf ∈ jT := jT_in (i := 35) (by decide +kernel) (by decide +kernel)
theorem wIM_X12_looks : Cond.instanceMethod yX12_looks ∈ jT := jT_in (i := 1632) (by decide +kernel) (by decide +kernel)
theorem wSE_X12_looks : Cond.selects yX12_looks.cls yX12_looks yX12_looks ∈ jT := jT_in (i := 62) (by decide +kernel) (by decide +kernel)
theorem wIM_X12_matchesOf : Cond.instanceMethod yX12_matchesOf ∈ jT := jT_in (i := 1682) (by decide +kernel) (by decide +kernel)
theorem wSE_X12_matchesOf : Cond.selects yX12_matchesOf.cls yX12_matchesOf yX12_matchesOf ∈ jT := jT_in (i := 67) (by decide +kernel) (by decide +kernel)
theorem wIM_X12_meets : Cond.instanceMethod yX12_meets ∈ jT := jT_in (i := 1664) (by decide +kernel) (by decide +kernel)
theorem wSE_X12_meets : Cond.selects yX12_meets.cls yX12_meets yX12_meets ∈ jT := jT_in (i := 66) (by decide +kernel) (by decide +kernel)
theorem wIM_X12_mostOfPrint : Cond.instanceMethod yX12_mostOfPrint ∈ jT := jT_in (i := 1644) (by decide +kernel) (by decide +kernel)
theorem wSE_X12_mostOfPrint : Cond.selects yX12_mostOfPrint.cls yX12_mostOfPrint yX12_mostOfPrint ∈ jT := jT_in (i := 64) (by decide +kernel) (by decide +kernel)
theorem wIM_X12_mostOfSongs : Cond.instanceMethod yX12_mostOfSongs ∈ jT := jT_in (i := 1640) (by decide +kernel) (by decide +kernel)
theorem wSE_X12_mostOfSongs : Cond.selects yX12_mostOfSongs.cls yX12_mostOfSongs yX12_mostOfSongs ∈ jT := jT_in (i := 63) (by decide +kernel) (by decide +kernel)
theorem wIM_X12_needs : Cond.instanceMethod yX12_needs ∈ jT := jT_in (i := 1541) (by decide +kernel) (by decide +kernel)
theorem wSE_X12_needs : Cond.selects yX12_needs.cls yX12_needs yX12_needs ∈ jT := jT_in (i := 44) (by decide +kernel) (by decide +kernel)
theorem wIM_X12_next : Cond.instanceMethod yX12_next ∈ jT := jT_in (i := 1500) (by decide +kernel) (by decide +kernel)
theorem wSE_X12_next : Cond.selects yX12_next.cls yX12_next yX12_next ∈ jT := jT_in (i := 36) (by decide +kernel) (by decide +kernel)
theorem wIM_X12_no : Cond.instanceMethod yX12_no ∈ jT := jT_in (i := 1442) (by decide +kernel) (by decide +kernel)
theorem wSE_X12_no : Cond.selects yX12_no.cls yX12_no yX12_no ∈ jT := jT_in (i := 32) (by decide +kernel) (by decide +kernel)
theorem wIM_X12_opens : Cond.instanceMethod yX12_opens ∈ jT := jT_in (i := 1450) (by decide +kernel) (by decide +kernel)
theorem wSE_X12_opens : Cond.selects yX12_opens.cls yX12_opens yX12_opens ∈ jT := jT_in (i := 33) (by decide +kernel) (by decide +kernel)
theorem wIM_X12_pagesIn : Cond.instanceMethod yX12_pagesIn ∈ jT := jT_in (i := 1779) (by decide +kernel) (by decide +kernel)
theorem wSE_X12_pagesIn : Cond.selects yX12_pagesIn.cls yX12_pagesIn yX12_pagesIn ∈ jT := jT_in (i := 74) (by decide +kernel) (by decide +kernel)
theorem wIM_X12_parts : Cond.instanceMethod yX12_parts ∈ jT := jT_in (i := 1553) (by decide +kernel) (by decide +kernel)
theorem wSE_X12_parts : Cond.selects yX12_parts.cls yX12_parts yX12_parts ∈ jT := jT_in (i := 47) (by decide +kernel) (by decide +kernel)
theorem wIM_X12_readRule : Cond.instanceMethod yX12_readRule ∈ jT := jT_in (i := 1521) (by decide +kernel) (by decide +kernel)
theorem wSE_X12_readRule : Cond.selects yX12_readRule.cls yX12_readRule yX12_readRule ∈ jT := jT_in (i := 39) (by decide +kernel) (by decide +kernel)
theorem wIM_X12_readWay : Cond.instanceMethod yX12_readWay ∈ jT := jT_in (i := 1565) (by decide +kernel) (by decide +kernel)
theorem wSE_X12_readWay : Cond.selects yX12_readWay.cls yX12_readWay yX12_readWay ∈ jT := jT_in (i := 50) (by decide +kernel) (by decide +kernel)
theorem wIM_X12_reads : Cond.instanceMethod yX12_reads ∈ jT := jT_in (i := 1529) (by decide +kernel) (by decide +kernel)
theorem wSE_X12_reads : Cond.selects yX12_reads.cls yX12_reads yX12_reads ∈ jT := jT_in (i := 41) (by decide +kernel) (by decide +kernel)
theorem wIM_X12_said : Cond.instanceMethod yX12_said ∈ jT := jT_in (i := 1608) (by decide +kernel) (by decide +kernel)
theorem wSE_X12_said : Cond.selects yX12_said.cls yX12_said yX12_said ∈ jT := jT_in (i := 57) (by decide +kernel) (by decide +kernel)
theorem wIM_X12_saying : Cond.instanceMethod yX12_saying ∈ jT := jT_in (i := 1819) (by decide +kernel) (by decide +kernel)
theorem wSE_X12_saying : Cond.selects yX12_saying.cls yX12_saying yX12_saying ∈ jT := jT_in (i := 79) (by decide +kernel) (by decide +kernel)
theorem wIM_X12_see : Cond.instanceMethod yX12_see ∈ jT := jT_in (i := 1504) (by decide +kernel) (by decide +kernel)
theorem wSE_X12_see : Cond.selects yX12_see.cls yX12_see yX12_see ∈ jT := jT_in (i := 37) (by decide +kernel) (by decide +kernel)
theorem wIM_X12_side : Cond.instanceMethod yX12_side ∈ jT := jT_in (i := 1525) (by decide +kernel) (by decide +kernel)
theorem wSE_X12_side : Cond.selects yX12_side.cls yX12_side yX12_side ∈ jT := jT_in (i := 40) (by decide +kernel) (by decide +kernel)
theorem wIM_X12_smooth : Cond.instanceMethod yX12_smooth ∈ jT := jT_in (i := 1579) (by decide +kernel) (by decide +kernel)
theorem wSE_X12_smooth : Cond.selects yX12_smooth.cls yX12_smooth yX12_smooth ∈ jT := jT_in (i := 51) (by decide +kernel) (by decide +kernel)
theorem wIM_X12_smooths : Cond.instanceMethod yX12_smooths ∈ jT := jT_in (i := 1616) (by decide +kernel) (by decide +kernel)
theorem wSE_X12_smooths : Cond.selects yX12_smooths.cls yX12_smooths yX12_smooths ∈ jT := jT_in (i := 58) (by decide +kernel) (by decide +kernel)
theorem wIM_X12_stands : Cond.instanceMethod yX12_stands ∈ jT := jT_in (i := 1595) (by decide +kernel) (by decide +kernel)
theorem wSE_X12_stands : Cond.selects yX12_stands.cls yX12_stands yX12_stands ∈ jT := jT_in (i := 55) (by decide +kernel) (by decide +kernel)
theorem wIM_X12_test : Cond.instanceMethod yX12_test ∈ jT := jT_in (i := 1549) (by decide +kernel) (by decide +kernel)
theorem wSE_X12_test : Cond.selects yX12_test.cls yX12_test yX12_test ∈ jT := jT_in (i := 46) (by decide +kernel) (by decide +kernel)
theorem wIM_X12_weightOf : Cond.instanceMethod yX12_weightOf ∈ jT := jT_in (i := 1815) (by decide +kernel) (by decide +kernel)
theorem wSE_X12_weightOf : Cond.selects yX12_weightOf.cls yX12_weightOf yX12_weightOf ∈ jT := jT_in (i := 78) (by decide +kernel) (by decide +kernel)
theorem wIM_X12_whoseIs : Cond.instanceMethod yX12_whoseIs ∈ jT := jT_in (i := 1624) (by decide +kernel) (by decide +kernel)
theorem wSE_X12_whoseIs : Cond.selects yX12_whoseIs.cls yX12_whoseIs yX12_whoseIs ∈ jT := jT_in (i := 60) (by decide +kernel) (by decide +kernel)
theorem wIM_X1_clear : Cond.instanceMethod yX1_clear ∈ jT := jT_in (i := 776) (by decide +kernel) (by decide +kernel)
theorem wSE_X1_clear : Cond.selects yX1_clear.cls yX1_clear yX1_clear ∈ jT := jT_in (i := 777) (by decide +kernel) (by decide +kernel)
theorem wIM_X1_copy : Cond.instanceMethod yX1_copy ∈ jT := jT_in (i := 850) (by decide +kernel) (by decide +kernel)
theorem wSE_X1_copy : Cond.selects yX1_copy.cls yX1_copy yX1_copy ∈ jT := jT_in (i := 851) (by decide +kernel) (by decide +kernel)
theorem wIM_X1_emit : Cond.instanceMethod yX1_emit ∈ jT := jT_in (i := 817) (by decide +kernel) (by decide +kernel)
theorem wSE_X1_emit : Cond.selects yX1_emit.cls yX1_emit yX1_emit ∈ jT := jT_in (i := 818) (by decide +kernel) (by decide +kernel)
theorem wIM_X1_holds : Cond.instanceMethod yX1_holds ∈ jT := jT_in (i := 601) (by decide +kernel) (by decide +kernel)
theorem wSE_X1_holds : Cond.selects yX1_holds.cls yX1_holds yX1_holds ∈ jT := jT_in (i := 2) (by decide +kernel) (by decide +kernel)
theorem wIM_X1_put : Cond.instanceMethod yX1_put ∈ jT := jT_in (i := 821) (by decide +kernel) (by decide +kernel)
theorem wSE_X1_put : Cond.selects yX1_put.cls yX1_put yX1_put ∈ jT := jT_in (i := 822) (by decide +kernel) (by decide +kernel)
theorem wIM_X1_replaced : Cond.instanceMethod yX1_replaced ∈ jT := jT_in (i := 614) (by decide +kernel) (by decide +kernel)
theorem wSE_X1_replaced : Cond.selects yX1_replaced.cls yX1_replaced yX1_replaced ∈ jT := jT_in (i := 4) (by decide +kernel) (by decide +kernel)
theorem wIM_X1_smooth : Cond.instanceMethod yX1_smooth ∈ jT := jT_in (i := 592) (by decide +kernel) (by decide +kernel)
theorem wSE_X1_smooth : Cond.selects yX1_smooth.cls yX1_smooth yX1_smooth ∈ jT := jT_in (i := 593) (by decide +kernel) (by decide +kernel)
theorem wIM_X1_step : Cond.instanceMethod yX1_step ∈ jT := jT_in (i := 597) (by decide +kernel) (by decide +kernel)
theorem wSE_X1_step : Cond.selects yX1_step.cls yX1_step yX1_step ∈ jT := jT_in (i := 1) (by decide +kernel) (by decide +kernel)
theorem wIM_X1_taken : Cond.instanceMethod yX1_taken ∈ jT := jT_in (i := 605) (by decide +kernel) (by decide +kernel)
theorem wSE_X1_taken : Cond.selects yX1_taken.cls yX1_taken yX1_taken ∈ jT := jT_in (i := 3) (by decide +kernel) (by decide +kernel)
theorem wIM_X2_addsOf : Cond.instanceMethod yX2_addsOf ∈ jT := jT_in (i := 1000) (by decide +kernel) (by decide +kernel)
theorem wSE_X2_addsOf : Cond.selects yX2_addsOf.cls yX2_addsOf yX2_addsOf ∈ jT := jT_in (i := 1001) (by decide +kernel) (by decide +kernel)
theorem wIM_X2_bookHasLike : Cond.instanceMethod yX2_bookHasLike ∈ jT := jT_in (i := 989) (by decide +kernel) (by decide +kernel)
theorem wSE_X2_bookHasLike : Cond.selects yX2_bookHasLike.cls yX2_bookHasLike yX2_bookHasLike ∈ jT := jT_in (i := 21) (by decide +kernel) (by decide +kernel)
theorem wIM_X2_countKinds : Cond.instanceMethod yX2_countKinds ∈ jT := jT_in (i := 938) (by decide +kernel) (by decide +kernel)
theorem wSE_X2_countKinds : Cond.selects yX2_countKinds.cls yX2_countKinds yX2_countKinds ∈ jT := jT_in (i := 939) (by decide +kernel) (by decide +kernel)
theorem wIM_X2_isAmong : Cond.instanceMethod yX2_isAmong ∈ jT := jT_in (i := 918) (by decide +kernel) (by decide +kernel)
theorem wSE_X2_isAmong : Cond.selects yX2_isAmong.cls yX2_isAmong yX2_isAmong ∈ jT := jT_in (i := 19) (by decide +kernel) (by decide +kernel)
theorem wIM_X2_isBack : Cond.instanceMethod yX2_isBack ∈ jT := jT_in (i := 1057) (by decide +kernel) (by decide +kernel)
theorem wSE_X2_isBack : Cond.selects yX2_isBack.cls yX2_isBack yX2_isBack ∈ jT := jT_in (i := 1058) (by decide +kernel) (by decide +kernel)
theorem wIM_X2_isCounted : Cond.instanceMethod yX2_isCounted ∈ jT := jT_in (i := 1096) (by decide +kernel) (by decide +kernel)
theorem wSE_X2_isCounted : Cond.selects yX2_isCounted.cls yX2_isCounted yX2_isCounted ∈ jT := jT_in (i := 1097) (by decide +kernel) (by decide +kernel)
theorem wIM_X2_isMuddled : Cond.instanceMethod yX2_isMuddled ∈ jT := jT_in (i := 1088) (by decide +kernel) (by decide +kernel)
theorem wSE_X2_isMuddled : Cond.selects yX2_isMuddled.cls yX2_isMuddled yX2_isMuddled ∈ jT := jT_in (i := 23) (by decide +kernel) (by decide +kernel)
theorem wIM_X2_look : Cond.instanceMethod yX2_look ∈ jT := jT_in (i := 903) (by decide +kernel) (by decide +kernel)
theorem wSE_X2_look : Cond.selects yX2_look.cls yX2_look yX2_look ∈ jT := jT_in (i := 904) (by decide +kernel) (by decide +kernel)
theorem wIM_X2_matchesOf : Cond.instanceMethod yX2_matchesOf ∈ jT := jT_in (i := 984) (by decide +kernel) (by decide +kernel)
theorem wSE_X2_matchesOf : Cond.selects yX2_matchesOf.cls yX2_matchesOf yX2_matchesOf ∈ jT := jT_in (i := 985) (by decide +kernel) (by decide +kernel)
theorem wIM_X2_muddledAt : Cond.instanceMethod yX2_muddledAt ∈ jT := jT_in (i := 1083) (by decide +kernel) (by decide +kernel)
theorem wSE_X2_muddledAt : Cond.selects yX2_muddledAt.cls yX2_muddledAt yX2_muddledAt ∈ jT := jT_in (i := 1084) (by decide +kernel) (by decide +kernel)
theorem wIM_X2_nearest : Cond.instanceMethod yX2_nearest ∈ jT := jT_in (i := 909) (by decide +kernel) (by decide +kernel)
theorem wSE_X2_nearest : Cond.selects yX2_nearest.cls yX2_nearest yX2_nearest ∈ jT := jT_in (i := 910) (by decide +kernel) (by decide +kernel)
theorem wIM_X2_pairs : Cond.instanceMethod yX2_pairs ∈ jT := jT_in (i := 963) (by decide +kernel) (by decide +kernel)
theorem wSE_X2_pairs : Cond.selects yX2_pairs.cls yX2_pairs yX2_pairs ∈ jT := jT_in (i := 964) (by decide +kernel) (by decide +kernel)
theorem wIM_X2_pairsBy : Cond.instanceMethod yX2_pairsBy ∈ jT := jT_in (i := 955) (by decide +kernel) (by decide +kernel)
theorem wSE_X2_pairsBy : Cond.selects yX2_pairsBy.cls yX2_pairsBy yX2_pairsBy ∈ jT := jT_in (i := 956) (by decide +kernel) (by decide +kernel)
theorem wIM_X2_partedBy : Cond.instanceMethod yX2_partedBy ∈ jT := jT_in (i := 1070) (by decide +kernel) (by decide +kernel)
theorem wSE_X2_partedBy : Cond.selects yX2_partedBy.cls yX2_partedBy yX2_partedBy ∈ jT := jT_in (i := 1071) (by decide +kernel) (by decide +kernel)
theorem wIM_X2_pileOf : Cond.instanceMethod yX2_pileOf ∈ jT := jT_in (i := 914) (by decide +kernel) (by decide +kernel)
theorem wSE_X2_pileOf : Cond.selects yX2_pileOf.cls yX2_pileOf yX2_pileOf ∈ jT := jT_in (i := 18) (by decide +kernel) (by decide +kernel)
theorem wIM_X2_printedLike : Cond.instanceMethod yX2_printedLike ∈ jT := jT_in (i := 960) (by decide +kernel) (by decide +kernel)
theorem wSE_X2_printedLike : Cond.selects yX2_printedLike.cls yX2_printedLike yX2_printedLike ∈ jT := jT_in (i := 20) (by decide +kernel) (by decide +kernel)
theorem wIM_X2_wouldBeTheirs : Cond.instanceMethod yX2_wouldBeTheirs ∈ jT := jT_in (i := 1006) (by decide +kernel) (by decide +kernel)
theorem wSE_X2_wouldBeTheirs : Cond.selects yX2_wouldBeTheirs.cls yX2_wouldBeTheirs yX2_wouldBeTheirs ∈ jT := jT_in (i := 22) (by decide +kernel) (by decide +kernel)
theorem wIM_X3_clear : Cond.instanceMethod yX3_clear ∈ jT := jT_in (i := 829) (by decide +kernel) (by decide +kernel)
theorem wSE_X3_clear : Cond.selects yX3_clear.cls yX3_clear yX3_clear ∈ jT := jT_in (i := 830) (by decide +kernel) (by decide +kernel)
theorem wIM_X3_copy : Cond.instanceMethod yX3_copy ∈ jT := jT_in (i := 858) (by decide +kernel) (by decide +kernel)
theorem wSE_X3_copy : Cond.selects yX3_copy.cls yX3_copy yX3_copy ∈ jT := jT_in (i := 859) (by decide +kernel) (by decide +kernel)
theorem wIM_X3_putChance : Cond.instanceMethod yX3_putChance ∈ jT := jT_in (i := 842) (by decide +kernel) (by decide +kernel)
theorem wSE_X3_putChance : Cond.selects yX3_putChance.cls yX3_putChance yX3_putChance ∈ jT := jT_in (i := 843) (by decide +kernel) (by decide +kernel)
theorem wIM_X3_putSaying : Cond.instanceMethod yX3_putSaying ∈ jT := jT_in (i := 838) (by decide +kernel) (by decide +kernel)
theorem wSE_X3_putSaying : Cond.selects yX3_putSaying.cls yX3_putSaying yX3_putSaying ∈ jT := jT_in (i := 839) (by decide +kernel) (by decide +kernel)
theorem wIM_X3_respoken : Cond.instanceMethod yX3_respoken ∈ jT := jT_in (i := 887) (by decide +kernel) (by decide +kernel)
theorem wSE_X3_respoken : Cond.selects yX3_respoken.cls yX3_respoken yX3_respoken ∈ jT := jT_in (i := 888) (by decide +kernel) (by decide +kernel)
theorem wIM_X5_at : Cond.instanceMethod yX5_at ∈ jT := jT_in (i := 643) (by decide +kernel) (by decide +kernel)
theorem wSE_X5_at : Cond.selects yX5_at.cls yX5_at yX5_at ∈ jT := jT_in (i := 644) (by decide +kernel) (by decide +kernel)
theorem wIM_X5_copy : Cond.instanceMethod yX5_copy ∈ jT := jT_in (i := 1274) (by decide +kernel) (by decide +kernel)
theorem wSE_X5_copy : Cond.selects yX5_copy.cls yX5_copy yX5_copy ∈ jT := jT_in (i := 1275) (by decide +kernel) (by decide +kernel)
theorem wIM_X5_has : Cond.instanceMethod yX5_has ∈ jT := jT_in (i := 560) (by decide +kernel) (by decide +kernel)
theorem wSE_X5_has : Cond.selects yX5_has.cls yX5_has yX5_has ∈ jT := jT_in (i := 561) (by decide +kernel) (by decide +kernel)
theorem wIM_X5_has_ : Cond.instanceMethod yX5_has_ ∈ jT := jT_in (i := 639) (by decide +kernel) (by decide +kernel)
theorem wSE_X5_has_ : Cond.selects yX5_has_.cls yX5_has_ yX5_has_ ∈ jT := jT_in (i := 640) (by decide +kernel) (by decide +kernel)
theorem wIM_X5_isFull : Cond.instanceMethod yX5_isFull ∈ jT := jT_in (i := 341) (by decide +kernel) (by decide +kernel)
theorem wSE_X5_isFull : Cond.selects yX5_isFull.cls yX5_isFull yX5_isFull ∈ jT := jT_in (i := 342) (by decide +kernel) (by decide +kernel)
theorem wIM_X5_isFull_ : Cond.instanceMethod yX5_isFull_ ∈ jT := jT_in (i := 577) (by decide +kernel) (by decide +kernel)
theorem wSE_X5_isFull_ : Cond.selects yX5_isFull_.cls yX5_isFull_ yX5_isFull_ ∈ jT := jT_in (i := 578) (by decide +kernel) (by decide +kernel)
theorem wIM_X5_put : Cond.instanceMethod yX5_put ∈ jT := jT_in (i := 587) (by decide +kernel) (by decide +kernel)
theorem wSE_X5_put : Cond.selects yX5_put.cls yX5_put yX5_put ∈ jT := jT_in (i := 588) (by decide +kernel) (by decide +kernel)
theorem wIM_X5_start : Cond.instanceMethod yX5_start ∈ jT := jT_in (i := 337) (by decide +kernel) (by decide +kernel)
theorem wSE_X5_start : Cond.selects yX5_start.cls yX5_start yX5_start ∈ jT := jT_in (i := 338) (by decide +kernel) (by decide +kernel)
theorem wIM_X6_blame : Cond.instanceMethod yX6_blame ∈ jT := jT_in (i := 797) (by decide +kernel) (by decide +kernel)
theorem wSE_X6_blame : Cond.selects yX6_blame.cls yX6_blame yX6_blame ∈ jT := jT_in (i := 11) (by decide +kernel) (by decide +kernel)
theorem wIM_X6_isAt : Cond.instanceMethod yX6_isAt ∈ jT := jT_in (i := 781) (by decide +kernel) (by decide +kernel)
theorem wSE_X6_isAt : Cond.selects yX6_isAt.cls yX6_isAt yX6_isAt ∈ jT := jT_in (i := 7) (by decide +kernel) (by decide +kernel)
theorem wIM_X6_putToken : Cond.instanceMethod yX6_putToken ∈ jT := jT_in (i := 769) (by decide +kernel) (by decide +kernel)
theorem wSE_X6_putToken : Cond.selects yX6_putToken.cls yX6_putToken yX6_putToken ∈ jT := jT_in (i := 6) (by decide +kernel) (by decide +kernel)
theorem wIM_X6_readFact : Cond.instanceMethod yX6_readFact ∈ jT := jT_in (i := 810) (by decide +kernel) (by decide +kernel)
theorem wSE_X6_readFact : Cond.selects yX6_readFact.cls yX6_readFact yX6_readFact ∈ jT := jT_in (i := 14) (by decide +kernel) (by decide +kernel)
theorem wIM_X6_readFashion : Cond.instanceMethod yX6_readFashion ∈ jT := jT_in (i := 772) (by decide +kernel) (by decide +kernel)
theorem wSE_X6_readFashion : Cond.selects yX6_readFashion.cls yX6_readFashion yX6_readFashion ∈ jT := jT_in (i := 773) (by decide +kernel) (by decide +kernel)
theorem wIM_X6_readLaw : Cond.instanceMethod yX6_readLaw ∈ jT := jT_in (i := 825) (by decide +kernel) (by decide +kernel)
theorem wSE_X6_readLaw : Cond.selects yX6_readLaw.cls yX6_readLaw yX6_readLaw ∈ jT := jT_in (i := 826) (by decide +kernel) (by decide +kernel)
theorem wIM_X6_readNumber : Cond.instanceMethod yX6_readNumber ∈ jT := jT_in (i := 793) (by decide +kernel) (by decide +kernel)
theorem wSE_X6_readNumber : Cond.selects yX6_readNumber.cls yX6_readNumber yX6_readNumber ∈ jT := jT_in (i := 10) (by decide +kernel) (by decide +kernel)
theorem wIM_X6_readPlainFact : Cond.instanceMethod yX6_readPlainFact ∈ jT := jT_in (i := 814) (by decide +kernel) (by decide +kernel)
theorem wSE_X6_readPlainFact : Cond.selects yX6_readPlainFact.cls yX6_readPlainFact yX6_readPlainFact ∈ jT := jT_in (i := 15) (by decide +kernel) (by decide +kernel)
theorem wIM_X6_readRule : Cond.instanceMethod yX6_readRule ∈ jT := jT_in (i := 785) (by decide +kernel) (by decide +kernel)
theorem wSE_X6_readRule : Cond.selects yX6_readRule.cls yX6_readRule yX6_readRule ∈ jT := jT_in (i := 8) (by decide +kernel) (by decide +kernel)
theorem wIM_X6_readSide : Cond.instanceMethod yX6_readSide ∈ jT := jT_in (i := 789) (by decide +kernel) (by decide +kernel)
theorem wSE_X6_readSide : Cond.selects yX6_readSide.cls yX6_readSide yX6_readSide ∈ jT := jT_in (i := 9) (by decide +kernel) (by decide +kernel)
theorem wIM_X6_readTest : Cond.instanceMethod yX6_readTest ∈ jT := jT_in (i := 806) (by decide +kernel) (by decide +kernel)
theorem wSE_X6_readTest : Cond.selects yX6_readTest.cls yX6_readTest yX6_readTest ∈ jT := jT_in (i := 13) (by decide +kernel) (by decide +kernel)
theorem wIM_X6_readWay : Cond.instanceMethod yX6_readWay ∈ jT := jT_in (i := 835) (by decide +kernel) (by decide +kernel)
theorem wSE_X6_readWay : Cond.selects yX6_readWay.cls yX6_readWay yX6_readWay ∈ jT := jT_in (i := 16) (by decide +kernel) (by decide +kernel)
theorem wIM_X6_scan : Cond.instanceMethod yX6_scan ∈ jT := jT_in (i := 678) (by decide +kernel) (by decide +kernel)
theorem wSE_X6_scan : Cond.selects yX6_scan.cls yX6_scan yX6_scan ∈ jT := jT_in (i := 679) (by decide +kernel) (by decide +kernel)
theorem wIM_X6_take : Cond.instanceMethod yX6_take ∈ jT := jT_in (i := 802) (by decide +kernel) (by decide +kernel)
theorem wSE_X6_take : Cond.selects yX6_take.cls yX6_take yX6_take ∈ jT := jT_in (i := 12) (by decide +kernel) (by decide +kernel)
theorem wIM_X7_at : Cond.instanceMethod yX7_at ∈ jT := jT_in (i := 1246) (by decide +kernel) (by decide +kernel)
theorem wSE_X7_at : Cond.selects yX7_at.cls yX7_at yX7_at ∈ jT := jT_in (i := 1247) (by decide +kernel) (by decide +kernel)
theorem wIM_X7_canBe : Cond.instanceMethod yX7_canBe ∈ jT := jT_in (i := 1215) (by decide +kernel) (by decide +kernel)
theorem wSE_X7_canBe : Cond.selects yX7_canBe.cls yX7_canBe yX7_canBe ∈ jT := jT_in (i := 1216) (by decide +kernel) (by decide +kernel)
theorem wIM_X7_lay : Cond.instanceMethod yX7_lay ∈ jT := jT_in (i := 1220) (by decide +kernel) (by decide +kernel)
theorem wSE_X7_lay : Cond.selects yX7_lay.cls yX7_lay yX7_lay ∈ jT := jT_in (i := 1221) (by decide +kernel) (by decide +kernel)
theorem wIM_X7_put : Cond.instanceMethod yX7_put ∈ jT := jT_in (i := 1235) (by decide +kernel) (by decide +kernel)
theorem wSE_X7_put : Cond.selects yX7_put.cls yX7_put yX7_put ∈ jT := jT_in (i := 1236) (by decide +kernel) (by decide +kernel)
theorem wIM_X8_copy : Cond.instanceMethod yX8_copy ∈ jT := jT_in (i := 1270) (by decide +kernel) (by decide +kernel)
theorem wSE_X8_copy : Cond.selects yX8_copy.cls yX8_copy yX8_copy ∈ jT := jT_in (i := 1271) (by decide +kernel) (by decide +kernel)
theorem wIM_X8_follow : Cond.instanceMethod yX8_follow ∈ jT := jT_in (i := 846) (by decide +kernel) (by decide +kernel)
theorem wSE_X8_follow : Cond.selects yX8_follow.cls yX8_follow yX8_follow ∈ jT := jT_in (i := 847) (by decide +kernel) (by decide +kernel)
theorem wIM_X8_hasEarly : Cond.instanceMethod yX8_hasEarly ∈ jT := jT_in (i := 1257) (by decide +kernel) (by decide +kernel)
theorem wSE_X8_hasEarly : Cond.selects yX8_hasEarly.cls yX8_hasEarly yX8_hasEarly ∈ jT := jT_in (i := 1258) (by decide +kernel) (by decide +kernel)
theorem wIM_X8_hasWordAfter : Cond.instanceMethod yX8_hasWordAfter ∈ jT := jT_in (i := 1026) (by decide +kernel) (by decide +kernel)
theorem wSE_X8_hasWordAfter : Cond.selects yX8_hasWordAfter.cls yX8_hasWordAfter yX8_hasWordAfter ∈ jT := jT_in (i := 1027) (by decide +kernel) (by decide +kernel)
theorem wIM_X8_isEarly : Cond.instanceMethod yX8_isEarly ∈ jT := jT_in (i := 921) (by decide +kernel) (by decide +kernel)
theorem wSE_X8_isEarly : Cond.selects yX8_isEarly.cls yX8_isEarly yX8_isEarly ∈ jT := jT_in (i := 922) (by decide +kernel) (by decide +kernel)
theorem wIM_X8_moveAbout : Cond.instanceMethod yX8_moveAbout ∈ jT := jT_in (i := 893) (by decide +kernel) (by decide +kernel)
theorem wSE_X8_moveAbout : Cond.selects yX8_moveAbout.cls yX8_moveAbout yX8_moveAbout ∈ jT := jT_in (i := 17) (by decide +kernel) (by decide +kernel)
theorem wIM_X8_pile : Cond.instanceMethod yX8_pile ∈ jT := jT_in (i := 549) (by decide +kernel) (by decide +kernel)
theorem wSE_X8_pile : Cond.selects yX8_pile.cls yX8_pile yX8_pile ∈ jT := jT_in (i := 550) (by decide +kernel) (by decide +kernel)
theorem wIM_X8_putIntoSong : Cond.instanceMethod yX8_putIntoSong ∈ jT := jT_in (i := 582) (by decide +kernel) (by decide +kernel)
theorem wSE_X8_putIntoSong : Cond.selects yX8_putIntoSong.cls yX8_putIntoSong yX8_putIntoSong ∈ jT := jT_in (i := 583) (by decide +kernel) (by decide +kernel)
theorem wIM_X8_tellOn : Cond.instanceMethod yX8_tellOn ∈ jT := jT_in (i := 876) (by decide +kernel) (by decide +kernel)
theorem wSE_X8_tellOn : Cond.selects yX8_tellOn.cls yX8_tellOn yX8_tellOn ∈ jT := jT_in (i := 877) (by decide +kernel) (by decide +kernel)
theorem wIM_X9_allPaid : Cond.instanceMethod yX9_allPaid ∈ jT := jT_in (i := 1122) (by decide +kernel) (by decide +kernel)
theorem wSE_X9_allPaid : Cond.selects yX9_allPaid.cls yX9_allPaid yX9_allPaid ∈ jT := jT_in (i := 1123) (by decide +kernel) (by decide +kernel)
theorem wIM_X9_copy : Cond.instanceMethod yX9_copy ∈ jT := jT_in (i := 1286) (by decide +kernel) (by decide +kernel)
theorem wSE_X9_copy : Cond.selects yX9_copy.cls yX9_copy yX9_copy ∈ jT := jT_in (i := 1287) (by decide +kernel) (by decide +kernel)
theorem wIM_X9_fill : Cond.instanceMethod yX9_fill ∈ jT := jT_in (i := 1114) (by decide +kernel) (by decide +kernel)
theorem wSE_X9_fill : Cond.selects yX9_fill.cls yX9_fill yX9_fill ∈ jT := jT_in (i := 1115) (by decide +kernel) (by decide +kernel)
theorem wIM_X9_firstSpanEndingFrom : Cond.instanceMethod yX9_firstSpanEndingFrom ∈ jT := jT_in (i := 1155) (by decide +kernel) (by decide +kernel)
theorem wSE_X9_firstSpanEndingFrom : Cond.selects yX9_firstSpanEndingFrom.cls yX9_firstSpanEndingFrom yX9_firstSpanEndingFrom ∈ jT := jT_in (i := 26) (by decide +kernel) (by decide +kernel)
theorem wIM_X9_freeUpTo : Cond.instanceMethod yX9_freeUpTo ∈ jT := jT_in (i := 1151) (by decide +kernel) (by decide +kernel)
theorem wSE_X9_freeUpTo : Cond.selects yX9_freeUpTo.cls yX9_freeUpTo yX9_freeUpTo ∈ jT := jT_in (i := 25) (by decide +kernel) (by decide +kernel)
theorem wIM_X9_leastRate : Cond.instanceMethod yX9_leastRate ∈ jT := jT_in (i := 1146) (by decide +kernel) (by decide +kernel)
theorem wSE_X9_leastRate : Cond.selects yX9_leastRate.cls yX9_leastRate yX9_leastRate ∈ jT := jT_in (i := 1147) (by decide +kernel) (by decide +kernel)
theorem wIM_X9_leave : Cond.instanceMethod yX9_leave ∈ jT := jT_in (i := 1138) (by decide +kernel) (by decide +kernel)
theorem wSE_X9_leave : Cond.selects yX9_leave.cls yX9_leave yX9_leave ∈ jT := jT_in (i := 1139) (by decide +kernel) (by decide +kernel)
theorem wIM_X9_moreBy : Cond.instanceMethod yX9_moreBy ∈ jT := jT_in (i := 1126) (by decide +kernel) (by decide +kernel)
theorem wSE_X9_moreBy : Cond.selects yX9_moreBy.cls yX9_moreBy yX9_moreBy ∈ jT := jT_in (i := 1127) (by decide +kernel) (by decide +kernel)
theorem wIM_X9_pagesOf : Cond.instanceMethod yX9_pagesOf ∈ jT := jT_in (i := 1131) (by decide +kernel) (by decide +kernel)
theorem wSE_X9_pagesOf : Cond.selects yX9_pagesOf.cls yX9_pagesOf yX9_pagesOf ∈ jT := jT_in (i := 24) (by decide +kernel) (by decide +kernel)
theorem wIM_X9_pay : Cond.instanceMethod yX9_pay ∈ jT := jT_in (i := 1105) (by decide +kernel) (by decide +kernel)
theorem wSE_X9_pay : Cond.selects yX9_pay.cls yX9_pay yX9_pay ∈ jT := jT_in (i := 1106) (by decide +kernel) (by decide +kernel)
theorem wML_X0_39 : Cond.methodLink RX0 39 arraycopyName ∈ jT := jT_in (i := 1284) (by decide +kernel) (by decide +kernel)
theorem wML_X1_38 : Cond.methodLink RX1 38 arraycopyName ∈ jT := jT_in (i := 853) (by decide +kernel) (by decide +kernel)
theorem wML_X2_51 : Cond.methodLink RX2 51 Lib.MathLoose.max_long.x ∈ jT := jT_in (i := 972) (by decide +kernel) (by decide +kernel)
theorem wML_X2_112 : Cond.methodLink RX2 112 Lib.Math.max.name ∈ jT := jT_in (i := 926) (by decide +kernel) (by decide +kernel)
theorem wML_X3_28 : Cond.methodLink RX3 28 arraycopyName ∈ jT := jT_in (i := 861) (by decide +kernel) (by decide +kernel)
theorem wML_X4_25 : Cond.methodLink RX4 25 Lib.Math.max.name ∈ jT := jT_in (i := 654) (by decide +kernel) (by decide +kernel)
theorem wML_X5_60 : Cond.methodLink RX5 60 arraycopyName ∈ jT := jT_in (i := 1277) (by decide +kernel) (by decide +kernel)
theorem wML_X6_48 : Cond.methodLink RX6 48 Lib.Math.min.name ∈ jT := jT_in (i := 681) (by decide +kernel) (by decide +kernel)
theorem wML_X6_75 : Cond.methodLink RX6 75 Lib.Math.max.name ∈ jT := jT_in (i := 693) (by decide +kernel) (by decide +kernel)
theorem wML_X6_111 : Cond.methodLink RX6 111 yJ0_length_8abf5 ∈ jT := jT_in (i := 704) (by decide +kernel) (by decide +kernel)
theorem wML_X6_117 : Cond.methodLink RX6 117 yJ0_charAt_5068e ∈ jT := jT_in (i := 714) (by decide +kernel) (by decide +kernel)
theorem wML_X8_87 : Cond.methodLink RX8 87 arraycopyName ∈ jT := jT_in (i := 1278) (by decide +kernel) (by decide +kernel)
theorem wML_X9_48 : Cond.methodLink RX9 48 Lib.Math.max.name ∈ jT := jT_in (i := 1157) (by decide +kernel) (by decide +kernel)
theorem wML_X9_56 : Cond.methodLink RX9 56 Lib.Math.min.name ∈ jT := jT_in (i := 1158) (by decide +kernel) (by decide +kernel)
theorem wML_X9_59 : Cond.methodLink RX9 59 arraycopyName ∈ jT := jT_in (i := 1289) (by decide +kernel) (by decide +kernel)
theorem wML_X10_59 : Cond.methodLink RX10 59 arraycopyName ∈ jT := jT_in (i := 1294) (by decide +kernel) (by decide +kernel)
theorem wML_X12_123 : Cond.methodLink RX12 123 yJ0_length_8abf5 ∈ jT := jT_in (i := 1514) (by decide +kernel) (by decide +kernel)
theorem wML_X12_129 : Cond.methodLink RX12 129 yJ0_charAt_5068e ∈ jT := jT_in (i := 1515) (by decide +kernel) (by decide +kernel)
theorem lk_X11_61 : jLk RX11 61 yX11_refuse MX11_refuse 1 := ⟨jT_in (i := 534) (by decide +kernel) (by decide +kernel), wIN_X11, wCD_X11_refuse, by decide, by decide +kernel, by decide +kernel, by decide +kernel⟩
theorem lk_X11_69 : jLk RX11 69 yX11_within MX11_within 3 := ⟨jT_in (i := 540) (by decide +kernel) (by decide +kernel), wIN_X11, wCD_X11_within, by decide, by decide +kernel, by decide +kernel, by decide +kernel⟩
theorem lk_X11_73 : jLk RX11 73 yX11_isGlenAndDay MX11_isGlenAndDay 2 := ⟨jT_in (i := 543) (by decide +kernel) (by decide +kernel), wIN_X11, wCD_X11_isGlenAndDay, by decide, by decide +kernel, by decide +kernel, by decide +kernel⟩
theorem lk_X11_77 : jLk RX11 77 yX8_pile MX8_pile 1 := ⟨jT_in (i := 548) (by decide +kernel) (by decide +kernel), wIN_X8, wCD_X8_pile, by decide, by decide +kernel, by decide +kernel, by decide +kernel⟩
theorem lk_X11_81 : jLk RX11 81 yX5_isFull MX5_isFull 0 := ⟨jT_in (i := 552) (by decide +kernel) (by decide +kernel), wIN_X5, wCD_X5_isFull, by decide, by decide +kernel, by decide +kernel, by decide +kernel⟩
theorem lk_X11_87 : jLk RX11 87 yX5_start MX5_start 3 := ⟨jT_in (i := 553) (by decide +kernel) (by decide +kernel), wIN_X5, wCD_X5_start, by decide, by decide +kernel, by decide +kernel, by decide +kernel⟩
theorem lk_X11_93 : jLk RX11 93 yX5_has MX5_has 1 := ⟨jT_in (i := 559) (by decide +kernel) (by decide +kernel), wIN_X5, wCD_X5_has, by decide, by decide +kernel, by decide +kernel, by decide +kernel⟩
theorem lk_X11_97 : jLk RX11 97 yX4_clean MX4_clean 1 := ⟨jT_in (i := 563) (by decide +kernel) (by decide +kernel), wIN_X4, wCD_X4_clean, by decide, by decide +kernel, by decide +kernel, by decide +kernel⟩
theorem lk_X11_103 : jLk RX11 103 yX5_isFull_ MX5_isFull_ 1 := ⟨jT_in (i := 576) (by decide +kernel) (by decide +kernel), wIN_X5, wCD_X5_isFull_, by decide, by decide +kernel, by decide +kernel, by decide +kernel⟩
theorem lk_X11_105 : jLk RX11 105 yX8_putIntoSong MX8_putIntoSong 2 := ⟨jT_in (i := 581) (by decide +kernel) (by decide +kernel), wIN_X8, wCD_X8_putIntoSong, by decide, by decide +kernel, by decide +kernel, by decide +kernel⟩
theorem lk_X11_109 : jLk RX11 109 yX5_put MX5_put 3 := ⟨jT_in (i := 623) (by decide +kernel) (by decide +kernel), wIN_X5, wCD_X5_put, by decide, by decide +kernel, by decide +kernel, by decide +kernel⟩
theorem lk_X11_133 : jLk RX11 133 yX5_has_ MX5_has_ 2 := ⟨jT_in (i := 638) (by decide +kernel) (by decide +kernel), wIN_X5, wCD_X5_has_, by decide, by decide +kernel, by decide +kernel, by decide +kernel⟩
theorem lk_X11_135 : jLk RX11 135 yX5_at MX5_at 2 := ⟨jT_in (i := 642) (by decide +kernel) (by decide +kernel), wIN_X5, wCD_X5_at, by decide, by decide +kernel, by decide +kernel, by decide +kernel⟩
theorem lk_X11_139 : jLk RX11 139 yX4_alike MX4_alike 2 := ⟨jT_in (i := 651) (by decide +kernel) (by decide +kernel), wIN_X4, wCD_X4_alike, by decide, by decide +kernel, by decide +kernel, by decide +kernel⟩
theorem lk_X11_146 : jLk RX11 146 yX11_feedInt MX11_feedInt 1 := ⟨jT_in (i := 669) (by decide +kernel) (by decide +kernel), wIN_X11, wCD_X11_feedInt, by decide, by decide +kernel, by decide +kernel, by decide +kernel⟩
theorem lk_X11_150 : jLk RX11 150 yX6_scan MX6_scan 2 := ⟨jT_in (i := 677) (by decide +kernel) (by decide +kernel), wIN_X6, wCD_X6_scan, by decide, by decide +kernel, by decide +kernel, by decide +kernel⟩
theorem lk_X11_154 : jLk RX11 154 yX6_readFashion MX6_readFashion 0 := ⟨jT_in (i := 771) (by decide +kernel) (by decide +kernel), wIN_X6, wCD_X6_readFashion, by decide, by decide +kernel, by decide +kernel, by decide +kernel⟩
theorem lk_X11_157 : jLk RX11 157 yX6_readLaw MX6_readLaw 0 := ⟨jT_in (i := 824) (by decide +kernel) (by decide +kernel), wIN_X6, wCD_X6_readLaw, by decide, by decide +kernel, by decide +kernel, by decide +kernel⟩
theorem lk_X11_167 : jLk RX11 167 yX8_follow MX8_follow 1 := ⟨jT_in (i := 845) (by decide +kernel) (by decide +kernel), wIN_X8, wCD_X8_follow, by decide, by decide +kernel, by decide +kernel, by decide +kernel⟩
theorem lk_X11_182 : jLk RX11 182 yX3_copy MX3_copy 1 := ⟨jT_in (i := 857) (by decide +kernel) (by decide +kernel), wIN_X3, wCD_X3_copy, by decide, by decide +kernel, by decide +kernel, by decide +kernel⟩
theorem lk_X11_194 : jLk RX11 194 yX1_smooth MX1_smooth 2 := ⟨jT_in (i := 870) (by decide +kernel) (by decide +kernel), wIN_X1, wCD_X1_smooth, by decide, by decide +kernel, by decide +kernel, by decide +kernel⟩
theorem lk_X11_201 : jLk RX11 201 yX8_tellOn MX8_tellOn 3 := ⟨jT_in (i := 875) (by decide +kernel) (by decide +kernel), wIN_X8, wCD_X8_tellOn, by decide, by decide +kernel, by decide +kernel, by decide +kernel⟩
theorem lk_X11_208 : jLk RX11 208 yX11_isHalf MX11_isHalf 1 := ⟨jT_in (i := 899) (by decide +kernel) (by decide +kernel), wIN_X11, wCD_X11_isHalf, by decide, by decide +kernel, by decide +kernel, by decide +kernel⟩
theorem lk_X11_211 : jLk RX11 211 yX2_look MX2_look 1 := ⟨jT_in (i := 902) (by decide +kernel) (by decide +kernel), wIN_X2, wCD_X2_look, by decide, by decide +kernel, by decide +kernel, by decide +kernel⟩
theorem lk_X11_220 : jLk RX11 220 yX8_isEarly MX8_isEarly 1 := ⟨jT_in (i := 931) (by decide +kernel) (by decide +kernel), wIN_X8, wCD_X8_isEarly, by decide, by decide +kernel, by decide +kernel, by decide +kernel⟩
theorem lk_X11_223 : jLk RX11 223 yX2_nearest MX2_nearest 3 := ⟨jT_in (i := 932) (by decide +kernel) (by decide +kernel), wIN_X2, wCD_X2_nearest, by decide, by decide +kernel, by decide +kernel, by decide +kernel⟩
theorem lk_X11_230 : jLk RX11 230 yX2_countKinds MX2_countKinds 0 := ⟨jT_in (i := 937) (by decide +kernel) (by decide +kernel), wIN_X2, wCD_X2_countKinds, by decide, by decide +kernel, by decide +kernel, by decide +kernel⟩
theorem lk_X11_236 : jLk RX11 236 yX11_isBound MX11_isBound 1 := ⟨jT_in (i := 951) (by decide +kernel) (by decide +kernel), wIN_X11, wCD_X11_isBound, by decide, by decide +kernel, by decide +kernel, by decide +kernel⟩
theorem lk_X11_239 : jLk RX11 239 yX2_pairsBy MX2_pairsBy 2 := ⟨jT_in (i := 954) (by decide +kernel) (by decide +kernel), wIN_X2, wCD_X2_pairsBy, by decide, by decide +kernel, by decide +kernel, by decide +kernel⟩
theorem lk_X11_243 : jLk RX11 243 yX2_pairs MX2_pairs 1 := ⟨jT_in (i := 962) (by decide +kernel) (by decide +kernel), wIN_X2, wCD_X2_pairs, by decide, by decide +kernel, by decide +kernel, by decide +kernel⟩
theorem lk_X11_246 : jLk RX11 246 yX2_fraction MX2_fraction 3 := ⟨jT_in (i := 966) (by decide +kernel) (by decide +kernel), wIN_X2, wCD_X2_fraction, by decide, by decide +kernel, by decide +kernel, by decide +kernel⟩
theorem lk_X11_253 : jLk RX11 253 yX2_matchesOf MX2_matchesOf 2 := ⟨jT_in (i := 983) (by decide +kernel) (by decide +kernel), wIN_X2, wCD_X2_matchesOf, by decide, by decide +kernel, by decide +kernel, by decide +kernel⟩
theorem lk_X11_259 : jLk RX11 259 yX2_addsOf MX2_addsOf 3 := ⟨jT_in (i := 999) (by decide +kernel) (by decide +kernel), wIN_X2, wCD_X2_addsOf, by decide, by decide +kernel, by decide +kernel, by decide +kernel⟩
theorem lk_X11_270 : jLk RX11 270 yX8_hasWordAfter MX8_hasWordAfter 2 := ⟨jT_in (i := 1025) (by decide +kernel) (by decide +kernel), wIN_X8, wCD_X8_hasWordAfter, by decide, by decide +kernel, by decide +kernel, by decide +kernel⟩
theorem lk_X11_280 : jLk RX11 280 yX0_room MX0_room 0 := ⟨jT_in (i := 1035) (by decide +kernel) (by decide +kernel), wIN_X0, wCD_X0_room, by decide, by decide +kernel, by decide +kernel, by decide +kernel⟩
theorem lk_X11_284 : jLk RX11 284 yX0_start MX0_start 3 := ⟨jT_in (i := 1039) (by decide +kernel) (by decide +kernel), wIN_X0, wCD_X0_start, by decide, by decide +kernel, by decide +kernel, by decide +kernel⟩
theorem lk_X11_285 : jLk RX11 285 yX0_hear MX0_hear 4 := ⟨jT_in (i := 1043) (by decide +kernel) (by decide +kernel), wIN_X0, wCD_X0_hear, by decide, by decide +kernel, by decide +kernel, by decide +kernel⟩
theorem lk_X11_289 : jLk RX11 289 yX0_has MX0_has 1 := ⟨jT_in (i := 1055) (by decide +kernel) (by decide +kernel), wIN_X0, wCD_X0_has, by decide, by decide +kernel, by decide +kernel, by decide +kernel⟩
theorem lk_X11_290 : jLk RX11 290 yX2_isBack MX2_isBack 1 := ⟨jT_in (i := 1056) (by decide +kernel) (by decide +kernel), wIN_X2, wCD_X2_isBack, by decide, by decide +kernel, by decide +kernel, by decide +kernel⟩
theorem lk_X11_300 : jLk RX11 300 yX2_partedBy MX2_partedBy 2 := ⟨jT_in (i := 1069) (by decide +kernel) (by decide +kernel), wIN_X2, wCD_X2_partedBy, by decide, by decide +kernel, by decide +kernel, by decide +kernel⟩
theorem lk_X11_303 : jLk RX11 303 yX2_muddledAt MX2_muddledAt 1 := ⟨jT_in (i := 1082) (by decide +kernel) (by decide +kernel), wIN_X2, wCD_X2_muddledAt, by decide, by decide +kernel, by decide +kernel, by decide +kernel⟩
theorem lk_X11_314 : jLk RX11 314 yX2_isCounted MX2_isCounted 2 := ⟨jT_in (i := 1095) (by decide +kernel) (by decide +kernel), wIN_X2, wCD_X2_isCounted, by decide, by decide +kernel, by decide +kernel, by decide +kernel⟩
theorem lk_X11_328 : jLk RX11 328 yX9_pay MX9_pay 2 := ⟨jT_in (i := 1104) (by decide +kernel) (by decide +kernel), wIN_X9, wCD_X9_pay, by decide, by decide +kernel, by decide +kernel, by decide +kernel⟩
theorem lk_X11_336 : jLk RX11 336 yX9_fill MX9_fill 2 := ⟨jT_in (i := 1113) (by decide +kernel) (by decide +kernel), wIN_X9, wCD_X9_fill, by decide, by decide +kernel, by decide +kernel, by decide +kernel⟩
theorem lk_X11_339 : jLk RX11 339 yX9_allPaid MX9_allPaid 0 := ⟨jT_in (i := 1121) (by decide +kernel) (by decide +kernel), wIN_X9, wCD_X9_allPaid, by decide, by decide +kernel, by decide +kernel, by decide +kernel⟩
theorem lk_X11_342 : jLk RX11 342 yX9_moreBy MX9_moreBy 1 := ⟨jT_in (i := 1125) (by decide +kernel) (by decide +kernel), wIN_X9, wCD_X9_moreBy, by decide, by decide +kernel, by decide +kernel, by decide +kernel⟩
theorem lk_X11_348 : jLk RX11 348 yX9_leave MX9_leave 2 := ⟨jT_in (i := 1137) (by decide +kernel) (by decide +kernel), wIN_X9, wCD_X9_leave, by decide, by decide +kernel, by decide +kernel, by decide +kernel⟩
theorem lk_X11_351 : jLk RX11 351 yX9_leastRate MX9_leastRate 0 := ⟨jT_in (i := 1145) (by decide +kernel) (by decide +kernel), wIN_X9, wCD_X9_leastRate, by decide, by decide +kernel, by decide +kernel, by decide +kernel⟩
theorem lk_X11_361 : jLk RX11 361 yX10_start MX10_start 1 := ⟨jT_in (i := 1163) (by decide +kernel) (by decide +kernel), wIN_X10, wCD_X10_start, by decide, by decide +kernel, by decide +kernel, by decide +kernel⟩
theorem lk_X11_363 : jLk RX11 363 yX10_has MX10_has 1 := ⟨jT_in (i := 1171) (by decide +kernel) (by decide +kernel), wIN_X10, wCD_X10_has, by decide, by decide +kernel, by decide +kernel, by decide +kernel⟩
theorem lk_X11_364 : jLk RX11 364 yX10_tell MX10_tell 3 := ⟨jT_in (i := 1175) (by decide +kernel) (by decide +kernel), wIN_X10, wCD_X10_tell, by decide, by decide +kernel, by decide +kernel, by decide +kernel⟩
theorem lk_X11_367 : jLk RX11 367 yX10_hasAll MX10_hasAll 1 := ⟨jT_in (i := 1184) (by decide +kernel) (by decide +kernel), wIN_X10, wCD_X10_hasAll, by decide, by decide +kernel, by decide +kernel, by decide +kernel⟩
theorem lk_X11_370 : jLk RX11 370 yX10_weigh MX10_weigh 1 := ⟨jT_in (i := 1188) (by decide +kernel) (by decide +kernel), wIN_X10, wCD_X10_weigh, by decide, by decide +kernel, by decide +kernel, by decide +kernel⟩
theorem lk_X11_379 : jLk RX11 379 yX7_canBe MX7_canBe 1 := ⟨jT_in (i := 1214) (by decide +kernel) (by decide +kernel), wIN_X7, wCD_X7_canBe, by decide, by decide +kernel, by decide +kernel, by decide +kernel⟩
theorem lk_X11_384 : jLk RX11 384 yX7_lay MX7_lay 3 := ⟨jT_in (i := 1219) (by decide +kernel) (by decide +kernel), wIN_X7, wCD_X7_lay, by decide, by decide +kernel, by decide +kernel, by decide +kernel⟩
theorem lk_X11_390 : jLk RX11 390 yX7_put MX7_put 3 := ⟨jT_in (i := 1234) (by decide +kernel) (by decide +kernel), wIN_X7, wCD_X7_put, by decide, by decide +kernel, by decide +kernel, by decide +kernel⟩
theorem lk_X11_393 : jLk RX11 393 yX7_at MX7_at 2 := ⟨jT_in (i := 1245) (by decide +kernel) (by decide +kernel), wIN_X7, wCD_X7_at, by decide, by decide +kernel, by decide +kernel, by decide +kernel⟩
theorem lk_X11_394 : jLk RX11 394 yX0_greatest MX0_greatest 1 := ⟨jT_in (i := 1249) (by decide +kernel) (by decide +kernel), wIN_X0, wCD_X0_greatest, by decide, by decide +kernel, by decide +kernel, by decide +kernel⟩
theorem lk_X11_397 : jLk RX11 397 yX8_hasEarly MX8_hasEarly 0 := ⟨jT_in (i := 1256) (by decide +kernel) (by decide +kernel), wIN_X8, wCD_X8_hasEarly, by decide, by decide +kernel, by decide +kernel, by decide +kernel⟩
theorem lk_X11_400 : jLk RX11 400 yX11_imageAt MX11_imageAt 1 := ⟨jT_in (i := 1265) (by decide +kernel) (by decide +kernel), wIN_X11, wCD_X11_imageAt, by decide, by decide +kernel, by decide +kernel, by decide +kernel⟩
theorem lk_X11_404 : jLk RX11 404 yX8_copy MX8_copy 1 := ⟨jT_in (i := 1269) (by decide +kernel) (by decide +kernel), wIN_X8, wCD_X8_copy, by decide, by decide +kernel, by decide +kernel, by decide +kernel⟩
theorem lk_X11_410 : jLk RX11 410 yX11_linesOf MX11_linesOf 2 := ⟨jT_in (i := 1309) (by decide +kernel) (by decide +kernel), wIN_X11, wCD_X11_linesOf, by decide, by decide +kernel, by decide +kernel, by decide +kernel⟩
theorem lk_X0_35 : jLk RX0 35 yX0_has MX0_has 1 := ⟨jT_in (i := 1047) (by decide +kernel) (by decide +kernel), wIN_X0, wCD_X0_has, by decide, by decide +kernel, by decide +kernel, by decide +kernel⟩
theorem lk_X1_44 : jLk RX1 44 yX1_step MX1_step 2 := ⟨jT_in (i := 595) (by decide +kernel) (by decide +kernel), wIN_X1, wCD_X1_step, by decide, by decide +kernel, by decide +kernel, by decide +kernel⟩
theorem lk_X1_48 : jLk RX1 48 yX1_holds MX1_holds 3 := ⟨jT_in (i := 599) (by decide +kernel) (by decide +kernel), wIN_X1, wCD_X1_holds, by decide, by decide +kernel, by decide +kernel, by decide +kernel⟩
theorem lk_X1_52 : jLk RX1 52 yX1_replaced MX1_replaced 2 := ⟨jT_in (i := 612) (by decide +kernel) (by decide +kernel), wIN_X1, wCD_X1_replaced, by decide, by decide +kernel, by decide +kernel, by decide +kernel⟩
theorem lk_X1_56 : jLk RX1 56 yX4_length MX4_length 1 := ⟨jT_in (i := 611) (by decide +kernel) (by decide +kernel), wIN_X4, wCD_X4_length, by decide, by decide +kernel, by decide +kernel, by decide +kernel⟩
theorem lk_X1_62 : jLk RX1 62 yX4_without MX4_without 2 := ⟨jT_in (i := 616) (by decide +kernel) (by decide +kernel), wIN_X4, wCD_X4_without, by decide, by decide +kernel, by decide +kernel, by decide +kernel⟩
theorem lk_X1_65 : jLk RX1 65 yX4_head MX4_head 2 := ⟨jT_in (i := 619) (by decide +kernel) (by decide +kernel), wIN_X4, wCD_X4_head, by decide, by decide +kernel, by decide +kernel, by decide +kernel⟩
theorem lk_X1_68 : jLk RX1 68 yX4_behind MX4_behind 2 := ⟨jT_in (i := 620) (by decide +kernel) (by decide +kernel), wIN_X4, wCD_X4_behind, by decide, by decide +kernel, by decide +kernel, by decide +kernel⟩
theorem lk_X1_71 : jLk RX1 71 yX1_taken MX1_taken 4 := ⟨jT_in (i := 603) (by decide +kernel) (by decide +kernel), wIN_X1, wCD_X1_taken, by decide, by decide +kernel, by decide +kernel, by decide +kernel⟩
theorem lk_X1_77 : jLk RX1 77 yX4_places MX4_places 2 := ⟨jT_in (i := 608) (by decide +kernel) (by decide +kernel), wIN_X4, wCD_X4_places, by decide, by decide +kernel, by decide +kernel, by decide +kernel⟩
theorem lk_X2_35 : jLk RX2 35 yX8_isEarly MX8_isEarly 1 := ⟨jT_in (i := 920) (by decide +kernel) (by decide +kernel), wIN_X8, wCD_X8_isEarly, by decide, by decide +kernel, by decide +kernel, by decide +kernel⟩
theorem lk_X2_44 : jLk RX2 44 yX5_has MX5_has 1 := ⟨jT_in (i := 924) (by decide +kernel) (by decide +kernel), wIN_X5, wCD_X5_has, by decide, by decide +kernel, by decide +kernel, by decide +kernel⟩
theorem lk_X2_47 : jLk RX2 47 yX2_greatestCommon MX2_greatestCommon 2 := ⟨jT_in (i := 969) (by decide +kernel) (by decide +kernel), wIN_X2, wCD_X2_greatestCommon, by decide, by decide +kernel, by decide +kernel, by decide +kernel⟩
theorem lk_X2_56 : jLk RX2 56 yX2_pileOf MX2_pileOf 1 := ⟨jT_in (i := 912) (by decide +kernel) (by decide +kernel), wIN_X2, wCD_X2_pileOf, by decide, by decide +kernel, by decide +kernel, by decide +kernel⟩
theorem lk_X2_67 : jLk RX2 67 yX2_isAmong MX2_isAmong 3 := ⟨jT_in (i := 916) (by decide +kernel) (by decide +kernel), wIN_X2, wCD_X2_isAmong, by decide, by decide +kernel, by decide +kernel, by decide +kernel⟩
theorem lk_X2_83 : jLk RX2 83 yX4_alike MX4_alike 2 := ⟨jT_in (i := 925) (by decide +kernel) (by decide +kernel), wIN_X4, wCD_X4_alike, by decide, by decide +kernel, by decide +kernel, by decide +kernel⟩
theorem lk_X2_89 : jLk RX2 89 yX5_at MX5_at 2 := ⟨jT_in (i := 906) (by decide +kernel) (by decide +kernel), wIN_X5, wCD_X5_at, by decide, by decide +kernel, by decide +kernel, by decide +kernel⟩
theorem lk_X2_93 : jLk RX2 93 yX5_has_ MX5_has_ 2 := ⟨jT_in (i := 907) (by decide +kernel) (by decide +kernel), wIN_X5, wCD_X5_has_, by decide, by decide +kernel, by decide +kernel, by decide +kernel⟩
theorem lk_X2_99 : jLk RX2 99 yX2_nearest MX2_nearest 3 := ⟨jT_in (i := 908) (by decide +kernel) (by decide +kernel), wIN_X2, wCD_X2_nearest, by decide, by decide +kernel, by decide +kernel, by decide +kernel⟩
theorem lk_X2_118 : jLk RX2 118 yJ7_fill_53178 MJ7_fill_53178 2 := ⟨jT_in (i := 941) (by decide +kernel) (by decide +kernel), wIN_J7, wCD_J7_fill_53178, by decide, by decide +kernel, by decide +kernel, by decide +kernel⟩
theorem lk_X2_124 : jLk RX2 124 yX2_look MX2_look 1 := ⟨jT_in (i := 942) (by decide +kernel) (by decide +kernel), wIN_X2, wCD_X2_look, by decide, by decide +kernel, by decide +kernel, by decide +kernel⟩
theorem lk_X2_128 : jLk RX2 128 yX2_printedLike MX2_printedLike 2 := ⟨jT_in (i := 958) (by decide +kernel) (by decide +kernel), wIN_X2, wCD_X2_printedLike, by decide, by decide +kernel, by decide +kernel, by decide +kernel⟩
theorem lk_X2_132 : jLk RX2 132 yX2_bookHasLike MX2_bookHasLike 3 := ⟨jT_in (i := 987) (by decide +kernel) (by decide +kernel), wIN_X2, wCD_X2_bookHasLike, by decide, by decide +kernel, by decide +kernel, by decide +kernel⟩
theorem lk_X2_140 : jLk RX2 140 yX1_smooth MX1_smooth 2 := ⟨jT_in (i := 1003) (by decide +kernel) (by decide +kernel), wIN_X1, wCD_X1_smooth, by decide, by decide +kernel, by decide +kernel, by decide +kernel⟩
theorem lk_X2_146 : jLk RX2 146 yX2_wouldBeTheirs MX2_wouldBeTheirs 2 := ⟨jT_in (i := 1004) (by decide +kernel) (by decide +kernel), wIN_X2, wCD_X2_wouldBeTheirs, by decide, by decide +kernel, by decide +kernel, by decide +kernel⟩
theorem lk_X2_154 : jLk RX2 154 yX0_has MX0_has 1 := ⟨jT_in (i := 1060) (by decide +kernel) (by decide +kernel), wIN_X0, wCD_X0_has, by decide, by decide +kernel, by decide +kernel, by decide +kernel⟩
theorem lk_X2_166 : jLk RX2 166 yX2_isMuddled MX2_isMuddled 1 := ⟨jT_in (i := 1086) (by decide +kernel) (by decide +kernel), wIN_X2, wCD_X2_isMuddled, by decide, by decide +kernel, by decide +kernel, by decide +kernel⟩
theorem lk_X2_169 : jLk RX2 169 yX0_heard MX0_heard 2 := ⟨jT_in (i := 1073) (by decide +kernel) (by decide +kernel), wIN_X0, wCD_X0_heard, by decide, by decide +kernel, by decide +kernel, by decide +kernel⟩
theorem lk_X2_172 : jLk RX2 172 yX2_isBack MX2_isBack 1 := ⟨jT_in (i := 1077) (by decide +kernel) (by decide +kernel), wIN_X2, wCD_X2_isBack, by decide, by decide +kernel, by decide +kernel, by decide +kernel⟩
theorem lk_X3_34 : jLk RX3 34 yJ7_fill_53178 MJ7_fill_53178 2 := ⟨jT_in (i := 832) (by decide +kernel) (by decide +kernel), wIN_J7, wCD_J7_fill_53178, by decide, by decide +kernel, by decide +kernel, by decide +kernel⟩
theorem lk_X3_42 : jLk RX3 42 yX4_word MX4_word 2 := ⟨jT_in (i := 890) (by decide +kernel) (by decide +kernel), wIN_X4, wCD_X4_word, by decide, by decide +kernel, by decide +kernel, by decide +kernel⟩
theorem lk_X4_9 : jLk RX4 9 yX4_word MX4_word 2 := ⟨jT_in (i := 569) (by decide +kernel) (by decide +kernel), wIN_X4, wCD_X4_word, by decide, by decide +kernel, by decide +kernel, by decide +kernel⟩
theorem lk_X4_15 : jLk RX4 15 yX4_length MX4_length 1 := ⟨jT_in (i := 566) (by decide +kernel) (by decide +kernel), wIN_X4, wCD_X4_length, by decide, by decide +kernel, by decide +kernel, by decide +kernel⟩
theorem lk_X4_19 : jLk RX4 19 yX4_head MX4_head 2 := ⟨jT_in (i := 572) (by decide +kernel) (by decide +kernel), wIN_X4, wCD_X4_head, by decide, by decide +kernel, by decide +kernel, by decide +kernel⟩
theorem lk_X4_31 : jLk RX4 31 yX4_common MX4_common 2 := ⟨jT_in (i := 655) (by decide +kernel) (by decide +kernel), wIN_X4, wCD_X4_common, by decide, by decide +kernel, by decide +kernel, by decide +kernel⟩
theorem lk_X4_35 : jLk RX4 35 yX4_places MX4_places 2 := ⟨jT_in (i := 658) (by decide +kernel) (by decide +kernel), wIN_X4, wCD_X4_places, by decide, by decide +kernel, by decide +kernel, by decide +kernel⟩
theorem lk_X4_38 : jLk RX4 38 yJ6_bitCount_0f7a4 MJ6_bitCount_0f7a4 1 := ⟨jT_in (i := 659) (by decide +kernel) (by decide +kernel), wIN_J6, wCD_J6_bitCount_0f7a4, by decide, by decide +kernel, by decide +kernel, by decide +kernel⟩
theorem lk_X5_47 : jLk RX5 47 yX5_has MX5_has 1 := ⟨jT_in (i := 580) (by decide +kernel) (by decide +kernel), wIN_X5, wCD_X5_has, by decide, by decide +kernel, by decide +kernel, by decide +kernel⟩
theorem lk_X5_51 : jLk RX5 51 yX5_isFull MX5_isFull 0 := ⟨jT_in (i := 340) (by decide +kernel) (by decide +kernel), wIN_X5, wCD_X5_isFull, by decide, by decide +kernel, by decide +kernel, by decide +kernel⟩
theorem lk_X5_55 : jLk RX5 55 yX5_isFull_ MX5_isFull_ 1 := ⟨jT_in (i := 590) (by decide +kernel) (by decide +kernel), wIN_X5, wCD_X5_isFull_, by decide, by decide +kernel, by decide +kernel, by decide +kernel⟩
theorem lk_X5_57 : jLk RX5 57 yX5_has_ MX5_has_ 2 := ⟨jT_in (i := 646) (by decide +kernel) (by decide +kernel), wIN_X5, wCD_X5_has_, by decide, by decide +kernel, by decide +kernel, by decide +kernel⟩
theorem lk_X6_54 : jLk RX6 54 yX6_endOfToken MX6_endOfToken 3 := ⟨jT_in (i := 684) (by decide +kernel) (by decide +kernel), wIN_X6, wCD_X6_endOfToken, by decide, by decide +kernel, by decide +kernel, by decide +kernel⟩
theorem lk_X6_58 : jLk RX6 58 yX6_kindOf MX6_kindOf 3 := ⟨jT_in (i := 694) (by decide +kernel) (by decide +kernel), wIN_X6, wCD_X6_kindOf, by decide, by decide +kernel, by decide +kernel, by decide +kernel⟩
theorem lk_X6_61 : jLk RX6 61 yX6_numberOf MX6_numberOf 3 := ⟨jT_in (i := 764) (by decide +kernel) (by decide +kernel), wIN_X6, wCD_X6_numberOf, by decide, by decide +kernel, by decide +kernel, by decide +kernel⟩
theorem lk_X6_64 : jLk RX6 64 yX6_putToken MX6_putToken 3 := ⟨jT_in (i := 767) (by decide +kernel) (by decide +kernel), wIN_X6, wCD_X6_putToken, by decide, by decide +kernel, by decide +kernel, by decide +kernel⟩
theorem lk_X6_68 : jLk RX6 68 yX6_isLetter MX6_isLetter 1 := ⟨jT_in (i := 687) (by decide +kernel) (by decide +kernel), wIN_X6, wCD_X6_isLetter, by decide, by decide +kernel, by decide +kernel, by decide +kernel⟩
theorem lk_X6_72 : jLk RX6 72 yX6_isDigit MX6_isDigit 1 := ⟨jT_in (i := 690) (by decide +kernel) (by decide +kernel), wIN_X6, wCD_X6_isDigit, by decide, by decide +kernel, by decide +kernel, by decide +kernel⟩
theorem lk_X6_78 : jLk RX6 78 yX6_wordKind MX6_wordKind 3 := ⟨jT_in (i := 697) (by decide +kernel) (by decide +kernel), wIN_X6, wCD_X6_wordKind, by decide, by decide +kernel, by decide +kernel, by decide +kernel⟩
theorem lk_X6_83 : jLk RX6 83 yX6_spells MX6_spells 4 := ⟨jT_in (i := 701) (by decide +kernel) (by decide +kernel), wIN_X6, wCD_X6_spells, by decide, by decide +kernel, by decide +kernel, by decide +kernel⟩
theorem lk_X6_121 : jLk RX6 121 yX1_clear MX1_clear 0 := ⟨jT_in (i := 775) (by decide +kernel) (by decide +kernel), wIN_X1, wCD_X1_clear, by decide, by decide +kernel, by decide +kernel, by decide +kernel⟩
theorem lk_X6_124 : jLk RX6 124 yX6_isAt MX6_isAt 1 := ⟨jT_in (i := 779) (by decide +kernel) (by decide +kernel), wIN_X6, wCD_X6_isAt, by decide, by decide +kernel, by decide +kernel, by decide +kernel⟩
theorem lk_X6_127 : jLk RX6 127 yX6_readRule MX6_readRule 0 := ⟨jT_in (i := 783) (by decide +kernel) (by decide +kernel), wIN_X6, wCD_X6_readRule, by decide, by decide +kernel, by decide +kernel, by decide +kernel⟩
theorem lk_X6_133 : jLk RX6 133 yX6_readSide MX6_readSide 1 := ⟨jT_in (i := 787) (by decide +kernel) (by decide +kernel), wIN_X6, wCD_X6_readSide, by decide, by decide +kernel, by decide +kernel, by decide +kernel⟩
theorem lk_X6_137 : jLk RX6 137 yX6_take MX6_take 1 := ⟨jT_in (i := 800) (by decide +kernel) (by decide +kernel), wIN_X6, wCD_X6_take, by decide, by decide +kernel, by decide +kernel, by decide +kernel⟩
theorem lk_X6_144 : jLk RX6 144 yX6_readTest MX6_readTest 1 := ⟨jT_in (i := 804) (by decide +kernel) (by decide +kernel), wIN_X6, wCD_X6_readTest, by decide, by decide +kernel, by decide +kernel, by decide +kernel⟩
theorem lk_X6_147 : jLk RX6 147 yX1_put MX1_put 3 := ⟨jT_in (i := 820) (by decide +kernel) (by decide +kernel), wIN_X1, wCD_X1_put, by decide, by decide +kernel, by decide +kernel, by decide +kernel⟩
theorem lk_X6_151 : jLk RX6 151 yX6_readNumber MX6_readNumber 3 := ⟨jT_in (i := 791) (by decide +kernel) (by decide +kernel), wIN_X6, wCD_X6_readNumber, by decide, by decide +kernel, by decide +kernel, by decide +kernel⟩
theorem lk_X6_155 : jLk RX6 155 yX4_behind MX4_behind 2 := ⟨jT_in (i := 799) (by decide +kernel) (by decide +kernel), wIN_X4, wCD_X4_behind, by decide, by decide +kernel, by decide +kernel, by decide +kernel⟩
theorem lk_X6_161 : jLk RX6 161 yX6_readFact MX6_readFact 1 := ⟨jT_in (i := 808) (by decide +kernel) (by decide +kernel), wIN_X6, wCD_X6_readFact, by decide, by decide +kernel, by decide +kernel, by decide +kernel⟩
theorem lk_X6_164 : jLk RX6 164 yX1_emit MX1_emit 2 := ⟨jT_in (i := 816) (by decide +kernel) (by decide +kernel), wIN_X1, wCD_X1_emit, by decide, by decide +kernel, by decide +kernel, by decide +kernel⟩
theorem lk_X6_168 : jLk RX6 168 yX6_readPlainFact MX6_readPlainFact 3 := ⟨jT_in (i := 812) (by decide +kernel) (by decide +kernel), wIN_X6, wCD_X6_readPlainFact, by decide, by decide +kernel, by decide +kernel, by decide +kernel⟩
theorem lk_X6_171 : jLk RX6 171 yX6_blame MX6_blame 1 := ⟨jT_in (i := 795) (by decide +kernel) (by decide +kernel), wIN_X6, wCD_X6_blame, by decide, by decide +kernel, by decide +kernel, by decide +kernel⟩
theorem lk_X6_174 : jLk RX6 174 yX3_clear MX3_clear 0 := ⟨jT_in (i := 828) (by decide +kernel) (by decide +kernel), wIN_X3, wCD_X3_clear, by decide, by decide +kernel, by decide +kernel, by decide +kernel⟩
theorem lk_X6_175 : jLk RX6 175 yX6_readWay MX6_readWay 0 := ⟨jT_in (i := 833) (by decide +kernel) (by decide +kernel), wIN_X6, wCD_X6_readWay, by decide, by decide +kernel, by decide +kernel, by decide +kernel⟩
theorem lk_X6_181 : jLk RX6 181 yX3_putSaying MX3_putSaying 2 := ⟨jT_in (i := 837) (by decide +kernel) (by decide +kernel), wIN_X3, wCD_X3_putSaying, by decide, by decide +kernel, by decide +kernel, by decide +kernel⟩
theorem lk_X6_184 : jLk RX6 184 yX3_putChance MX3_putChance 2 := ⟨jT_in (i := 841) (by decide +kernel) (by decide +kernel), wIN_X3, wCD_X3_putChance, by decide, by decide +kernel, by decide +kernel, by decide +kernel⟩
theorem lk_X7_28 : jLk RX7 28 yX7_canBe MX7_canBe 1 := ⟨jT_in (i := 1223) (by decide +kernel) (by decide +kernel), wIN_X7, wCD_X7_canBe, by decide, by decide +kernel, by decide +kernel, by decide +kernel⟩
theorem lk_X7_32 : jLk RX7 32 yJ7_fill_bad5a MJ7_fill_bad5a 4 := ⟨jT_in (i := 1224) (by decide +kernel) (by decide +kernel), wIN_J7, wCD_J7_fill_bad5a, by decide, by decide +kernel, by decide +kernel, by decide +kernel⟩
theorem lk_X7_35 : jLk RX7 35 yX7_cut MX7_cut 2 := ⟨jT_in (i := 1238) (by decide +kernel) (by decide +kernel), wIN_X7, wCD_X7_cut, by decide, by decide +kernel, by decide +kernel, by decide +kernel⟩
theorem lk_X8_83 : jLk RX8 83 yX5_copy MX5_copy 1 := ⟨jT_in (i := 1273) (by decide +kernel) (by decide +kernel), wIN_X5, wCD_X5_copy, by decide, by decide +kernel, by decide +kernel, by decide +kernel⟩
theorem lk_X8_93 : jLk RX8 93 yX1_copy MX1_copy 1 := ⟨jT_in (i := 849) (by decide +kernel) (by decide +kernel), wIN_X1, wCD_X1_copy, by decide, by decide +kernel, by decide +kernel, by decide +kernel⟩
theorem lk_X8_96 : jLk RX8 96 yX3_copy MX3_copy 1 := ⟨jT_in (i := 1279) (by decide +kernel) (by decide +kernel), wIN_X3, wCD_X3_copy, by decide, by decide +kernel, by decide +kernel, by decide +kernel⟩
theorem lk_X8_99 : jLk RX8 99 yX0_copy MX0_copy 1 := ⟨jT_in (i := 1280) (by decide +kernel) (by decide +kernel), wIN_X0, wCD_X0_copy, by decide, by decide +kernel, by decide +kernel, by decide +kernel⟩
theorem lk_X8_102 : jLk RX8 102 yX9_copy MX9_copy 1 := ⟨jT_in (i := 1285) (by decide +kernel) (by decide +kernel), wIN_X9, wCD_X9_copy, by decide, by decide +kernel, by decide +kernel, by decide +kernel⟩
theorem lk_X8_105 : jLk RX8 105 yX10_copy MX10_copy 1 := ⟨jT_in (i := 1290) (by decide +kernel) (by decide +kernel), wIN_X10, wCD_X10_copy, by decide, by decide +kernel, by decide +kernel, by decide +kernel⟩
theorem lk_X8_108 : jLk RX8 108 yX5_has MX5_has 1 := ⟨jT_in (i := 585) (by decide +kernel) (by decide +kernel), wIN_X5, wCD_X5_has, by decide, by decide +kernel, by decide +kernel, by decide +kernel⟩
theorem lk_X8_118 : jLk RX8 118 yX8_isEarly MX8_isEarly 1 := ⟨jT_in (i := 1260) (by decide +kernel) (by decide +kernel), wIN_X8, wCD_X8_isEarly, by decide, by decide +kernel, by decide +kernel, by decide +kernel⟩
theorem lk_X8_124 : jLk RX8 124 yX5_put MX5_put 3 := ⟨jT_in (i := 586) (by decide +kernel) (by decide +kernel), wIN_X5, wCD_X5_put, by decide, by decide +kernel, by decide +kernel, by decide +kernel⟩
theorem lk_X8_128 : jLk RX8 128 yX1_smooth MX1_smooth 2 := ⟨jT_in (i := 591) (by decide +kernel) (by decide +kernel), wIN_X1, wCD_X1_smooth, by decide, by decide +kernel, by decide +kernel, by decide +kernel⟩
theorem lk_X8_135 : jLk RX8 135 yX5_at MX5_at 2 := ⟨jT_in (i := 856) (by decide +kernel) (by decide +kernel), wIN_X5, wCD_X5_at, by decide, by decide +kernel, by decide +kernel, by decide +kernel⟩
theorem lk_X8_139 : jLk RX8 139 yX4_length MX4_length 1 := ⟨jT_in (i := 1029) (by decide +kernel) (by decide +kernel), wIN_X4, wCD_X4_length, by decide, by decide +kernel, by decide +kernel, by decide +kernel⟩
theorem lk_X8_145 : jLk RX8 145 yX4_word MX4_word 2 := ⟨jT_in (i := 1030) (by decide +kernel) (by decide +kernel), wIN_X4, wCD_X4_word, by decide, by decide +kernel, by decide +kernel, by decide +kernel⟩
theorem lk_X8_149 : jLk RX8 149 yX3_next MX3_next 1 := ⟨jT_in (i := 879) (by decide +kernel) (by decide +kernel), wIN_X3, wCD_X3_next, by decide, by decide +kernel, by decide +kernel, by decide +kernel⟩
theorem lk_X8_153 : jLk RX8 153 yX3_drawn MX3_drawn 1 := ⟨jT_in (i := 883) (by decide +kernel) (by decide +kernel), wIN_X3, wCD_X3_drawn, by decide, by decide +kernel, by decide +kernel, by decide +kernel⟩
theorem lk_X8_159 : jLk RX8 159 yX3_respoken MX3_respoken 1 := ⟨jT_in (i := 886) (by decide +kernel) (by decide +kernel), wIN_X3, wCD_X3_respoken, by decide, by decide +kernel, by decide +kernel, by decide +kernel⟩
theorem lk_X8_165 : jLk RX8 165 yX8_moveAbout MX8_moveAbout 3 := ⟨jT_in (i := 891) (by decide +kernel) (by decide +kernel), wIN_X8, wCD_X8_moveAbout, by decide, by decide +kernel, by decide +kernel, by decide +kernel⟩
theorem lk_X9_40 : jLk RX9 40 yX9_pagesOf MX9_pagesOf 2 := ⟨jT_in (i := 1129) (by decide +kernel) (by decide +kernel), wIN_X9, wCD_X9_pagesOf, by decide, by decide +kernel, by decide +kernel, by decide +kernel⟩
theorem lk_X9_44 : jLk RX9 44 yX9_freeUpTo MX9_freeUpTo 1 := ⟨jT_in (i := 1149) (by decide +kernel) (by decide +kernel), wIN_X9, wCD_X9_freeUpTo, by decide, by decide +kernel, by decide +kernel, by decide +kernel⟩
theorem lk_X9_53 : jLk RX9 53 yX9_firstSpanEndingFrom MX9_firstSpanEndingFrom 1 := ⟨jT_in (i := 1153) (by decide +kernel) (by decide +kernel), wIN_X9, wCD_X9_firstSpanEndingFrom, by decide, by decide +kernel, by decide +kernel, by decide +kernel⟩
theorem lk_X10_31 : jLk RX10 31 yX10_has MX10_has 1 := ⟨jT_in (i := 1179) (by decide +kernel) (by decide +kernel), wIN_X10, wCD_X10_has, by decide, by decide +kernel, by decide +kernel, by decide +kernel⟩
theorem lk_X10_35 : jLk RX10 35 yX10_hasAll MX10_hasAll 1 := ⟨jT_in (i := 1192) (by decide +kernel) (by decide +kernel), wIN_X10, wCD_X10_hasAll, by decide, by decide +kernel, by decide +kernel, by decide +kernel⟩
theorem lk_X10_38 : jLk RX10 38 yX10_gatherSayings MX10_gatherSayings 0 := ⟨jT_in (i := 1193) (by decide +kernel) (by decide +kernel), wIN_X10, wCD_X10_gatherSayings, by decide, by decide +kernel, by decide +kernel, by decide +kernel⟩
theorem lk_X10_41 : jLk RX10 41 yX10_weighOne MX10_weighOne 1 := ⟨jT_in (i := 1198) (by decide +kernel) (by decide +kernel), wIN_X10, wCD_X10_weighOne, by decide, by decide +kernel, by decide +kernel, by decide +kernel⟩
theorem lk_X10_45 : jLk RX10 45 yJ7_fill_53178 MJ7_fill_53178 2 := ⟨jT_in (i := 1197) (by decide +kernel) (by decide +kernel), wIN_J7, wCD_J7_fill_53178, by decide, by decide +kernel, by decide +kernel, by decide +kernel⟩
theorem lk_X10_51 : jLk RX10 51 yX10_weightOf MX10_weightOf 1 := ⟨jT_in (i := 1202) (by decide +kernel) (by decide +kernel), wIN_X10, wCD_X10_weightOf, by decide, by decide +kernel, by decide +kernel, by decide +kernel⟩
theorem lk_X10_55 : jLk RX10 55 yX10_costOfParts MX10_costOfParts 2 := ⟨jT_in (i := 1206) (by decide +kernel) (by decide +kernel), wIN_X10, wCD_X10_costOfParts, by decide, by decide +kernel, by decide +kernel, by decide +kernel⟩
theorem lk_X12_73 : jLk RX12 73 yX12_wordAt MX12_wordAt 2 := ⟨jT_in (i := 1459) (by decide +kernel) (by decide +kernel), wIN_X12, wCD_X12_wordAt, by decide, by decide +kernel, by decide +kernel, by decide +kernel⟩
theorem lk_X12_77 : jLk RX12 77 yX12_lengthOf MX12_lengthOf 1 := ⟨jT_in (i := 1456) (by decide +kernel) (by decide +kernel), wIN_X12, wCD_X12_lengthOf, by decide, by decide +kernel, by decide +kernel, by decide +kernel⟩
theorem lk_X12_81 : jLk RX12 81 yX12_within MX12_within 3 := ⟨jT_in (i := 1437) (by decide +kernel) (by decide +kernel), wIN_X12, wCD_X12_within, by decide, by decide +kernel, by decide +kernel, by decide +kernel⟩
theorem lk_X12_85 : jLk RX12 85 yX12_no MX12_no 1 := ⟨jT_in (i := 1440) (by decide +kernel) (by decide +kernel), wIN_X12, wCD_X12_no, by decide, by decide +kernel, by decide +kernel, by decide +kernel⟩
theorem lk_X12_97 : jLk RX12 97 yX12_opens MX12_opens 3 := ⟨jT_in (i := 1448) (by decide +kernel) (by decide +kernel), wIN_X12, wCD_X12_opens, by decide, by decide +kernel, by decide +kernel, by decide +kernel⟩
theorem lk_X12_101 : jLk RX12 101 yX12_plain MX12_plain 1 := ⟨jT_in (i := 1462) (by decide +kernel) (by decide +kernel), wIN_X12, wCD_X12_plain, by decide, by decide +kernel, by decide +kernel, by decide +kernel⟩
theorem lk_X12_107 : jLk RX12 107 yX12_isLine MX12_isLine 3 := ⟨jT_in (i := 1478) (by decide +kernel) (by decide +kernel), wIN_X12, wCD_X12_isLine, by decide, by decide +kernel, by decide +kernel, by decide +kernel⟩
theorem lk_X12_111 : jLk RX12 111 yX12_likeOf MX12_likeOf 2 := ⟨jT_in (i := 1486) (by decide +kernel) (by decide +kernel), wIN_X12, wCD_X12_likeOf, by decide, by decide +kernel, by decide +kernel, by decide +kernel⟩
theorem lk_X12_139 : jLk RX12 139 yX12_see MX12_see 1 := ⟨jT_in (i := 1502) (by decide +kernel) (by decide +kernel), wIN_X12, wCD_X12_see, by decide, by decide +kernel, by decide +kernel, by decide +kernel⟩
theorem lk_X12_145 : jLk RX12 145 yX12_isSmall MX12_isSmall 1 := ⟨jT_in (i := 1506) (by decide +kernel) (by decide +kernel), wIN_X12, wCD_X12_isSmall, by decide, by decide +kernel, by decide +kernel, by decide +kernel⟩
theorem lk_X12_149 : jLk RX12 149 yX12_keyAt MX12_keyAt 0 := ⟨jT_in (i := 1509) (by decide +kernel) (by decide +kernel), wIN_X12, wCD_X12_keyAt, by decide, by decide +kernel, by decide +kernel, by decide +kernel⟩
theorem lk_X12_152 : jLk RX12 152 yX12_isDigit MX12_isDigit 1 := ⟨jT_in (i := 1516) (by decide +kernel) (by decide +kernel), wIN_X12, wCD_X12_isDigit, by decide, by decide +kernel, by decide +kernel, by decide +kernel⟩
theorem lk_X12_164 : jLk RX12 164 yX12_is MX12_is 1 := ⟨jT_in (i := 1531) (by decide +kernel) (by decide +kernel), wIN_X12, wCD_X12_is, by decide, by decide +kernel, by decide +kernel, by decide +kernel⟩
theorem lk_X12_167 : jLk RX12 167 yX12_next MX12_next 0 := ⟨jT_in (i := 1498) (by decide +kernel) (by decide +kernel), wIN_X12, wCD_X12_next, by decide, by decide +kernel, by decide +kernel, by decide +kernel⟩
theorem lk_X12_170 : jLk RX12 170 yX12_eats MX12_eats 1 := ⟨jT_in (i := 1543) (by decide +kernel) (by decide +kernel), wIN_X12, wCD_X12_eats, by decide, by decide +kernel, by decide +kernel, by decide +kernel⟩
theorem lk_X12_173 : jLk RX12 173 yX12_fails MX12_fails 1 := ⟨jT_in (i := 1535) (by decide +kernel) (by decide +kernel), wIN_X12, wCD_X12_fails, by decide, by decide +kernel, by decide +kernel, by decide +kernel⟩
theorem lk_X12_180 : jLk RX12 180 yX12_parts MX12_parts 0 := ⟨jT_in (i := 1551) (by decide +kernel) (by decide +kernel), wIN_X12, wCD_X12_parts, by decide, by decide +kernel, by decide +kernel, by decide +kernel⟩
theorem lk_X12_183 : jLk RX12 183 yX12_emit MX12_emit 2 := ⟨jT_in (i := 1559) (by decide +kernel) (by decide +kernel), wIN_X12, wCD_X12_emit, by decide, by decide +kernel, by decide +kernel, by decide +kernel⟩
theorem lk_X12_187 : jLk RX12 187 yX12_fact MX12_fact 0 := ⟨jT_in (i := 1555) (by decide +kernel) (by decide +kernel), wIN_X12, wCD_X12_fact, by decide, by decide +kernel, by decide +kernel, by decide +kernel⟩
theorem lk_X12_193 : jLk RX12 193 yX12_test MX12_test 0 := ⟨jT_in (i := 1547) (by decide +kernel) (by decide +kernel), wIN_X12, wCD_X12_test, by decide, by decide +kernel, by decide +kernel, by decide +kernel⟩
theorem lk_X12_196 : jLk RX12 196 yX12_needs MX12_needs 1 := ⟨jT_in (i := 1539) (by decide +kernel) (by decide +kernel), wIN_X12, wCD_X12_needs, by decide, by decide +kernel, by decide +kernel, by decide +kernel⟩
theorem lk_X12_199 : jLk RX12 199 yX12_reads MX12_reads 3 := ⟨jT_in (i := 1527) (by decide +kernel) (by decide +kernel), wIN_X12, wCD_X12_reads, by decide, by decide +kernel, by decide +kernel, by decide +kernel⟩
theorem lk_X12_203 : jLk RX12 203 yX12_side MX12_side 2 := ⟨jT_in (i := 1523) (by decide +kernel) (by decide +kernel), wIN_X12, wCD_X12_side, by decide, by decide +kernel, by decide +kernel, by decide +kernel⟩
theorem lk_X12_211 : jLk RX12 211 yX12_readRule MX12_readRule 0 := ⟨jT_in (i := 1519) (by decide +kernel) (by decide +kernel), wIN_X12, wCD_X12_readRule, by decide, by decide +kernel, by decide +kernel, by decide +kernel⟩
theorem lk_X12_214 : jLk RX12 214 yX12_readWay MX12_readWay 0 := ⟨jT_in (i := 1563) (by decide +kernel) (by decide +kernel), wIN_X12, wCD_X12_readWay, by decide, by decide +kernel, by decide +kernel, by decide +kernel⟩
theorem lk_X12_223 : jLk RX12 223 yX12_hasWord MX12_hasWord 1 := ⟨jT_in (i := 1589) (by decide +kernel) (by decide +kernel), wIN_X12, wCD_X12_hasWord, by decide, by decide +kernel, by decide +kernel, by decide +kernel⟩
theorem lk_X12_226 : jLk RX12 226 yX12_holds MX12_holds 2 := ⟨jT_in (i := 1585) (by decide +kernel) (by decide +kernel), wIN_X12, wCD_X12_holds, by decide, by decide +kernel, by decide +kernel, by decide +kernel⟩
theorem lk_X12_230 : jLk RX12 230 yX12_stands MX12_stands 1 := ⟨jT_in (i := 1593) (by decide +kernel) (by decide +kernel), wIN_X12, wCD_X12_stands, by decide, by decide +kernel, by decide +kernel, by decide +kernel⟩
theorem lk_X12_233 : jLk RX12 233 yX12_does MX12_does 2 := ⟨jT_in (i := 1581) (by decide +kernel) (by decide +kernel), wIN_X12, wCD_X12_does, by decide, by decide +kernel, by decide +kernel, by decide +kernel⟩
theorem lk_X12_236 : jLk RX12 236 yX12_smooth MX12_smooth 2 := ⟨jT_in (i := 1577) (by decide +kernel) (by decide +kernel), wIN_X12, wCD_X12_smooth, by decide, by decide +kernel, by decide +kernel, by decide +kernel⟩
theorem lk_X12_244 : jLk RX12 244 yX12_draw MX12_draw 0 := ⟨jT_in (i := 1601) (by decide +kernel) (by decide +kernel), wIN_X12, wCD_X12_draw, by decide, by decide +kernel, by decide +kernel, by decide +kernel⟩
theorem lk_X12_247 : jLk RX12 247 yX12_said MX12_said 1 := ⟨jT_in (i := 1606) (by decide +kernel) (by decide +kernel), wIN_X12, wCD_X12_said, by decide, by decide +kernel, by decide +kernel, by decide +kernel⟩
theorem lk_X12_250 : jLk RX12 250 yX12_isEarly MX12_isEarly 1 := ⟨jT_in (i := 1618) (by decide +kernel) (by decide +kernel), wIN_X12, wCD_X12_isEarly, by decide, by decide +kernel, by decide +kernel, by decide +kernel⟩
theorem lk_X12_259 : jLk RX12 259 yX12_looks MX12_looks 3 := ⟨jT_in (i := 1630) (by decide +kernel) (by decide +kernel), wIN_X12, wCD_X12_looks, by decide, by decide +kernel, by decide +kernel, by decide +kernel⟩
theorem lk_X12_263 : jLk RX12 263 yX12_best MX12_best 2 := ⟨jT_in (i := 1626) (by decide +kernel) (by decide +kernel), wIN_X12, wCD_X12_best, by decide, by decide +kernel, by decide +kernel, by decide +kernel⟩
theorem lk_X12_269 : jLk RX12 269 yX12_smooths MX12_smooths 0 := ⟨jT_in (i := 1614) (by decide +kernel) (by decide +kernel), wIN_X12, wCD_X12_smooths, by decide, by decide +kernel, by decide +kernel, by decide +kernel⟩
theorem lk_X12_272 : jLk RX12 272 yX12_whoseIs MX12_whoseIs 1 := ⟨jT_in (i := 1622) (by decide +kernel) (by decide +kernel), wIN_X12, wCD_X12_whoseIs, by decide, by decide +kernel, by decide +kernel, by decide +kernel⟩
theorem lk_X12_275 : jLk RX12 275 yX12_mostOfSongs MX12_mostOfSongs 2 := ⟨jT_in (i := 1638) (by decide +kernel) (by decide +kernel), wIN_X12, wCD_X12_mostOfSongs, by decide, by decide +kernel, by decide +kernel, by decide +kernel⟩
theorem lk_X12_279 : jLk RX12 279 yX12_mostOfPrint MX12_mostOfPrint 1 := ⟨jT_in (i := 1642) (by decide +kernel) (by decide +kernel), wIN_X12, wCD_X12_mostOfPrint, by decide, by decide +kernel, by decide +kernel, by decide +kernel⟩
theorem lk_X12_282 : jLk RX12 282 yX12_counts MX12_counts 0 := ⟨jT_in (i := 1650) (by decide +kernel) (by decide +kernel), wIN_X12, wCD_X12_counts, by decide, by decide +kernel, by decide +kernel, by decide +kernel⟩
theorem lk_X12_285 : jLk RX12 285 yX12_common MX12_common 2 := ⟨jT_in (i := 1669) (by decide +kernel) (by decide +kernel), wIN_X12, wCD_X12_common, by decide, by decide +kernel, by decide +kernel, by decide +kernel⟩
theorem lk_X12_294 : jLk RX12 294 yX12_meets MX12_meets 2 := ⟨jT_in (i := 1662) (by decide +kernel) (by decide +kernel), wIN_X12, wCD_X12_meets, by decide, by decide +kernel, by decide +kernel, by decide +kernel⟩
theorem lk_X12_298 : jLk RX12 298 yX12_part MX12_part 3 := ⟨jT_in (i := 1666) (by decide +kernel) (by decide +kernel), wIN_X12, wCD_X12_part, by decide, by decide +kernel, by decide +kernel, by decide +kernel⟩
theorem lk_X12_302 : jLk RX12 302 yX12_matchesOf MX12_matchesOf 2 := ⟨jT_in (i := 1680) (by decide +kernel) (by decide +kernel), wIN_X12, wCD_X12_matchesOf, by decide, by decide +kernel, by decide +kernel, by decide +kernel⟩
theorem lk_X12_308 : jLk RX12 308 yX12_addsBy MX12_addsBy 3 := ⟨jT_in (i := 1693) (by decide +kernel) (by decide +kernel), wIN_X12, wCD_X12_addsBy, by decide, by decide +kernel, by decide +kernel, by decide +kernel⟩
theorem lk_X12_313 : jLk RX12 313 yX12_isAnswer MX12_isAnswer 5 := ⟨jT_in (i := 1718) (by decide +kernel) (by decide +kernel), wIN_X12, wCD_X12_isAnswer, by decide, by decide +kernel, by decide +kernel, by decide +kernel⟩
theorem lk_X12_317 : jLk RX12 317 yX12_answers MX12_answers 6 := ⟨jT_in (i := 1721) (by decide +kernel) (by decide +kernel), wIN_X12, wCD_X12_answers, by decide, by decide +kernel, by decide +kernel, by decide +kernel⟩
theorem lk_X12_321 : jLk RX12 321 yX12_isBehind MX12_isBehind 1 := ⟨jT_in (i := 1737) (by decide +kernel) (by decide +kernel), wIN_X12, wCD_X12_isBehind, by decide, by decide +kernel, by decide +kernel, by decide +kernel⟩
theorem lk_X12_324 : jLk RX12 324 yX12_isThere MX12_isThere 1 := ⟨jT_in (i := 1729) (by decide +kernel) (by decide +kernel), wIN_X12, wCD_X12_isThere, by decide, by decide +kernel, by decide +kernel, by decide +kernel⟩
theorem lk_X12_327 : jLk RX12 327 yX12_isBack MX12_isBack 1 := ⟨jT_in (i := 1733) (by decide +kernel) (by decide +kernel), wIN_X12, wCD_X12_isBack, by decide, by decide +kernel, by decide +kernel, by decide +kernel⟩
theorem lk_X12_332 : jLk RX12 332 yX12_isMuddled MX12_isMuddled 1 := ⟨jT_in (i := 1754) (by decide +kernel) (by decide +kernel), wIN_X12, wCD_X12_isMuddled, by decide, by decide +kernel, by decide +kernel, by decide +kernel⟩
theorem lk_X12_341 : jLk RX12 341 yX12_pagesIn MX12_pagesIn 2 := ⟨jT_in (i := 1777) (by decide +kernel) (by decide +kernel), wIN_X12, wCD_X12_pagesIn, by decide, by decide +kernel, by decide +kernel, by decide +kernel⟩
theorem lk_X12_344 : jLk RX12 344 yX12_isFree MX12_isFree 1 := ⟨jT_in (i := 1793) (by decide +kernel) (by decide +kernel), wIN_X12, wCD_X12_isFree, by decide, by decide +kernel, by decide +kernel, by decide +kernel⟩
theorem lk_X12_347 : jLk RX12 347 yX12_freeUpTo MX12_freeUpTo 1 := ⟨jT_in (i := 1789) (by decide +kernel) (by decide +kernel), wIN_X12, wCD_X12_freeUpTo, by decide, by decide +kernel, by decide +kernel, by decide +kernel⟩
theorem lk_X12_350 : jLk RX12 350 yX12_weightOf MX12_weightOf 1 := ⟨jT_in (i := 1813) (by decide +kernel) (by decide +kernel), wIN_X12, wCD_X12_weightOf, by decide, by decide +kernel, by decide +kernel, by decide +kernel⟩
theorem lk_X12_353 : jLk RX12 353 yX12_saying MX12_saying 3 := ⟨jT_in (i := 1817) (by decide +kernel) (by decide +kernel), wIN_X12, wCD_X12_saying, by decide, by decide +kernel, by decide +kernel, by decide +kernel⟩
theorem lk_X12_356 : jLk RX12 356 yX12_costBy MX12_costBy 2 := ⟨jT_in (i := 1809) (by decide +kernel) (by decide +kernel), wIN_X12, wCD_X12_costBy, by decide, by decide +kernel, by decide +kernel, by decide +kernel⟩
theorem lk_X12_361 : jLk RX12 361 yX12_cut MX12_cut 2 := ⟨jT_in (i := 1830) (by decide +kernel) (by decide +kernel), wIN_X12, wCD_X12_cut, by decide, by decide +kernel, by decide +kernel, by decide +kernel⟩
theorem lk_X12_364 : jLk RX12 364 yX12_isAnyEarly MX12_isAnyEarly 0 := ⟨jT_in (i := 1841) (by decide +kernel) (by decide +kernel), wIN_X12, wCD_X12_isAnyEarly, by decide, by decide +kernel, by decide +kernel, by decide +kernel⟩
theorem lk_X12_368 : jLk RX12 368 yX12_copies MX12_copies 2 := ⟨jT_in (i := 1849) (by decide +kernel) (by decide +kernel), wIN_X12, wCD_X12_copies, by decide, by decide +kernel, by decide +kernel, by decide +kernel⟩
theorem lk_J0_335 : jLk RJ0 335 yJ0_coder_7d493 MJ0_coder_7d493 0 := ⟨jT_in (i := 708) (by decide +kernel) (by decide +kernel), wIN_J0, wCD_J0_coder_7d493, by decide, by decide +kernel, by decide +kernel, by decide +kernel⟩
theorem lk_J0_492 : jLk RJ0 492 yJ0_isLatin1_aae02 MJ0_isLatin1_aae02 0 := ⟨jT_in (i := 718) (by decide +kernel) (by decide +kernel), wIN_J0, wCD_J0_isLatin1_aae02, by decide, by decide +kernel, by decide +kernel, by decide +kernel⟩
theorem lk_J0_495 : jLk RJ0 495 yJ1_charAt_3b067 MJ1_charAt_3b067 2 := ⟨jT_in (i := 722) (by decide +kernel) (by decide +kernel), wIN_J1, wCD_J1_charAt_3b067, by decide, by decide +kernel, by decide +kernel, by decide +kernel⟩
theorem lk_J0_1059 : jLk RJ0 1059 yJ3_checkIndex_8e157 MJ3_checkIndex_8e157 3 := ⟨jT_in (i := 730) (by decide +kernel) (by decide +kernel), wIN_J3, wCD_J3_checkIndex_8e157, by decide, by decide +kernel, by decide +kernel, by decide +kernel⟩
theorem lk_J1_9 : jLk RJ1 9 yJ0_checkIndex_df160 MJ0_checkIndex_df160 2 := ⟨jT_in (i := 725) (by decide +kernel) (by decide +kernel), wIN_J0, wCD_J0_checkIndex_df160, by decide, by decide +kernel, by decide +kernel, by decide +kernel⟩
theorem lk_J7_13 : jLk RJ7 13 yJ7_rangeCheck_23922 MJ7_rangeCheck_23922 3 := ⟨jT_in (i := 1227) (by decide +kernel) (by decide +kernel), wIN_J7, wCD_J7_rangeCheck_23922, by decide, by decide +kernel, by decide +kernel, by decide +kernel⟩
theorem wCC_X11_65 : Cond.constantLong RX11 65 (9 : Int64) ∈ jT := jT_in (i := 538) (by decide +kernel) (by decide +kernel)
theorem wCC_X11_67 : Cond.constantLong RX11 67 (5 : Int64) ∈ jT := jT_in (i := 539) (by decide +kernel) (by decide +kernel)
theorem wCC_X11_91 : Cond.constantLong RX11 91 (2 : Int64) ∈ jT := jT_in (i := 558) (by decide +kernel) (by decide +kernel)
theorem wCC_X11_113 : Cond.constantLong RX11 113 (9999 : Int64) ∈ jT := jT_in (i := 547) (by decide +kernel) (by decide +kernel)
theorem wCC_X11_122 : Cond.constantLong RX11 122 (100 : Int64) ∈ jT := jT_in (i := 632) (by decide +kernel) (by decide +kernel)
theorem wCC_X11_131 : Cond.constantLong RX11 131 (4 : Int64) ∈ jT := jT_in (i := 637) (by decide +kernel) (by decide +kernel)
theorem wCC_X11_262 : Cond.constantLong RX11 262 (255 : Int64) ∈ jT := jT_in (i := 1016) (by decide +kernel) (by decide +kernel)
theorem wCC_X11_306 : Cond.constantLong RX11 306 (15 : Int64) ∈ jT := jT_in (i := 546) (by decide +kernel) (by decide +kernel)
theorem wCC_X11_308 : Cond.constantLong RX11 308 (3 : Int64) ∈ jT := jT_in (i := 1094) (by decide +kernel) (by decide +kernel)
theorem wCC_X11_317 : Cond.constantLong RX11 317 (999 : Int64) ∈ jT := jT_in (i := 1103) (by decide +kernel) (by decide +kernel)
theorem wCC_X11_331 : Cond.constantLong RX11 331 (99 : Int64) ∈ jT := jT_in (i := 1112) (by decide +kernel) (by decide +kernel)
theorem wCC_X11_382 : Cond.constantLong RX11 382 (60 : Int64) ∈ jT := jT_in (i := 1218) (by decide +kernel) (by decide +kernel)
theorem wCC_X11_406 : Cond.constantLong RX11 406 (7 : Int64) ∈ jT := jT_in (i := 1303) (by decide +kernel) (by decide +kernel)
theorem wCC_X11_408 : Cond.constantLong RX11 408 (199 : Int64) ∈ jT := jT_in (i := 1308) (by decide +kernel) (by decide +kernel)
theorem wCC_X1_75 : Cond.constantLong RX1 75 (-2 : Int64) ∈ jT := jT_in (i := 607) (by decide +kernel) (by decide +kernel)
theorem wCC_X3_48 : Cond.constant RX3 48 (1103515245 : Int32) ∈ jT := jT_in (i := 882) (by decide +kernel) (by decide +kernel)
theorem wCC_X4_23 : Cond.constantLong RX4 23 (-1 : Int64) ∈ jT := jT_in (i := 575) (by decide +kernel) (by decide +kernel)
theorem wCC_X12_89 : Cond.constantLong RX12 89 (9 : Int64) ∈ jT := jT_in (i := 1444) (by decide +kernel) (by decide +kernel)
theorem wCC_X12_91 : Cond.constantLong RX12 91 (15 : Int64) ∈ jT := jT_in (i := 1445) (by decide +kernel) (by decide +kernel)
theorem wCC_X12_93 : Cond.constantLong RX12 93 (9999 : Int64) ∈ jT := jT_in (i := 1446) (by decide +kernel) (by decide +kernel)
theorem wCC_X12_95 : Cond.constantLong RX12 95 (5 : Int64) ∈ jT := jT_in (i := 1447) (by decide +kernel) (by decide +kernel)
theorem wCC_X12_105 : Cond.constantLong RX12 105 (100 : Int64) ∈ jT := jT_in (i := 1473) (by decide +kernel) (by decide +kernel)
theorem wCC_X12_207 : Cond.constantLong RX12 207 (8 : Int64) ∈ jT := jT_in (i := 1567) (by decide +kernel) (by decide +kernel)
theorem wCC_X12_209 : Cond.constantLong RX12 209 (11 : Int64) ∈ jT := jT_in (i := 1568) (by decide +kernel) (by decide +kernel)
theorem wCC_X12_240 : Cond.constant RX12 240 (1103515245 : Int32) ∈ jT := jT_in (i := 1605) (by decide +kernel) (by decide +kernel)
theorem wCC_X12_306 : Cond.constantLong RX12 306 (2 : Int64) ∈ jT := jT_in (i := 1688) (by decide +kernel) (by decide +kernel)
theorem wCC_X12_311 : Cond.constantLong RX12 311 (255 : Int64) ∈ jT := jT_in (i := 1705) (by decide +kernel) (by decide +kernel)
theorem wCC_X12_330 : Cond.constantLong RX12 330 (10 : Int64) ∈ jT := jT_in (i := 1745) (by decide +kernel) (by decide +kernel)
theorem wCC_X12_335 : Cond.constantLong RX12 335 (3 : Int64) ∈ jT := jT_in (i := 1762) (by decide +kernel) (by decide +kernel)
theorem wCC_X12_337 : Cond.constantLong RX12 337 (999 : Int64) ∈ jT := jT_in (i := 1767) (by decide +kernel) (by decide +kernel)
theorem wCC_X12_339 : Cond.constantLong RX12 339 (99 : Int64) ∈ jT := jT_in (i := 1772) (by decide +kernel) (by decide +kernel)
theorem wCC_X12_359 : Cond.constantLong RX12 359 (60 : Int64) ∈ jT := jT_in (i := 1825) (by decide +kernel) (by decide +kernel)
theorem wCC_X12_371 : Cond.constantLong RX12 371 (7 : Int64) ∈ jT := jT_in (i := 1861) (by decide +kernel) (by decide +kernel)
theorem wCC_X12_373 : Cond.constantLong RX12 373 (200 : Int64) ∈ jT := jT_in (i := 1866) (by decide +kernel) (by decide +kernel)
theorem wCC_J6_265 : Cond.constant RJ6 265 (1431655765 : Int32) ∈ jT := jT_in (i := 662) (by decide +kernel) (by decide +kernel)
theorem wCC_J6_266 : Cond.constant RJ6 266 (858993459 : Int32) ∈ jT := jT_in (i := 663) (by decide +kernel) (by decide +kernel)
theorem wCC_J6_267 : Cond.constant RJ6 267 (252645135 : Int32) ∈ jT := jT_in (i := 664) (by decide +kernel) (by decide +kernel)
theorem in_X0 : ∀ x ∈ u_ws RX0 TX0 7, x ∈ jT := by
  have h : ∀ x ∈ [u_lay RX0 TX0 0, u_lay RX0 TX0 1, u_lay RX0 TX0 2, u_lay RX0 TX0 3, u_lay RX0 TX0 4, u_lay RX0 TX0 5, u_lay RX0 TX0 6], x ∈ jT := List.forall_mem_cons.mpr ⟨jT_in (i := 256) (by decide +kernel) (by decide +kernel), List.forall_mem_cons.mpr ⟨jT_in (i := 258) (by decide +kernel) (by decide +kernel), List.forall_mem_cons.mpr ⟨jT_in (i := 260) (by decide +kernel) (by decide +kernel), List.forall_mem_cons.mpr ⟨jT_in (i := 262) (by decide +kernel) (by decide +kernel), List.forall_mem_cons.mpr ⟨jT_in (i := 264) (by decide +kernel) (by decide +kernel), List.forall_mem_cons.mpr ⟨jT_in (i := 266) (by decide +kernel) (by decide +kernel), List.forall_mem_cons.mpr ⟨jT_in (i := 268) (by decide +kernel) (by decide +kernel), fun _ h => absurd h List.not_mem_nil⟩⟩⟩⟩⟩⟩⟩
  exact h
theorem in_X1 : ∀ x ∈ u_ws RX1 TX1 8, x ∈ jT := by
  have h : ∀ x ∈ [u_lay RX1 TX1 0, u_lay RX1 TX1 1, u_lay RX1 TX1 2, u_lay RX1 TX1 3, u_lay RX1 TX1 4, u_lay RX1 TX1 5, u_lay RX1 TX1 6, u_lay RX1 TX1 7], x ∈ jT := List.forall_mem_cons.mpr ⟨jT_in (i := 189) (by decide +kernel) (by decide +kernel), List.forall_mem_cons.mpr ⟨jT_in (i := 191) (by decide +kernel) (by decide +kernel), List.forall_mem_cons.mpr ⟨jT_in (i := 193) (by decide +kernel) (by decide +kernel), List.forall_mem_cons.mpr ⟨jT_in (i := 195) (by decide +kernel) (by decide +kernel), List.forall_mem_cons.mpr ⟨jT_in (i := 197) (by decide +kernel) (by decide +kernel), List.forall_mem_cons.mpr ⟨jT_in (i := 199) (by decide +kernel) (by decide +kernel), List.forall_mem_cons.mpr ⟨jT_in (i := 201) (by decide +kernel) (by decide +kernel), List.forall_mem_cons.mpr ⟨jT_in (i := 203) (by decide +kernel) (by decide +kernel), fun _ h => absurd h List.not_mem_nil⟩⟩⟩⟩⟩⟩⟩⟩
  exact h
theorem in_X2 : ∀ x ∈ u_ws RX2 TX2 6, x ∈ jT := by
  have h : ∀ x ∈ [u_lay RX2 TX2 0, u_lay RX2 TX2 1, u_lay RX2 TX2 2, u_lay RX2 TX2 3, u_lay RX2 TX2 4, u_lay RX2 TX2 5], x ∈ jT := List.forall_mem_cons.mpr ⟨jT_in (i := 419) (by decide +kernel) (by decide +kernel), List.forall_mem_cons.mpr ⟨jT_in (i := 421) (by decide +kernel) (by decide +kernel), List.forall_mem_cons.mpr ⟨jT_in (i := 423) (by decide +kernel) (by decide +kernel), List.forall_mem_cons.mpr ⟨jT_in (i := 425) (by decide +kernel) (by decide +kernel), List.forall_mem_cons.mpr ⟨jT_in (i := 427) (by decide +kernel) (by decide +kernel), List.forall_mem_cons.mpr ⟨jT_in (i := 429) (by decide +kernel) (by decide +kernel), fun _ h => absurd h List.not_mem_nil⟩⟩⟩⟩⟩⟩
  exact h
theorem in_X3 : ∀ x ∈ u_ws RX3 TX3 5, x ∈ jT := by
  have h : ∀ x ∈ [u_lay RX3 TX3 0, u_lay RX3 TX3 1, u_lay RX3 TX3 2, u_lay RX3 TX3 3, u_lay RX3 TX3 4], x ∈ jT := List.forall_mem_cons.mpr ⟨jT_in (i := 222) (by decide +kernel) (by decide +kernel), List.forall_mem_cons.mpr ⟨jT_in (i := 224) (by decide +kernel) (by decide +kernel), List.forall_mem_cons.mpr ⟨jT_in (i := 226) (by decide +kernel) (by decide +kernel), List.forall_mem_cons.mpr ⟨jT_in (i := 228) (by decide +kernel) (by decide +kernel), List.forall_mem_cons.mpr ⟨jT_in (i := 230) (by decide +kernel) (by decide +kernel), fun _ h => absurd h List.not_mem_nil⟩⟩⟩⟩⟩
  exact h
theorem in_X5 : ∀ x ∈ u_ws RX5 TX5 9, x ∈ jT := by
  have h : ∀ x ∈ [u_lay RX5 TX5 0, u_lay RX5 TX5 1, u_lay RX5 TX5 2, u_lay RX5 TX5 3, u_lay RX5 TX5 4, u_lay RX5 TX5 5, u_lay RX5 TX5 6, u_lay RX5 TX5 7, u_lay RX5 TX5 8], x ∈ jT := List.forall_mem_cons.mpr ⟨jT_in (i := 151) (by decide +kernel) (by decide +kernel), List.forall_mem_cons.mpr ⟨jT_in (i := 153) (by decide +kernel) (by decide +kernel), List.forall_mem_cons.mpr ⟨jT_in (i := 155) (by decide +kernel) (by decide +kernel), List.forall_mem_cons.mpr ⟨jT_in (i := 157) (by decide +kernel) (by decide +kernel), List.forall_mem_cons.mpr ⟨jT_in (i := 159) (by decide +kernel) (by decide +kernel), List.forall_mem_cons.mpr ⟨jT_in (i := 161) (by decide +kernel) (by decide +kernel), List.forall_mem_cons.mpr ⟨jT_in (i := 163) (by decide +kernel) (by decide +kernel), List.forall_mem_cons.mpr ⟨jT_in (i := 165) (by decide +kernel) (by decide +kernel), List.forall_mem_cons.mpr ⟨jT_in (i := 167) (by decide +kernel) (by decide +kernel), fun _ h => absurd h List.not_mem_nil⟩⟩⟩⟩⟩⟩⟩⟩⟩
  exact h
theorem in_X6 : ∀ x ∈ u_ws RX6 TX6 9, x ∈ jT := by
  have h : ∀ x ∈ [u_lay RX6 TX6 0, u_lay RX6 TX6 1, u_lay RX6 TX6 2, u_lay RX6 TX6 3, u_lay RX6 TX6 4, u_lay RX6 TX6 5, u_lay RX6 TX6 6, u_lay RX6 TX6 7, u_lay RX6 TX6 8], x ∈ jT := List.forall_mem_cons.mpr ⟨jT_in (i := 476) (by decide +kernel) (by decide +kernel), List.forall_mem_cons.mpr ⟨jT_in (i := 478) (by decide +kernel) (by decide +kernel), List.forall_mem_cons.mpr ⟨jT_in (i := 480) (by decide +kernel) (by decide +kernel), List.forall_mem_cons.mpr ⟨jT_in (i := 482) (by decide +kernel) (by decide +kernel), List.forall_mem_cons.mpr ⟨jT_in (i := 484) (by decide +kernel) (by decide +kernel), List.forall_mem_cons.mpr ⟨jT_in (i := 486) (by decide +kernel) (by decide +kernel), List.forall_mem_cons.mpr ⟨jT_in (i := 488) (by decide +kernel) (by decide +kernel), List.forall_mem_cons.mpr ⟨jT_in (i := 490) (by decide +kernel) (by decide +kernel), List.forall_mem_cons.mpr ⟨jT_in (i := 492) (by decide +kernel) (by decide +kernel), fun _ h => absurd h List.not_mem_nil⟩⟩⟩⟩⟩⟩⟩⟩⟩
  exact h
theorem in_X7 : ∀ x ∈ u_ws RX7 TX7 3, x ∈ jT := by
  have h : ∀ x ∈ [u_lay RX7 TX7 0, u_lay RX7 TX7 1, u_lay RX7 TX7 2], x ∈ jT := List.forall_mem_cons.mpr ⟨jT_in (i := 446) (by decide +kernel) (by decide +kernel), List.forall_mem_cons.mpr ⟨jT_in (i := 448) (by decide +kernel) (by decide +kernel), List.forall_mem_cons.mpr ⟨jT_in (i := 450) (by decide +kernel) (by decide +kernel), fun _ h => absurd h List.not_mem_nil⟩⟩⟩
  exact h
theorem in_X8 : ∀ x ∈ u_ws RX8 TX8 13, x ∈ jT := by
  have h : ∀ x ∈ [u_lay RX8 TX8 0, u_lay RX8 TX8 1, u_lay RX8 TX8 2, u_lay RX8 TX8 3, u_lay RX8 TX8 4, u_lay RX8 TX8 5, u_lay RX8 TX8 6, u_lay RX8 TX8 7, u_lay RX8 TX8 8, u_lay RX8 TX8 9, u_lay RX8 TX8 10, u_lay RX8 TX8 11, u_lay RX8 TX8 12], x ∈ jT := List.forall_mem_cons.mpr ⟨jT_in (i := 377) (by decide +kernel) (by decide +kernel), List.forall_mem_cons.mpr ⟨jT_in (i := 379) (by decide +kernel) (by decide +kernel), List.forall_mem_cons.mpr ⟨jT_in (i := 381) (by decide +kernel) (by decide +kernel), List.forall_mem_cons.mpr ⟨jT_in (i := 383) (by decide +kernel) (by decide +kernel), List.forall_mem_cons.mpr ⟨jT_in (i := 385) (by decide +kernel) (by decide +kernel), List.forall_mem_cons.mpr ⟨jT_in (i := 387) (by decide +kernel) (by decide +kernel), List.forall_mem_cons.mpr ⟨jT_in (i := 389) (by decide +kernel) (by decide +kernel), List.forall_mem_cons.mpr ⟨jT_in (i := 391) (by decide +kernel) (by decide +kernel), List.forall_mem_cons.mpr ⟨jT_in (i := 393) (by decide +kernel) (by decide +kernel), List.forall_mem_cons.mpr ⟨jT_in (i := 395) (by decide +kernel) (by decide +kernel), List.forall_mem_cons.mpr ⟨jT_in (i := 397) (by decide +kernel) (by decide +kernel), List.forall_mem_cons.mpr ⟨jT_in (i := 399) (by decide +kernel) (by decide +kernel), List.forall_mem_cons.mpr ⟨jT_in (i := 401) (by decide +kernel) (by decide +kernel), fun _ h => absurd h List.not_mem_nil⟩⟩⟩⟩⟩⟩⟩⟩⟩⟩⟩⟩⟩
  exact h
theorem in_X9 : ∀ x ∈ u_ws RX9 TX9 9, x ∈ jT := by
  have h : ∀ x ∈ [u_lay RX9 TX9 0, u_lay RX9 TX9 1, u_lay RX9 TX9 2, u_lay RX9 TX9 3, u_lay RX9 TX9 4, u_lay RX9 TX9 5, u_lay RX9 TX9 6, u_lay RX9 TX9 7, u_lay RX9 TX9 8], x ∈ jT := List.forall_mem_cons.mpr ⟨jT_in (i := 289) (by decide +kernel) (by decide +kernel), List.forall_mem_cons.mpr ⟨jT_in (i := 291) (by decide +kernel) (by decide +kernel), List.forall_mem_cons.mpr ⟨jT_in (i := 293) (by decide +kernel) (by decide +kernel), List.forall_mem_cons.mpr ⟨jT_in (i := 295) (by decide +kernel) (by decide +kernel), List.forall_mem_cons.mpr ⟨jT_in (i := 297) (by decide +kernel) (by decide +kernel), List.forall_mem_cons.mpr ⟨jT_in (i := 299) (by decide +kernel) (by decide +kernel), List.forall_mem_cons.mpr ⟨jT_in (i := 301) (by decide +kernel) (by decide +kernel), List.forall_mem_cons.mpr ⟨jT_in (i := 303) (by decide +kernel) (by decide +kernel), List.forall_mem_cons.mpr ⟨jT_in (i := 305) (by decide +kernel) (by decide +kernel), fun _ h => absurd h List.not_mem_nil⟩⟩⟩⟩⟩⟩⟩⟩⟩
  exact h
theorem in_X10 : ∀ x ∈ u_ws RX10 TX10 6, x ∈ jT := by
  have h : ∀ x ∈ [u_lay RX10 TX10 0, u_lay RX10 TX10 1, u_lay RX10 TX10 2, u_lay RX10 TX10 3, u_lay RX10 TX10 4, u_lay RX10 TX10 5], x ∈ jT := List.forall_mem_cons.mpr ⟨jT_in (i := 323) (by decide +kernel) (by decide +kernel), List.forall_mem_cons.mpr ⟨jT_in (i := 325) (by decide +kernel) (by decide +kernel), List.forall_mem_cons.mpr ⟨jT_in (i := 327) (by decide +kernel) (by decide +kernel), List.forall_mem_cons.mpr ⟨jT_in (i := 329) (by decide +kernel) (by decide +kernel), List.forall_mem_cons.mpr ⟨jT_in (i := 331) (by decide +kernel) (by decide +kernel), List.forall_mem_cons.mpr ⟨jT_in (i := 333) (by decide +kernel) (by decide +kernel), fun _ h => absurd h List.not_mem_nil⟩⟩⟩⟩⟩⟩
  exact h
theorem in_X11 : ∀ x ∈ u_ws RX11 TX11 11, x ∈ jT := by
  have h : ∀ x ∈ [u_lay RX11 TX11 0, u_lay RX11 TX11 1, u_lay RX11 TX11 2, u_lay RX11 TX11 3, u_lay RX11 TX11 4, u_lay RX11 TX11 5, u_lay RX11 TX11 6, u_lay RX11 TX11 7, u_lay RX11 TX11 8, u_lay RX11 TX11 9, u_lay RX11 TX11 10], x ∈ jT := List.forall_mem_cons.mpr ⟨jT_in (i := 506) (by decide +kernel) (by decide +kernel), List.forall_mem_cons.mpr ⟨jT_in (i := 508) (by decide +kernel) (by decide +kernel), List.forall_mem_cons.mpr ⟨jT_in (i := 510) (by decide +kernel) (by decide +kernel), List.forall_mem_cons.mpr ⟨jT_in (i := 512) (by decide +kernel) (by decide +kernel), List.forall_mem_cons.mpr ⟨jT_in (i := 514) (by decide +kernel) (by decide +kernel), List.forall_mem_cons.mpr ⟨jT_in (i := 516) (by decide +kernel) (by decide +kernel), List.forall_mem_cons.mpr ⟨jT_in (i := 518) (by decide +kernel) (by decide +kernel), List.forall_mem_cons.mpr ⟨jT_in (i := 520) (by decide +kernel) (by decide +kernel), List.forall_mem_cons.mpr ⟨jT_in (i := 522) (by decide +kernel) (by decide +kernel), List.forall_mem_cons.mpr ⟨jT_in (i := 524) (by decide +kernel) (by decide +kernel), List.forall_mem_cons.mpr ⟨jT_in (i := 526) (by decide +kernel) (by decide +kernel), fun _ h => absurd h List.not_mem_nil⟩⟩⟩⟩⟩⟩⟩⟩⟩⟩⟩
  exact h
theorem in_X12 : ∀ x ∈ u_ws RX12 TX12 38, x ∈ jT := by
  have h : ∀ x ∈ [u_lay RX12 TX12 0, u_lay RX12 TX12 1, u_lay RX12 TX12 2, u_lay RX12 TX12 3, u_lay RX12 TX12 4, u_lay RX12 TX12 5, u_lay RX12 TX12 6, u_lay RX12 TX12 7, u_lay RX12 TX12 8, u_lay RX12 TX12 9, u_lay RX12 TX12 10, u_lay RX12 TX12 11, u_lay RX12 TX12 12, u_lay RX12 TX12 13, u_lay RX12 TX12 14, u_lay RX12 TX12 15, u_lay RX12 TX12 16, u_lay RX12 TX12 17, u_lay RX12 TX12 18, u_lay RX12 TX12 19, u_lay RX12 TX12 20, u_lay RX12 TX12 21, u_lay RX12 TX12 22, u_lay RX12 TX12 23, u_lay RX12 TX12 24, u_lay RX12 TX12 25, u_lay RX12 TX12 26, u_lay RX12 TX12 27, u_lay RX12 TX12 28, u_lay RX12 TX12 29, u_lay RX12 TX12 30, u_lay RX12 TX12 31, u_lay RX12 TX12 32, u_lay RX12 TX12 33, u_lay RX12 TX12 34, u_lay RX12 TX12 35, u_lay RX12 TX12 36, u_lay RX12 TX12 37], x ∈ jT := List.forall_mem_cons.mpr ⟨jT_in (i := 1356) (by decide +kernel) (by decide +kernel), List.forall_mem_cons.mpr ⟨jT_in (i := 1358) (by decide +kernel) (by decide +kernel), List.forall_mem_cons.mpr ⟨jT_in (i := 1360) (by decide +kernel) (by decide +kernel), List.forall_mem_cons.mpr ⟨jT_in (i := 1362) (by decide +kernel) (by decide +kernel), List.forall_mem_cons.mpr ⟨jT_in (i := 1364) (by decide +kernel) (by decide +kernel), List.forall_mem_cons.mpr ⟨jT_in (i := 1366) (by decide +kernel) (by decide +kernel), List.forall_mem_cons.mpr ⟨jT_in (i := 1368) (by decide +kernel) (by decide +kernel), List.forall_mem_cons.mpr ⟨jT_in (i := 1370) (by decide +kernel) (by decide +kernel), List.forall_mem_cons.mpr ⟨jT_in (i := 1372) (by decide +kernel) (by decide +kernel), List.forall_mem_cons.mpr ⟨jT_in (i := 1374) (by decide +kernel) (by decide +kernel), List.forall_mem_cons.mpr ⟨jT_in (i := 1376) (by decide +kernel) (by decide +kernel), List.forall_mem_cons.mpr ⟨jT_in (i := 1378) (by decide +kernel) (by decide +kernel), List.forall_mem_cons.mpr ⟨jT_in (i := 1380) (by decide +kernel) (by decide +kernel), List.forall_mem_cons.mpr ⟨jT_in (i := 1382) (by decide +kernel) (by decide +kernel), List.forall_mem_cons.mpr ⟨jT_in (i := 1384) (by decide +kernel) (by decide +kernel), List.forall_mem_cons.mpr ⟨jT_in (i := 1386) (by decide +kernel) (by decide +kernel), List.forall_mem_cons.mpr ⟨jT_in (i := 1388) (by decide +kernel) (by decide +kernel), List.forall_mem_cons.mpr ⟨jT_in (i := 1390) (by decide +kernel) (by decide +kernel), List.forall_mem_cons.mpr ⟨jT_in (i := 1392) (by decide +kernel) (by decide +kernel), List.forall_mem_cons.mpr ⟨jT_in (i := 1394) (by decide +kernel) (by decide +kernel), List.forall_mem_cons.mpr ⟨jT_in (i := 1396) (by decide +kernel) (by decide +kernel), List.forall_mem_cons.mpr ⟨jT_in (i := 1398) (by decide +kernel) (by decide +kernel), List.forall_mem_cons.mpr ⟨jT_in (i := 1400) (by decide +kernel) (by decide +kernel), List.forall_mem_cons.mpr ⟨jT_in (i := 1402) (by decide +kernel) (by decide +kernel), List.forall_mem_cons.mpr ⟨jT_in (i := 1404) (by decide +kernel) (by decide +kernel), List.forall_mem_cons.mpr ⟨jT_in (i := 1406) (by decide +kernel) (by decide +kernel), List.forall_mem_cons.mpr ⟨jT_in (i := 1408) (by decide +kernel) (by decide +kernel), List.forall_mem_cons.mpr ⟨jT_in (i := 1410) (by decide +kernel) (by decide +kernel), List.forall_mem_cons.mpr ⟨jT_in (i := 1412) (by decide +kernel) (by decide +kernel), List.forall_mem_cons.mpr ⟨jT_in (i := 1414) (by decide +kernel) (by decide +kernel), List.forall_mem_cons.mpr ⟨jT_in (i := 1416) (by decide +kernel) (by decide +kernel), List.forall_mem_cons.mpr ⟨jT_in (i := 1418) (by decide +kernel) (by decide +kernel), List.forall_mem_cons.mpr ⟨jT_in (i := 1420) (by decide +kernel) (by decide +kernel), List.forall_mem_cons.mpr ⟨jT_in (i := 1422) (by decide +kernel) (by decide +kernel), List.forall_mem_cons.mpr ⟨jT_in (i := 1424) (by decide +kernel) (by decide +kernel), List.forall_mem_cons.mpr ⟨jT_in (i := 1426) (by decide +kernel) (by decide +kernel), List.forall_mem_cons.mpr ⟨jT_in (i := 1428) (by decide +kernel) (by decide +kernel), List.forall_mem_cons.mpr ⟨jT_in (i := 1430) (by decide +kernel) (by decide +kernel), fun _ h => absurd h List.not_mem_nil⟩⟩⟩⟩⟩⟩⟩⟩⟩⟩⟩⟩⟩⟩⟩⟩⟩⟩⟩⟩⟩⟩⟩⟩⟩⟩⟩⟩⟩⟩⟩⟩⟩⟩⟩⟩⟩⟩
  exact h
theorem kr_0_1 {t : Nat} (h : kd t = 0) : kd (t + 1) = 13 := (by decide +kernel : ∀ c, c < 224 → kd c = 0 → kd (c + 1) = 13) t (kd_lt h (by decide)) h
theorem kr_0_2 {t : Nat} (h : kd t = 0) : kd (t + 2) = 13 := (by decide +kernel : ∀ c, c < 224 → kd c = 0 → kd (c + 2) = 13) t (kd_lt h (by decide)) h
theorem kr_0_3 {t : Nat} (h : kd t = 0) : kd (t + 3) = 13 := (by decide +kernel : ∀ c, c < 224 → kd c = 0 → kd (c + 3) = 13) t (kd_lt h (by decide)) h
theorem kr_0_4 {t : Nat} (h : kd t = 0) : kd (t + 4) = 13 := (by decide +kernel : ∀ c, c < 224 → kd c = 0 → kd (c + 4) = 13) t (kd_lt h (by decide)) h
theorem kr_0_5 {t : Nat} (h : kd t = 0) : kd (t + 5) = 13 := (by decide +kernel : ∀ c, c < 224 → kd c = 0 → kd (c + 5) = 13) t (kd_lt h (by decide)) h
theorem kr_0_6 {t : Nat} (h : kd t = 0) : kd (t + 6) = 14 := (by decide +kernel : ∀ c, c < 224 → kd c = 0 → kd (c + 6) = 14) t (kd_lt h (by decide)) h
theorem kr_1_1 {t : Nat} (h : kd t = 1) : kd (t + 1) = 14 := (by decide +kernel : ∀ c, c < 224 → kd c = 1 → kd (c + 1) = 14) t (kd_lt h (by decide)) h
theorem kr_1_2 {t : Nat} (h : kd t = 1) : kd (t + 2) = 14 := (by decide +kernel : ∀ c, c < 224 → kd c = 1 → kd (c + 2) = 14) t (kd_lt h (by decide)) h
theorem kr_1_3 {t : Nat} (h : kd t = 1) : kd (t + 3) = 13 := (by decide +kernel : ∀ c, c < 224 → kd c = 1 → kd (c + 3) = 13) t (kd_lt h (by decide)) h
theorem kr_1_4 {t : Nat} (h : kd t = 1) : kd (t + 4) = 13 := (by decide +kernel : ∀ c, c < 224 → kd c = 1 → kd (c + 4) = 13) t (kd_lt h (by decide)) h
theorem kr_1_5 {t : Nat} (h : kd t = 1) : kd (t + 5) = 13 := (by decide +kernel : ∀ c, c < 224 → kd c = 1 → kd (c + 5) = 13) t (kd_lt h (by decide)) h
theorem kr_1_6 {t : Nat} (h : kd t = 1) : kd (t + 6) = 13 := (by decide +kernel : ∀ c, c < 224 → kd c = 1 → kd (c + 6) = 13) t (kd_lt h (by decide)) h
theorem kr_3_1 {t : Nat} (h : kd t = 3) : kd (t + 1) = 13 := (by decide +kernel : ∀ c, c < 224 → kd c = 3 → kd (c + 1) = 13) t (kd_lt h (by decide)) h
theorem kr_4_1 {t : Nat} (h : kd t = 4) : kd (t + 1) = 13 := (by decide +kernel : ∀ c, c < 224 → kd c = 4 → kd (c + 1) = 13) t (kd_lt h (by decide)) h
theorem kr_4_2 {t : Nat} (h : kd t = 4) : kd (t + 2) = 13 := (by decide +kernel : ∀ c, c < 224 → kd c = 4 → kd (c + 2) = 13) t (kd_lt h (by decide)) h
theorem kr_4_3 {t : Nat} (h : kd t = 4) : kd (t + 3) = 13 := (by decide +kernel : ∀ c, c < 224 → kd c = 4 → kd (c + 3) = 13) t (kd_lt h (by decide)) h
theorem kr_4_4 {t : Nat} (h : kd t = 4) : kd (t + 4) = 13 := (by decide +kernel : ∀ c, c < 224 → kd c = 4 → kd (c + 4) = 13) t (kd_lt h (by decide)) h
theorem kr_4_5 {t : Nat} (h : kd t = 4) : kd (t + 5) = 13 := (by decide +kernel : ∀ c, c < 224 → kd c = 4 → kd (c + 5) = 13) t (kd_lt h (by decide)) h
theorem kr_4_6 {t : Nat} (h : kd t = 4) : kd (t + 6) = 14 := (by decide +kernel : ∀ c, c < 224 → kd c = 4 → kd (c + 6) = 14) t (kd_lt h (by decide)) h
theorem kr_7_1 {t : Nat} (h : kd t = 7) : kd (t + 1) = 4 := (by decide +kernel : ∀ c, c < 224 → kd c = 7 → kd (c + 1) = 4) t (kd_lt h (by decide)) h
theorem kr_7_2 {t : Nat} (h : kd t = 7) : kd (t + 2) = 13 := (by decide +kernel : ∀ c, c < 224 → kd c = 7 → kd (c + 2) = 13) t (kd_lt h (by decide)) h
theorem kr_7_3 {t : Nat} (h : kd t = 7) : kd (t + 3) = 13 := (by decide +kernel : ∀ c, c < 224 → kd c = 7 → kd (c + 3) = 13) t (kd_lt h (by decide)) h
theorem kr_7_4 {t : Nat} (h : kd t = 7) : kd (t + 4) = 13 := (by decide +kernel : ∀ c, c < 224 → kd c = 7 → kd (c + 4) = 13) t (kd_lt h (by decide)) h
theorem kr_7_5 {t : Nat} (h : kd t = 7) : kd (t + 5) = 13 := (by decide +kernel : ∀ c, c < 224 → kd c = 7 → kd (c + 5) = 13) t (kd_lt h (by decide)) h
theorem kr_7_6 {t : Nat} (h : kd t = 7) : kd (t + 6) = 13 := (by decide +kernel : ∀ c, c < 224 → kd c = 7 → kd (c + 6) = 13) t (kd_lt h (by decide)) h
theorem kr_7_7 {t : Nat} (h : kd t = 7) : kd (t + 7) = 14 := (by decide +kernel : ∀ c, c < 224 → kd c = 7 → kd (c + 7) = 14) t (kd_lt h (by decide)) h
theorem kr_7_8 {t : Nat} (h : kd t = 7) : kd (t + 8) = 4 := (by decide +kernel : ∀ c, c < 224 → kd c = 7 → kd (c + 8) = 4) t (kd_lt h (by decide)) h
theorem kr_7_9 {t : Nat} (h : kd t = 7) : kd (t + 9) = 13 := (by decide +kernel : ∀ c, c < 224 → kd c = 7 → kd (c + 9) = 13) t (kd_lt h (by decide)) h
theorem kr_7_10 {t : Nat} (h : kd t = 7) : kd (t + 10) = 13 := (by decide +kernel : ∀ c, c < 224 → kd c = 7 → kd (c + 10) = 13) t (kd_lt h (by decide)) h
theorem kr_7_11 {t : Nat} (h : kd t = 7) : kd (t + 11) = 13 := (by decide +kernel : ∀ c, c < 224 → kd c = 7 → kd (c + 11) = 13) t (kd_lt h (by decide)) h
theorem kr_7_12 {t : Nat} (h : kd t = 7) : kd (t + 12) = 13 := (by decide +kernel : ∀ c, c < 224 → kd c = 7 → kd (c + 12) = 13) t (kd_lt h (by decide)) h
theorem kr_7_13 {t : Nat} (h : kd t = 7) : kd (t + 13) = 13 := (by decide +kernel : ∀ c, c < 224 → kd c = 7 → kd (c + 13) = 13) t (kd_lt h (by decide)) h
theorem kr_7_14 {t : Nat} (h : kd t = 7) : kd (t + 14) = 14 := (by decide +kernel : ∀ c, c < 224 → kd c = 7 → kd (c + 14) = 14) t (kd_lt h (by decide)) h
theorem kr_7_15 {t : Nat} (h : kd t = 7) : kd (t + 15) = 4 := (by decide +kernel : ∀ c, c < 224 → kd c = 7 → kd (c + 15) = 4) t (kd_lt h (by decide)) h
theorem kr_7_16 {t : Nat} (h : kd t = 7) : kd (t + 16) = 13 := (by decide +kernel : ∀ c, c < 224 → kd c = 7 → kd (c + 16) = 13) t (kd_lt h (by decide)) h
theorem kr_7_17 {t : Nat} (h : kd t = 7) : kd (t + 17) = 13 := (by decide +kernel : ∀ c, c < 224 → kd c = 7 → kd (c + 17) = 13) t (kd_lt h (by decide)) h
theorem kr_7_18 {t : Nat} (h : kd t = 7) : kd (t + 18) = 13 := (by decide +kernel : ∀ c, c < 224 → kd c = 7 → kd (c + 18) = 13) t (kd_lt h (by decide)) h
theorem kr_7_19 {t : Nat} (h : kd t = 7) : kd (t + 19) = 13 := (by decide +kernel : ∀ c, c < 224 → kd c = 7 → kd (c + 19) = 13) t (kd_lt h (by decide)) h
theorem kr_7_20 {t : Nat} (h : kd t = 7) : kd (t + 20) = 13 := (by decide +kernel : ∀ c, c < 224 → kd c = 7 → kd (c + 20) = 13) t (kd_lt h (by decide)) h
theorem kr_7_21 {t : Nat} (h : kd t = 7) : kd (t + 21) = 14 := (by decide +kernel : ∀ c, c < 224 → kd c = 7 → kd (c + 21) = 14) t (kd_lt h (by decide)) h
theorem kr_7_22 {t : Nat} (h : kd t = 7) : kd (t + 22) = 4 := (by decide +kernel : ∀ c, c < 224 → kd c = 7 → kd (c + 22) = 4) t (kd_lt h (by decide)) h
theorem kr_7_23 {t : Nat} (h : kd t = 7) : kd (t + 23) = 13 := (by decide +kernel : ∀ c, c < 224 → kd c = 7 → kd (c + 23) = 13) t (kd_lt h (by decide)) h
theorem kr_7_24 {t : Nat} (h : kd t = 7) : kd (t + 24) = 13 := (by decide +kernel : ∀ c, c < 224 → kd c = 7 → kd (c + 24) = 13) t (kd_lt h (by decide)) h
theorem kr_7_25 {t : Nat} (h : kd t = 7) : kd (t + 25) = 13 := (by decide +kernel : ∀ c, c < 224 → kd c = 7 → kd (c + 25) = 13) t (kd_lt h (by decide)) h
theorem kr_7_26 {t : Nat} (h : kd t = 7) : kd (t + 26) = 13 := (by decide +kernel : ∀ c, c < 224 → kd c = 7 → kd (c + 26) = 13) t (kd_lt h (by decide)) h
theorem kr_7_27 {t : Nat} (h : kd t = 7) : kd (t + 27) = 13 := (by decide +kernel : ∀ c, c < 224 → kd c = 7 → kd (c + 27) = 13) t (kd_lt h (by decide)) h
theorem kr_7_28 {t : Nat} (h : kd t = 7) : kd (t + 28) = 14 := (by decide +kernel : ∀ c, c < 224 → kd c = 7 → kd (c + 28) = 14) t (kd_lt h (by decide)) h
theorem kr_7_29 {t : Nat} (h : kd t = 7) : kd (t + 29) = 14 := (by decide +kernel : ∀ c, c < 224 → kd c = 7 → kd (c + 29) = 14) t (kd_lt h (by decide)) h
theorem kr_7_30 {t : Nat} (h : kd t = 7) : kd (t + 30) = 13 := (by decide +kernel : ∀ c, c < 224 → kd c = 7 → kd (c + 30) = 13) t (kd_lt h (by decide)) h
theorem kr_7_31 {t : Nat} (h : kd t = 7) : kd (t + 31) = 1 := (by decide +kernel : ∀ c, c < 224 → kd c = 7 → kd (c + 31) = 1) t (kd_lt h (by decide)) h
theorem kr_7_32 {t : Nat} (h : kd t = 7) : kd (t + 32) = 14 := (by decide +kernel : ∀ c, c < 224 → kd c = 7 → kd (c + 32) = 14) t (kd_lt h (by decide)) h
theorem kr_7_33 {t : Nat} (h : kd t = 7) : kd (t + 33) = 14 := (by decide +kernel : ∀ c, c < 224 → kd c = 7 → kd (c + 33) = 14) t (kd_lt h (by decide)) h
theorem kr_7_34 {t : Nat} (h : kd t = 7) : kd (t + 34) = 13 := (by decide +kernel : ∀ c, c < 224 → kd c = 7 → kd (c + 34) = 13) t (kd_lt h (by decide)) h
theorem kr_7_35 {t : Nat} (h : kd t = 7) : kd (t + 35) = 13 := (by decide +kernel : ∀ c, c < 224 → kd c = 7 → kd (c + 35) = 13) t (kd_lt h (by decide)) h
theorem kr_7_36 {t : Nat} (h : kd t = 7) : kd (t + 36) = 13 := (by decide +kernel : ∀ c, c < 224 → kd c = 7 → kd (c + 36) = 13) t (kd_lt h (by decide)) h
theorem kr_7_37 {t : Nat} (h : kd t = 7) : kd (t + 37) = 13 := (by decide +kernel : ∀ c, c < 224 → kd c = 7 → kd (c + 37) = 13) t (kd_lt h (by decide)) h
theorem kr_7_38 {t : Nat} (h : kd t = 7) : kd (t + 38) = 3 := (by decide +kernel : ∀ c, c < 224 → kd c = 7 → kd (c + 38) = 3) t (kd_lt h (by decide)) h
theorem kr_7_39 {t : Nat} (h : kd t = 7) : kd (t + 39) = 13 := (by decide +kernel : ∀ c, c < 224 → kd c = 7 → kd (c + 39) = 13) t (kd_lt h (by decide)) h
theorem kr_7_40 {t : Nat} (h : kd t = 7) : kd (t + 40) = 0 := (by decide +kernel : ∀ c, c < 224 → kd c = 7 → kd (c + 40) = 0) t (kd_lt h (by decide)) h
theorem kr_7_41 {t : Nat} (h : kd t = 7) : kd (t + 41) = 13 := (by decide +kernel : ∀ c, c < 224 → kd c = 7 → kd (c + 41) = 13) t (kd_lt h (by decide)) h
theorem kr_7_42 {t : Nat} (h : kd t = 7) : kd (t + 42) = 13 := (by decide +kernel : ∀ c, c < 224 → kd c = 7 → kd (c + 42) = 13) t (kd_lt h (by decide)) h
theorem kr_7_43 {t : Nat} (h : kd t = 7) : kd (t + 43) = 13 := (by decide +kernel : ∀ c, c < 224 → kd c = 7 → kd (c + 43) = 13) t (kd_lt h (by decide)) h
theorem kr_7_44 {t : Nat} (h : kd t = 7) : kd (t + 44) = 13 := (by decide +kernel : ∀ c, c < 224 → kd c = 7 → kd (c + 44) = 13) t (kd_lt h (by decide)) h
theorem kr_7_45 {t : Nat} (h : kd t = 7) : kd (t + 45) = 13 := (by decide +kernel : ∀ c, c < 224 → kd c = 7 → kd (c + 45) = 13) t (kd_lt h (by decide)) h
theorem kr_7_46 {t : Nat} (h : kd t = 7) : kd (t + 46) = 14 := (by decide +kernel : ∀ c, c < 224 → kd c = 7 → kd (c + 46) = 14) t (kd_lt h (by decide)) h
theorem kr_7_47 {t : Nat} (h : kd t = 7) : kd (t + 47) = 8 := (by decide +kernel : ∀ c, c < 224 → kd c = 7 → kd (c + 47) = 8) t (kd_lt h (by decide)) h
theorem kr_7_48 {t : Nat} (h : kd t = 7) : kd (t + 48) = 13 := (by decide +kernel : ∀ c, c < 224 → kd c = 7 → kd (c + 48) = 13) t (kd_lt h (by decide)) h
theorem kr_7_49 {t : Nat} (h : kd t = 7) : kd (t + 49) = 13 := (by decide +kernel : ∀ c, c < 224 → kd c = 7 → kd (c + 49) = 13) t (kd_lt h (by decide)) h
theorem kr_7_50 {t : Nat} (h : kd t = 7) : kd (t + 50) = 13 := (by decide +kernel : ∀ c, c < 224 → kd c = 7 → kd (c + 50) = 13) t (kd_lt h (by decide)) h
theorem kr_7_51 {t : Nat} (h : kd t = 7) : kd (t + 51) = 13 := (by decide +kernel : ∀ c, c < 224 → kd c = 7 → kd (c + 51) = 13) t (kd_lt h (by decide)) h
theorem kr_7_52 {t : Nat} (h : kd t = 7) : kd (t + 52) = 13 := (by decide +kernel : ∀ c, c < 224 → kd c = 7 → kd (c + 52) = 13) t (kd_lt h (by decide)) h
theorem kr_7_53 {t : Nat} (h : kd t = 7) : kd (t + 53) = 13 := (by decide +kernel : ∀ c, c < 224 → kd c = 7 → kd (c + 53) = 13) t (kd_lt h (by decide)) h
theorem kr_7_54 {t : Nat} (h : kd t = 7) : kd (t + 54) = 9 := (by decide +kernel : ∀ c, c < 224 → kd c = 7 → kd (c + 54) = 9) t (kd_lt h (by decide)) h
theorem kr_7_55 {t : Nat} (h : kd t = 7) : kd (t + 55) = 13 := (by decide +kernel : ∀ c, c < 224 → kd c = 7 → kd (c + 55) = 13) t (kd_lt h (by decide)) h
theorem kr_7_56 {t : Nat} (h : kd t = 7) : kd (t + 56) = 13 := (by decide +kernel : ∀ c, c < 224 → kd c = 7 → kd (c + 56) = 13) t (kd_lt h (by decide)) h
theorem kr_7_57 {t : Nat} (h : kd t = 7) : kd (t + 57) = 13 := (by decide +kernel : ∀ c, c < 224 → kd c = 7 → kd (c + 57) = 13) t (kd_lt h (by decide)) h
theorem kr_7_58 {t : Nat} (h : kd t = 7) : kd (t + 58) = 13 := (by decide +kernel : ∀ c, c < 224 → kd c = 7 → kd (c + 58) = 13) t (kd_lt h (by decide)) h
theorem kr_7_59 {t : Nat} (h : kd t = 7) : kd (t + 59) = 13 := (by decide +kernel : ∀ c, c < 224 → kd c = 7 → kd (c + 59) = 13) t (kd_lt h (by decide)) h
theorem kr_8_1 {t : Nat} (h : kd t = 8) : kd (t + 1) = 13 := (by decide +kernel : ∀ c, c < 224 → kd c = 8 → kd (c + 1) = 13) t (kd_lt h (by decide)) h
theorem kr_8_2 {t : Nat} (h : kd t = 8) : kd (t + 2) = 13 := (by decide +kernel : ∀ c, c < 224 → kd c = 8 → kd (c + 2) = 13) t (kd_lt h (by decide)) h
theorem kr_8_3 {t : Nat} (h : kd t = 8) : kd (t + 3) = 13 := (by decide +kernel : ∀ c, c < 224 → kd c = 8 → kd (c + 3) = 13) t (kd_lt h (by decide)) h
theorem kr_8_4 {t : Nat} (h : kd t = 8) : kd (t + 4) = 13 := (by decide +kernel : ∀ c, c < 224 → kd c = 8 → kd (c + 4) = 13) t (kd_lt h (by decide)) h
theorem kr_8_5 {t : Nat} (h : kd t = 8) : kd (t + 5) = 13 := (by decide +kernel : ∀ c, c < 224 → kd c = 8 → kd (c + 5) = 13) t (kd_lt h (by decide)) h
theorem kr_8_6 {t : Nat} (h : kd t = 8) : kd (t + 6) = 13 := (by decide +kernel : ∀ c, c < 224 → kd c = 8 → kd (c + 6) = 13) t (kd_lt h (by decide)) h
theorem kr_9_1 {t : Nat} (h : kd t = 9) : kd (t + 1) = 13 := (by decide +kernel : ∀ c, c < 224 → kd c = 9 → kd (c + 1) = 13) t (kd_lt h (by decide)) h
theorem kr_9_2 {t : Nat} (h : kd t = 9) : kd (t + 2) = 13 := (by decide +kernel : ∀ c, c < 224 → kd c = 9 → kd (c + 2) = 13) t (kd_lt h (by decide)) h
theorem kr_9_3 {t : Nat} (h : kd t = 9) : kd (t + 3) = 13 := (by decide +kernel : ∀ c, c < 224 → kd c = 9 → kd (c + 3) = 13) t (kd_lt h (by decide)) h
theorem kr_9_4 {t : Nat} (h : kd t = 9) : kd (t + 4) = 13 := (by decide +kernel : ∀ c, c < 224 → kd c = 9 → kd (c + 4) = 13) t (kd_lt h (by decide)) h
theorem kr_9_5 {t : Nat} (h : kd t = 9) : kd (t + 5) = 13 := (by decide +kernel : ∀ c, c < 224 → kd c = 9 → kd (c + 5) = 13) t (kd_lt h (by decide)) h
theorem wFL_X11_10 : Cond.fieldLink RX11 10 RX11 (TX11 0).2.1 (TX11 0).2.2.1 ∈ jT := jT_in (i := 495) (by decide +kernel) (by decide +kernel)
theorem gf_X11_10 {M : jMM} {d : Nat} {w w' : jWd} {pc : Nat} {lv : List (Nat × Value)} {st : List Value} {o : Option Value} {r : Nat} (hM : M.1 = RX11) {c : Nat} (hkd : kd c = 10) (hr : c + 1 = r) (hdg : decode M.2.1 pc = .ok (.getfield 10, 3)) (kk : J M d w (pc + 3) lv (.ref r :: st) o w') : J M d w pc lv (.ref c :: st) o w' :=
  jr_get (k := 0) (T := TX11) (v := .ref r) hkd (by decide) rfl (by decide) in_X11 rfl (by rw [hM]; exact wFL_X11_10) (fun ρ => by subst hr; rfl) hdg kk
theorem wFL_X11_16 : Cond.fieldLink RX11 16 RX11 (TX11 1).2.1 (TX11 1).2.2.1 ∈ jT := jT_in (i := 496) (by decide +kernel) (by decide +kernel)
theorem gf_X11_16 {M : jMM} {d : Nat} {w w' : jWd} {pc : Nat} {lv : List (Nat × Value)} {st : List Value} {o : Option Value} {r : Nat} (hM : M.1 = RX11) {c : Nat} (hkd : kd c = 10) (hr : c + 61 = r) (hdg : decode M.2.1 pc = .ok (.getfield 16, 3)) (kk : J M d w (pc + 3) lv (.ref r :: st) o w') : J M d w pc lv (.ref c :: st) o w' :=
  jr_get (k := 1) (T := TX11) (v := .ref r) hkd (by decide) rfl (by decide) in_X11 rfl (by rw [hM]; exact wFL_X11_16) (fun ρ => by subst hr; rfl) hdg kk
theorem wFL_X11_19 : Cond.fieldLink RX11 19 RX11 (TX11 2).2.1 (TX11 2).2.2.1 ∈ jT := jT_in (i := 497) (by decide +kernel) (by decide +kernel)
theorem gf_X11_19 {M : jMM} {d : Nat} {w w' : jWd} {pc : Nat} {lv : List (Nat × Value)} {st : List Value} {o : Option Value} {r : Nat} (hM : M.1 = RX11) {c : Nat} (hkd : kd c = 10) (hr : c + 121 = r) (hdg : decode M.2.1 pc = .ok (.getfield 19, 3)) (kk : J M d w (pc + 3) lv (.ref r :: st) o w') : J M d w pc lv (.ref c :: st) o w' :=
  jr_get (k := 2) (T := TX11) (v := .ref r) hkd (by decide) rfl (by decide) in_X11 rfl (by rw [hM]; exact wFL_X11_19) (fun ρ => by subst hr; rfl) hdg kk
theorem wFL_X11_22 : Cond.fieldLink RX11 22 RX11 (TX11 3).2.1 (TX11 3).2.2.1 ∈ jT := jT_in (i := 498) (by decide +kernel) (by decide +kernel)
theorem gf_X11_22 {M : jMM} {d : Nat} {w w' : jWd} {pc : Nat} {lv : List (Nat × Value)} {st : List Value} {o : Option Value} {r : Nat} (hM : M.1 = RX11) {c : Nat} (hkd : kd c = 10) (hr : c + 181 = r) (hdg : decode M.2.1 pc = .ok (.getfield 22, 3)) (kk : J M d w (pc + 3) lv (.ref r :: st) o w') : J M d w pc lv (.ref c :: st) o w' :=
  jr_get (k := 3) (T := TX11) (v := .ref r) hkd (by decide) rfl (by decide) in_X11 rfl (by rw [hM]; exact wFL_X11_22) (fun ρ => by subst hr; rfl) hdg kk
theorem wFL_X11_31 : Cond.fieldLink RX11 31 RX11 (TX11 4).2.1 (TX11 4).2.2.1 ∈ jT := jT_in (i := 499) (by decide +kernel) (by decide +kernel)
theorem gf_X11_31 {M : jMM} {d : Nat} {w w' : jWd} {pc : Nat} {lv : List (Nat × Value)} {st : List Value} {o : Option Value} {r : Nat} (hM : M.1 = RX11) {c : Nat} (hkd : kd c = 10) (hr : c + 182 = r) (hdg : decode M.2.1 pc = .ok (.getfield 31, 3)) (kk : J M d w (pc + 3) lv (.ref r :: st) o w') : J M d w pc lv (.ref c :: st) o w' :=
  jr_get (k := 4) (T := TX11) (v := .ref r) hkd (by decide) rfl (by decide) in_X11 rfl (by rw [hM]; exact wFL_X11_31) (fun ρ => by subst hr; rfl) hdg kk
theorem wFL_X11_38 : Cond.fieldLink RX11 38 RX11 (TX11 5).2.1 (TX11 5).2.2.1 ∈ jT := jT_in (i := 500) (by decide +kernel) (by decide +kernel)
theorem gf_X11_38 {M : jMM} {d : Nat} {w w' : jWd} {pc : Nat} {lv : List (Nat × Value)} {st : List Value} {o : Option Value} {r : Nat} (hM : M.1 = RX11) {c : Nat} (hkd : kd c = 10) (hr : c + 185 = r) (hdg : decode M.2.1 pc = .ok (.getfield 38, 3)) (kk : J M d w (pc + 3) lv (.ref r :: st) o w') : J M d w pc lv (.ref c :: st) o w' :=
  jr_get (k := 5) (T := TX11) (v := .ref r) hkd (by decide) rfl (by decide) in_X11 rfl (by rw [hM]; exact wFL_X11_38) (fun ρ => by subst hr; rfl) hdg kk
theorem wFL_X11_45 : Cond.fieldLink RX11 45 RX11 (TX11 6).2.1 (TX11 6).2.2.1 ∈ jT := jT_in (i := 501) (by decide +kernel) (by decide +kernel)
theorem gf_X11_45 {M : jMM} {d : Nat} {w w' : jWd} {pc : Nat} {lv : List (Nat × Value)} {st : List Value} {o : Option Value} {r : Nat} (hM : M.1 = RX11) {c : Nat} (hkd : kd c = 10) (hr : c + 189 = r) (hdg : decode M.2.1 pc = .ok (.getfield 45, 3)) (kk : J M d w (pc + 3) lv (.ref r :: st) o w') : J M d w pc lv (.ref c :: st) o w' :=
  jr_get (k := 6) (T := TX11) (v := .ref r) hkd (by decide) rfl (by decide) in_X11 rfl (by rw [hM]; exact wFL_X11_45) (fun ρ => by subst hr; rfl) hdg kk
theorem wFL_X11_49 : Cond.fieldLink RX11 49 RX11 (TX11 7).2.1 (TX11 7).2.2.1 ∈ jT := jT_in (i := 502) (by decide +kernel) (by decide +kernel)
theorem gf_X11_49 {M : jMM} {d : Nat} {w w' : jWd} {pc : Nat} {lv : List (Nat × Value)} {st : List Value} {o : Option Value} {r : Nat} (hM : M.1 = RX11) {c : Nat} (hkd : kd c = 10) (hr : c + 202 = r) (hdg : decode M.2.1 pc = .ok (.getfield 49, 3)) (kk : J M d w (pc + 3) lv (.ref r :: st) o w') : J M d w pc lv (.ref c :: st) o w' :=
  jr_get (k := 7) (T := TX11) (v := .ref r) hkd (by decide) rfl (by decide) in_X11 rfl (by rw [hM]; exact wFL_X11_49) (fun ρ => by subst hr; rfl) hdg kk
theorem wFL_X11_53 : Cond.fieldLink RX11 53 RX11 (TX11 9).2.1 (TX11 9).2.2.1 ∈ jT := jT_in (i := 504) (by decide +kernel) (by decide +kernel)
theorem gf_X11_53 {M : jMM} {d : Nat} {w w' : jWd} {pc : Nat} {lv : List (Nat × Value)} {st : List Value} {o : Option Value} {r : Nat} (hM : M.1 = RX11) {c : Nat} (hkd : kd c = 10) (hr : c + 203 = r) (hdg : decode M.2.1 pc = .ok (.getfield 53, 3)) (kk : J M d w (pc + 3) lv (.ref r :: st) o w') : J M d w pc lv (.ref c :: st) o w' :=
  jr_get (k := 9) (T := TX11) (v := .ref r) hkd (by decide) rfl (by decide) in_X11 rfl (by rw [hM]; exact wFL_X11_53) (fun ρ => by subst hr; rfl) hdg kk
theorem wFL_X11_57 : Cond.fieldLink RX11 57 RX11 (TX11 10).2.1 (TX11 10).2.2.1 ∈ jT := jT_in (i := 505) (by decide +kernel) (by decide +kernel)
theorem gf_X11_57 {M : jMM} {d : Nat} {w w' : jWd} {pc : Nat} {lv : List (Nat × Value)} {st : List Value} {o : Option Value} {r : Nat} (hM : M.1 = RX11) {c : Nat} (hkd : kd c = 10) (hr : c + 204 = r) (hdg : decode M.2.1 pc = .ok (.getfield 57, 3)) (kk : J M d w (pc + 3) lv (.ref r :: st) o w') : J M d w pc lv (.ref c :: st) o w' :=
  jr_get (k := 10) (T := TX11) (v := .ref r) hkd (by decide) rfl (by decide) in_X11 rfl (by rw [hM]; exact wFL_X11_57) (fun ρ => by subst hr; rfl) hdg kk
theorem wFL_X11_115 : Cond.fieldLink RX11 115 RX8 (TX8 2).2.1 (TX8 2).2.2.1 ∈ jT := jT_in (i := 352) (by decide +kernel) (by decide +kernel)
theorem gf_X11_115 {M : jMM} {d : Nat} {w w' : jWd} {pc : Nat} {lv : List (Nat × Value)} {st : List Value} {o : Option Value} {r : Nat} (hM : M.1 = RX11) {c : Nat} (hkd : kd c = 7) (hr : c + 15 = r) (hdg : decode M.2.1 pc = .ok (.getfield 115, 3)) (kk : J M d w (pc + 3) lv (.ref r :: st) o w') : J M d w pc lv (.ref c :: st) o w' :=
  jr_get (k := 2) (T := TX8) (v := .ref r) hkd (by decide) rfl (by decide) in_X8 rfl (by rw [hM]; exact wFL_X11_115) (fun ρ => by subst hr; rfl) hdg kk
theorem wFL_X11_119 : Cond.fieldLink RX11 119 RX5 (TX5 5).2.1 (TX5 5).2.2.1 ∈ jT := jT_in (i := 141) (by decide +kernel) (by decide +kernel)
theorem gf_X11_119 {M : jMM} {d : Nat} {w w' : jWd} {pc : Nat} {lv : List (Nat × Value)} {st : List Value} {o : Option Value} {r : Nat} (hM : M.1 = RX11) {c : Nat} (hkd : kd c = 4) (hr : c + 3 = r) (hdg : decode M.2.1 pc = .ok (.getfield 119, 3)) (kk : J M d w (pc + 3) lv (.ref r :: st) o w') : J M d w pc lv (.ref c :: st) o w' :=
  jr_get (k := 5) (T := TX5) (v := .ref r) hkd (by decide) rfl (by decide) in_X5 rfl (by rw [hM]; exact wFL_X11_119) (fun ρ => by subst hr; rfl) hdg kk
theorem wFL_X11_124 : Cond.fieldLink RX11 124 RX8 (TX8 11).2.1 (TX8 11).2.2.1 ∈ jT := jT_in (i := 372) (by decide +kernel) (by decide +kernel)
theorem gf_X11_124 {M : jMM} {d : Nat} {w w' : jWd} {pc : Nat} {lv : List (Nat × Value)} {st : List Value} {o : Option Value} (hM : M.1 = RX11) {c : Nat} (hkd : kd c = 7) (hdg : decode M.2.1 pc = .ok (.getfield 124, 3)) (kk : J M d w (pc + 3) lv (.int (wI w c 11) :: st) o w') : J M d w pc lv (.ref c :: st) o w' :=
  jr_get (k := 11) (T := TX8) (v := .int (wI w c 11)) hkd (by decide) rfl (by decide) in_X8 rfl (by rw [hM]; exact wFL_X11_124) (fun ρ => rfl) hdg kk
theorem pf_X11_124 {M : jMM} {d : Nat} {w w' : jWd} {pc : Nat} {lv : List (Nat × Value)} {st : List Value} {o : Option Value} (hM : M.1 = RX11) {c : Nat} {x : Int32} (hkd : kd c = 7) (hdg : decode M.2.1 pc = .ok (.putfield 124, 3)) (kk : J M d (sI w c 11 x) (pc + 3) lv st o w') : J M d w pc lv (.int x :: .ref c :: st) o w' :=
  jr_put (k := 11) (T := TX8) (ty0 := tyX8) hkd (by decide) rfl (by decide) in_X8 tyX8_ok nmX8 rfl rfl rfl (by rw [hM]; exact wFL_X11_124) (fun ρ => by simp [jfl, wI_sI]) (fun ρ => by simp [jfl]) hdg kk
theorem wFL_X11_128 : Cond.fieldLink RX11 128 RX8 (TX8 12).2.1 (TX8 12).2.2.1 ∈ jT := jT_in (i := 375) (by decide +kernel) (by decide +kernel)
theorem pf_X11_128 {M : jMM} {d : Nat} {w w' : jWd} {pc : Nat} {lv : List (Nat × Value)} {st : List Value} {o : Option Value} (hM : M.1 = RX11) {c : Nat} {x : Int32} (hkd : kd c = 7) (hdg : decode M.2.1 pc = .ok (.putfield 128, 3)) (kk : J M d (sI w c 12 x) (pc + 3) lv st o w') : J M d w pc lv (.int x :: .ref c :: st) o w' :=
  jr_put (k := 12) (T := TX8) (ty0 := tyX8) hkd (by decide) rfl (by decide) in_X8 tyX8_ok nmX8 rfl rfl rfl (by rw [hM]; exact wFL_X11_128) (fun ρ => by simp [jfl, wI_sI]) (fun ρ => by simp [jfl]) hdg kk
theorem wFL_X11_143 : Cond.fieldLink RX11 143 RX11 (TX11 8).2.1 (TX11 8).2.2.1 ∈ jT := jT_in (i := 503) (by decide +kernel) (by decide +kernel)
theorem gf_X11_143 {M : jMM} {d : Nat} {w w' : jWd} {pc : Nat} {lv : List (Nat × Value)} {st : List Value} {o : Option Value} (hM : M.1 = RX11) {c : Nat} (hkd : kd c = 10) (hdg : decode M.2.1 pc = .ok (.getfield 143, 3)) (kk : J M d w (pc + 3) lv (.int (wI w c 8) :: st) o w') : J M d w pc lv (.ref c :: st) o w' :=
  jr_get (k := 8) (T := TX11) (v := .int (wI w c 8)) hkd (by decide) rfl (by decide) in_X11 rfl (by rw [hM]; exact wFL_X11_143) (fun ρ => rfl) hdg kk
theorem pf_X11_143 {M : jMM} {d : Nat} {w w' : jWd} {pc : Nat} {lv : List (Nat × Value)} {st : List Value} {o : Option Value} (hM : M.1 = RX11) {c : Nat} {x : Int32} (hkd : kd c = 10) (hdg : decode M.2.1 pc = .ok (.putfield 143, 3)) (kk : J M d (sI w c 8 x) (pc + 3) lv st o w') : J M d w pc lv (.int x :: .ref c :: st) o w' :=
  jr_put (k := 8) (T := TX11) (ty0 := tyX11) hkd (by decide) rfl (by decide) in_X11 tyX11_ok nmX11 rfl rfl rfl (by rw [hM]; exact wFL_X11_143) (fun ρ => by simp [jfl, wI_sI]) (fun ρ => by simp [jfl]) hdg kk
theorem wFL_X11_160 : Cond.fieldLink RX11 160 RX6 (TX6 2).2.1 (TX6 2).2.2.1 ∈ jT := jT_in (i := 468) (by decide +kernel) (by decide +kernel)
theorem gf_X11_160 {M : jMM} {d : Nat} {w w' : jWd} {pc : Nat} {lv : List (Nat × Value)} {st : List Value} {o : Option Value} (hM : M.1 = RX11) {c : Nat} (hkd : kd c = 5) (hdg : decode M.2.1 pc = .ok (.getfield 160, 3)) (kk : J M d w (pc + 3) lv (.int (wI w c 2) :: st) o w') : J M d w pc lv (.ref c :: st) o w' :=
  jr_get (k := 2) (T := TX6) (v := .int (wI w c 2)) hkd (by decide) rfl (by decide) in_X6 rfl (by rw [hM]; exact wFL_X11_160) (fun ρ => rfl) hdg kk
theorem wFL_X11_163 : Cond.fieldLink RX11 163 RX6 (TX6 0).2.1 (TX6 0).2.2.1 ∈ jT := jT_in (i := 464) (by decide +kernel) (by decide +kernel)
theorem gf_X11_163 {M : jMM} {d : Nat} {w w' : jWd} {pc : Nat} {lv : List (Nat × Value)} {st : List Value} {o : Option Value} {r : Nat} (hM : M.1 = RX11) {c : Nat} (hkd : kd c = 5) (hr : c + 1 = r) (hdg : decode M.2.1 pc = .ok (.getfield 163, 3)) (kk : J M d w (pc + 3) lv (.ref r :: st) o w') : J M d w pc lv (.ref c :: st) o w' :=
  jr_get (k := 0) (T := TX6) (v := .ref r) hkd (by decide) rfl (by decide) in_X6 rfl (by rw [hM]; exact wFL_X11_163) (fun ρ => by subst hr; rfl) hdg kk
theorem wFL_X11_171 : Cond.fieldLink RX11 171 RX8 (TX8 6).2.1 (TX8 6).2.2.1 ∈ jT := jT_in (i := 360) (by decide +kernel) (by decide +kernel)
theorem gf_X11_171 {M : jMM} {d : Nat} {w w' : jWd} {pc : Nat} {lv : List (Nat × Value)} {st : List Value} {o : Option Value} {r : Nat} (hM : M.1 = RX11) {c : Nat} (hkd : kd c = 7) (hr : c + 31 = r) (hdg : decode M.2.1 pc = .ok (.getfield 171, 3)) (kk : J M d w (pc + 3) lv (.ref r :: st) o w') : J M d w pc lv (.ref c :: st) o w' :=
  jr_get (k := 6) (T := TX8) (v := .ref r) hkd (by decide) rfl (by decide) in_X8 rfl (by rw [hM]; exact wFL_X11_171) (fun ρ => by subst hr; rfl) hdg kk
theorem wFL_X11_172 : Cond.fieldLink RX11 172 RX1 (TX1 0).2.1 (TX1 0).2.2.1 ∈ jT := jT_in (i := 179) (by decide +kernel) (by decide +kernel)
theorem gf_X11_172 {M : jMM} {d : Nat} {w w' : jWd} {pc : Nat} {lv : List (Nat × Value)} {st : List Value} {o : Option Value} (hM : M.1 = RX11) {c : Nat} (hkd : kd c = 1) (hdg : decode M.2.1 pc = .ok (.getfield 172, 3)) (kk : J M d w (pc + 3) lv (.int (wI w c 0) :: st) o w') : J M d w pc lv (.ref c :: st) o w' :=
  jr_get (k := 0) (T := TX1) (v := .int (wI w c 0)) hkd (by decide) rfl (by decide) in_X1 rfl (by rw [hM]; exact wFL_X11_172) (fun ρ => rfl) hdg kk
theorem wFL_X11_177 : Cond.fieldLink RX11 177 RX8 (TX8 7).2.1 (TX8 7).2.2.1 ∈ jT := jT_in (i := 363) (by decide +kernel) (by decide +kernel)
theorem gf_X11_177 {M : jMM} {d : Nat} {w w' : jWd} {pc : Nat} {lv : List (Nat × Value)} {st : List Value} {o : Option Value} {r : Nat} (hM : M.1 = RX11) {c : Nat} (hkd : kd c = 7) (hr : c + 38 = r) (hdg : decode M.2.1 pc = .ok (.getfield 177, 3)) (kk : J M d w (pc + 3) lv (.ref r :: st) o w') : J M d w pc lv (.ref c :: st) o w' :=
  jr_get (k := 7) (T := TX8) (v := .ref r) hkd (by decide) rfl (by decide) in_X8 rfl (by rw [hM]; exact wFL_X11_177) (fun ρ => by subst hr; rfl) hdg kk
theorem wFL_X11_181 : Cond.fieldLink RX11 181 RX6 (TX6 1).2.1 (TX6 1).2.2.1 ∈ jT := jT_in (i := 466) (by decide +kernel) (by decide +kernel)
theorem gf_X11_181 {M : jMM} {d : Nat} {w w' : jWd} {pc : Nat} {lv : List (Nat × Value)} {st : List Value} {o : Option Value} {r : Nat} (hM : M.1 = RX11) {c : Nat} (hkd : kd c = 5) (hr : c + 8 = r) (hdg : decode M.2.1 pc = .ok (.getfield 181, 3)) (kk : J M d w (pc + 3) lv (.ref r :: st) o w') : J M d w pc lv (.ref c :: st) o w' :=
  jr_get (k := 1) (T := TX6) (v := .ref r) hkd (by decide) rfl (by decide) in_X6 rfl (by rw [hM]; exact wFL_X11_181) (fun ρ => by subst hr; rfl) hdg kk
theorem wFL_X11_188 : Cond.fieldLink RX11 188 RX3 (TX3 0).2.1 (TX3 0).2.2.1 ∈ jT := jT_in (i := 213) (by decide +kernel) (by decide +kernel)
theorem gf_X11_188 {M : jMM} {d : Nat} {w w' : jWd} {pc : Nat} {lv : List (Nat × Value)} {st : List Value} {o : Option Value} (hM : M.1 = RX11) {c : Nat} (hkd : kd c = 3) (hdg : decode M.2.1 pc = .ok (.getfield 188, 3)) (kk : J M d w (pc + 3) lv (.int (wI w c 0) :: st) o w') : J M d w pc lv (.ref c :: st) o w' :=
  jr_get (k := 0) (T := TX3) (v := .int (wI w c 0)) hkd (by decide) rfl (by decide) in_X3 rfl (by rw [hM]; exact wFL_X11_188) (fun ρ => rfl) hdg kk
theorem wFL_X11_191 : Cond.fieldLink RX11 191 RX6 (TX6 3).2.1 (TX6 3).2.2.1 ∈ jT := jT_in (i := 470) (by decide +kernel) (by decide +kernel)
theorem gf_X11_191 {M : jMM} {d : Nat} {w w' : jWd} {pc : Nat} {lv : List (Nat × Value)} {st : List Value} {o : Option Value} (hM : M.1 = RX11) {c : Nat} (hkd : kd c = 5) (hdg : decode M.2.1 pc = .ok (.getfield 191, 3)) (kk : J M d w (pc + 3) lv (.int (wI w c 3) :: st) o w') : J M d w pc lv (.ref c :: st) o w' :=
  jr_get (k := 3) (T := TX6) (v := .int (wI w c 3)) hkd (by decide) rfl (by decide) in_X6 rfl (by rw [hM]; exact wFL_X11_191) (fun ρ => rfl) hdg kk
theorem wFL_X11_198 : Cond.fieldLink RX11 198 RX8 (TX8 0).2.1 (TX8 0).2.2.1 ∈ jT := jT_in (i := 346) (by decide +kernel) (by decide +kernel)
theorem gf_X11_198 {M : jMM} {d : Nat} {w w' : jWd} {pc : Nat} {lv : List (Nat × Value)} {st : List Value} {o : Option Value} {r : Nat} (hM : M.1 = RX11) {c : Nat} (hkd : kd c = 7) (hr : c + 1 = r) (hdg : decode M.2.1 pc = .ok (.getfield 198, 3)) (kk : J M d w (pc + 3) lv (.ref r :: st) o w') : J M d w pc lv (.ref c :: st) o w' :=
  jr_get (k := 0) (T := TX8) (v := .ref r) hkd (by decide) rfl (by decide) in_X8 rfl (by rw [hM]; exact wFL_X11_198) (fun ρ => by subst hr; rfl) hdg kk
theorem wFL_X11_205 : Cond.fieldLink RX11 205 RX5 (TX5 3).2.1 (TX5 3).2.2.1 ∈ jT := jT_in (i := 137) (by decide +kernel) (by decide +kernel)
theorem gf_X11_205 {M : jMM} {d : Nat} {w w' : jWd} {pc : Nat} {lv : List (Nat × Value)} {st : List Value} {o : Option Value} {r : Nat} (hM : M.1 = RX11) {c : Nat} (hkd : kd c = 4) (hr : c + 1 = r) (hdg : decode M.2.1 pc = .ok (.getfield 205, 3)) (kk : J M d w (pc + 3) lv (.ref r :: st) o w') : J M d w pc lv (.ref c :: st) o w' :=
  jr_get (k := 3) (T := TX5) (v := .ref r) hkd (by decide) rfl (by decide) in_X5 rfl (by rw [hM]; exact wFL_X11_205) (fun ρ => by subst hr; rfl) hdg kk
theorem wFL_X11_214 : Cond.fieldLink RX11 214 RX2 (TX2 3).2.1 (TX2 3).2.2.1 ∈ jT := jT_in (i := 415) (by decide +kernel) (by decide +kernel)
theorem gf_X11_214 {M : jMM} {d : Nat} {w w' : jWd} {pc : Nat} {lv : List (Nat × Value)} {st : List Value} {o : Option Value} (hM : M.1 = RX11) {c : Nat} (hkd : kd c = 2) (hdg : decode M.2.1 pc = .ok (.getfield 214, 3)) (kk : J M d w (pc + 3) lv (.int (wI w c 3) :: st) o w') : J M d w pc lv (.ref c :: st) o w' :=
  jr_get (k := 3) (T := TX2) (v := .int (wI w c 3)) hkd (by decide) rfl (by decide) in_X2 rfl (by rw [hM]; exact wFL_X11_214) (fun ρ => rfl) hdg kk
theorem wFL_X11_217 : Cond.fieldLink RX11 217 RX2 (TX2 4).2.1 (TX2 4).2.2.1 ∈ jT := jT_in (i := 417) (by decide +kernel) (by decide +kernel)
theorem gf_X11_217 {M : jMM} {d : Nat} {w w' : jWd} {pc : Nat} {lv : List (Nat × Value)} {st : List Value} {o : Option Value} (hM : M.1 = RX11) {c : Nat} (hkd : kd c = 2) (hdg : decode M.2.1 pc = .ok (.getfield 217, 3)) (kk : J M d w (pc + 3) lv (.int (wI w c 4) :: st) o w') : J M d w pc lv (.ref c :: st) o w' :=
  jr_get (k := 4) (T := TX2) (v := .int (wI w c 4)) hkd (by decide) rfl (by decide) in_X2 rfl (by rw [hM]; exact wFL_X11_217) (fun ρ => rfl) hdg kk
theorem wFL_X11_227 : Cond.fieldLink RX11 227 RX5 (TX5 6).2.1 (TX5 6).2.2.1 ∈ jT := jT_in (i := 146) (by decide +kernel) (by decide +kernel)
theorem gf_X11_227 {M : jMM} {d : Nat} {w w' : jWd} {pc : Nat} {lv : List (Nat × Value)} {st : List Value} {o : Option Value} {r : Nat} (hM : M.1 = RX11) {c : Nat} (hkd : kd c = 4) (hr : c + 4 = r) (hdg : decode M.2.1 pc = .ok (.getfield 227, 3)) (kk : J M d w (pc + 3) lv (.ref r :: st) o w') : J M d w pc lv (.ref c :: st) o w' :=
  jr_get (k := 6) (T := TX5) (v := .ref r) hkd (by decide) rfl (by decide) in_X5 rfl (by rw [hM]; exact wFL_X11_227) (fun ρ => by subst hr; rfl) hdg kk
theorem wFL_X11_233 : Cond.fieldLink RX11 233 RX2 (TX2 2).2.1 (TX2 2).2.2.1 ∈ jT := jT_in (i := 413) (by decide +kernel) (by decide +kernel)
theorem gf_X11_233 {M : jMM} {d : Nat} {w w' : jWd} {pc : Nat} {lv : List (Nat × Value)} {st : List Value} {o : Option Value} {r : Nat} (hM : M.1 = RX11) {c : Nat} (hkd : kd c = 2) (hr : c + 2 = r) (hdg : decode M.2.1 pc = .ok (.getfield 233, 3)) (kk : J M d w (pc + 3) lv (.ref r :: st) o w') : J M d w pc lv (.ref c :: st) o w' :=
  jr_get (k := 2) (T := TX2) (v := .ref r) hkd (by decide) rfl (by decide) in_X2 rfl (by rw [hM]; exact wFL_X11_233) (fun ρ => by subst hr; rfl) hdg kk
theorem wFL_X11_250 : Cond.fieldLink RX11 250 RX8 (TX8 1).2.1 (TX8 1).2.2.1 ∈ jT := jT_in (i := 349) (by decide +kernel) (by decide +kernel)
theorem gf_X11_250 {M : jMM} {d : Nat} {w w' : jWd} {pc : Nat} {lv : List (Nat × Value)} {st : List Value} {o : Option Value} {r : Nat} (hM : M.1 = RX11) {c : Nat} (hkd : kd c = 7) (hr : c + 8 = r) (hdg : decode M.2.1 pc = .ok (.getfield 250, 3)) (kk : J M d w (pc + 3) lv (.ref r :: st) o w') : J M d w pc lv (.ref c :: st) o w' :=
  jr_get (k := 1) (T := TX8) (v := .ref r) hkd (by decide) rfl (by decide) in_X8 rfl (by rw [hM]; exact wFL_X11_250) (fun ρ => by subst hr; rfl) hdg kk
theorem wFL_X11_256 : Cond.fieldLink RX11 256 RX5 (TX5 2).2.1 (TX5 2).2.2.1 ∈ jT := jT_in (i := 133) (by decide +kernel) (by decide +kernel)
theorem gf_X11_256 {M : jMM} {d : Nat} {w w' : jWd} {pc : Nat} {lv : List (Nat × Value)} {st : List Value} {o : Option Value} (hM : M.1 = RX11) {c : Nat} (hkd : kd c = 4) (hdg : decode M.2.1 pc = .ok (.getfield 256, 3)) (kk : J M d w (pc + 3) lv (.int (wI w c 2) :: st) o w') : J M d w pc lv (.ref c :: st) o w' :=
  jr_get (k := 2) (T := TX5) (v := .int (wI w c 2)) hkd (by decide) rfl (by decide) in_X5 rfl (by rw [hM]; exact wFL_X11_256) (fun ρ => rfl) hdg kk
theorem wFL_X11_264 : Cond.fieldLink RX11 264 RX8 (TX8 5).2.1 (TX8 5).2.2.1 ∈ jT := jT_in (i := 358) (by decide +kernel) (by decide +kernel)
theorem gf_X11_264 {M : jMM} {d : Nat} {w w' : jWd} {pc : Nat} {lv : List (Nat × Value)} {st : List Value} {o : Option Value} {r : Nat} (hM : M.1 = RX11) {c : Nat} (hkd : kd c = 7) (hr : c + 30 = r) (hdg : decode M.2.1 pc = .ok (.getfield 264, 3)) (kk : J M d w (pc + 3) lv (.ref r :: st) o w') : J M d w pc lv (.ref c :: st) o w' :=
  jr_get (k := 5) (T := TX8) (v := .ref r) hkd (by decide) rfl (by decide) in_X8 rfl (by rw [hM]; exact wFL_X11_264) (fun ρ => by subst hr; rfl) hdg kk
theorem wFL_X11_267 : Cond.fieldLink RX11 267 RX8 (TX8 3).2.1 (TX8 3).2.2.1 ∈ jT := jT_in (i := 354) (by decide +kernel) (by decide +kernel)
theorem gf_X11_267 {M : jMM} {d : Nat} {w w' : jWd} {pc : Nat} {lv : List (Nat × Value)} {st : List Value} {o : Option Value} {r : Nat} (hM : M.1 = RX11) {c : Nat} (hkd : kd c = 7) (hr : c + 22 = r) (hdg : decode M.2.1 pc = .ok (.getfield 267, 3)) (kk : J M d w (pc + 3) lv (.ref r :: st) o w') : J M d w pc lv (.ref c :: st) o w' :=
  jr_get (k := 3) (T := TX8) (v := .ref r) hkd (by decide) rfl (by decide) in_X8 rfl (by rw [hM]; exact wFL_X11_267) (fun ρ => by subst hr; rfl) hdg kk
theorem wFL_X11_276 : Cond.fieldLink RX11 276 RX8 (TX8 8).2.1 (TX8 8).2.2.1 ∈ jT := jT_in (i := 366) (by decide +kernel) (by decide +kernel)
theorem gf_X11_276 {M : jMM} {d : Nat} {w w' : jWd} {pc : Nat} {lv : List (Nat × Value)} {st : List Value} {o : Option Value} {r : Nat} (hM : M.1 = RX11) {c : Nat} (hkd : kd c = 7) (hr : c + 40 = r) (hdg : decode M.2.1 pc = .ok (.getfield 276, 3)) (kk : J M d w (pc + 3) lv (.ref r :: st) o w') : J M d w pc lv (.ref c :: st) o w' :=
  jr_get (k := 8) (T := TX8) (v := .ref r) hkd (by decide) rfl (by decide) in_X8 rfl (by rw [hM]; exact wFL_X11_276) (fun ρ => by subst hr; rfl) hdg kk
theorem wFL_X11_293 : Cond.fieldLink RX11 293 RX0 (TX0 6).2.1 (TX0 6).2.2.1 ∈ jT := jT_in (i := 255) (by decide +kernel) (by decide +kernel)
theorem gf_X11_293 {M : jMM} {d : Nat} {w w' : jWd} {pc : Nat} {lv : List (Nat × Value)} {st : List Value} {o : Option Value} {r : Nat} (hM : M.1 = RX11) {c : Nat} (hkd : kd c = 0) (hr : c + 6 = r) (hdg : decode M.2.1 pc = .ok (.getfield 293, 3)) (kk : J M d w (pc + 3) lv (.ref r :: st) o w') : J M d w pc lv (.ref c :: st) o w' :=
  jr_get (k := 6) (T := TX0) (v := .ref r) hkd (by decide) rfl (by decide) in_X0 rfl (by rw [hM]; exact wFL_X11_293) (fun ρ => by subst hr; rfl) hdg kk
theorem wFL_X11_296 : Cond.fieldLink RX11 296 RX0 (TX0 2).2.1 (TX0 2).2.2.1 ∈ jT := jT_in (i := 246) (by decide +kernel) (by decide +kernel)
theorem gf_X11_296 {M : jMM} {d : Nat} {w w' : jWd} {pc : Nat} {lv : List (Nat × Value)} {st : List Value} {o : Option Value} {r : Nat} (hM : M.1 = RX11) {c : Nat} (hkd : kd c = 0) (hr : c + 2 = r) (hdg : decode M.2.1 pc = .ok (.getfield 296, 3)) (kk : J M d w (pc + 3) lv (.ref r :: st) o w') : J M d w pc lv (.ref c :: st) o w' :=
  jr_get (k := 2) (T := TX0) (v := .ref r) hkd (by decide) rfl (by decide) in_X0 rfl (by rw [hM]; exact wFL_X11_296) (fun ρ => by subst hr; rfl) hdg kk
theorem wFL_X11_297 : Cond.fieldLink RX11 297 RX0 (TX0 3).2.1 (TX0 3).2.2.1 ∈ jT := jT_in (i := 249) (by decide +kernel) (by decide +kernel)
theorem gf_X11_297 {M : jMM} {d : Nat} {w w' : jWd} {pc : Nat} {lv : List (Nat × Value)} {st : List Value} {o : Option Value} {r : Nat} (hM : M.1 = RX11) {c : Nat} (hkd : kd c = 0) (hr : c + 3 = r) (hdg : decode M.2.1 pc = .ok (.getfield 297, 3)) (kk : J M d w (pc + 3) lv (.ref r :: st) o w') : J M d w pc lv (.ref c :: st) o w' :=
  jr_get (k := 3) (T := TX0) (v := .ref r) hkd (by decide) rfl (by decide) in_X0 rfl (by rw [hM]; exact wFL_X11_297) (fun ρ => by subst hr; rfl) hdg kk
theorem wFL_X11_310 : Cond.fieldLink RX11 310 RX0 (TX0 0).2.1 (TX0 0).2.2.1 ∈ jT := jT_in (i := 241) (by decide +kernel) (by decide +kernel)
theorem gf_X11_310 {M : jMM} {d : Nat} {w w' : jWd} {pc : Nat} {lv : List (Nat × Value)} {st : List Value} {o : Option Value} (hM : M.1 = RX11) {c : Nat} (hkd : kd c = 0) (hdg : decode M.2.1 pc = .ok (.getfield 310, 3)) (kk : J M d w (pc + 3) lv (.int (wI w c 0) :: st) o w') : J M d w pc lv (.ref c :: st) o w' :=
  jr_get (k := 0) (T := TX0) (v := .int (wI w c 0)) hkd (by decide) rfl (by decide) in_X0 rfl (by rw [hM]; exact wFL_X11_310) (fun ρ => rfl) hdg kk
theorem wFL_X11_311 : Cond.fieldLink RX11 311 RX0 (TX0 1).2.1 (TX0 1).2.2.1 ∈ jT := jT_in (i := 243) (by decide +kernel) (by decide +kernel)
theorem gf_X11_311 {M : jMM} {d : Nat} {w w' : jWd} {pc : Nat} {lv : List (Nat × Value)} {st : List Value} {o : Option Value} {r : Nat} (hM : M.1 = RX11) {c : Nat} (hkd : kd c = 0) (hr : c + 1 = r) (hdg : decode M.2.1 pc = .ok (.getfield 311, 3)) (kk : J M d w (pc + 3) lv (.ref r :: st) o w') : J M d w pc lv (.ref c :: st) o w' :=
  jr_get (k := 1) (T := TX0) (v := .ref r) hkd (by decide) rfl (by decide) in_X0 rfl (by rw [hM]; exact wFL_X11_311) (fun ρ => by subst hr; rfl) hdg kk
theorem wFL_X11_319 : Cond.fieldLink RX11 319 RX8 (TX8 9).2.1 (TX8 9).2.2.1 ∈ jT := jT_in (i := 368) (by decide +kernel) (by decide +kernel)
theorem gf_X11_319 {M : jMM} {d : Nat} {w w' : jWd} {pc : Nat} {lv : List (Nat × Value)} {st : List Value} {o : Option Value} {r : Nat} (hM : M.1 = RX11) {c : Nat} (hkd : kd c = 7) (hr : c + 47 = r) (hdg : decode M.2.1 pc = .ok (.getfield 319, 3)) (kk : J M d w (pc + 3) lv (.ref r :: st) o w') : J M d w pc lv (.ref c :: st) o w' :=
  jr_get (k := 9) (T := TX8) (v := .ref r) hkd (by decide) rfl (by decide) in_X8 rfl (by rw [hM]; exact wFL_X11_319) (fun ρ => by subst hr; rfl) hdg kk
theorem wFL_X11_323 : Cond.fieldLink RX11 323 RX9 (TX9 0).2.1 (TX9 0).2.2.1 ∈ jT := jT_in (i := 278) (by decide +kernel) (by decide +kernel)
theorem gf_X11_323 {M : jMM} {d : Nat} {w w' : jWd} {pc : Nat} {lv : List (Nat × Value)} {st : List Value} {o : Option Value} (hM : M.1 = RX11) {c : Nat} (hkd : kd c = 8) (hdg : decode M.2.1 pc = .ok (.getfield 323, 3)) (kk : J M d w (pc + 3) lv (.int (wI w c 0) :: st) o w') : J M d w pc lv (.ref c :: st) o w' :=
  jr_get (k := 0) (T := TX9) (v := .int (wI w c 0)) hkd (by decide) rfl (by decide) in_X9 rfl (by rw [hM]; exact wFL_X11_323) (fun ρ => rfl) hdg kk
theorem wFL_X11_333 : Cond.fieldLink RX11 333 RX9 (TX9 1).2.1 (TX9 1).2.2.1 ∈ jT := jT_in (i := 280) (by decide +kernel) (by decide +kernel)
theorem gf_X11_333 {M : jMM} {d : Nat} {w w' : jWd} {pc : Nat} {lv : List (Nat × Value)} {st : List Value} {o : Option Value} (hM : M.1 = RX11) {c : Nat} (hkd : kd c = 8) (hdg : decode M.2.1 pc = .ok (.getfield 333, 3)) (kk : J M d w (pc + 3) lv (.int (wI w c 1) :: st) o w') : J M d w pc lv (.ref c :: st) o w' :=
  jr_get (k := 1) (T := TX9) (v := .int (wI w c 1)) hkd (by decide) rfl (by decide) in_X9 rfl (by rw [hM]; exact wFL_X11_333) (fun ρ => rfl) hdg kk
theorem wFL_X11_345 : Cond.fieldLink RX11 345 RX9 (TX9 2).2.1 (TX9 2).2.2.1 ∈ jT := jT_in (i := 282) (by decide +kernel) (by decide +kernel)
theorem gf_X11_345 {M : jMM} {d : Nat} {w w' : jWd} {pc : Nat} {lv : List (Nat × Value)} {st : List Value} {o : Option Value} (hM : M.1 = RX11) {c : Nat} (hkd : kd c = 8) (hdg : decode M.2.1 pc = .ok (.getfield 345, 3)) (kk : J M d w (pc + 3) lv (.int (wI w c 2) :: st) o w') : J M d w pc lv (.ref c :: st) o w' :=
  jr_get (k := 2) (T := TX9) (v := .int (wI w c 2)) hkd (by decide) rfl (by decide) in_X9 rfl (by rw [hM]; exact wFL_X11_345) (fun ρ => rfl) hdg kk
theorem wFL_X11_354 : Cond.fieldLink RX11 354 RX8 (TX8 10).2.1 (TX8 10).2.2.1 ∈ jT := jT_in (i := 370) (by decide +kernel) (by decide +kernel)
theorem gf_X11_354 {M : jMM} {d : Nat} {w w' : jWd} {pc : Nat} {lv : List (Nat × Value)} {st : List Value} {o : Option Value} {r : Nat} (hM : M.1 = RX11) {c : Nat} (hkd : kd c = 7) (hr : c + 54 = r) (hdg : decode M.2.1 pc = .ok (.getfield 354, 3)) (kk : J M d w (pc + 3) lv (.ref r :: st) o w') : J M d w pc lv (.ref c :: st) o w' :=
  jr_get (k := 10) (T := TX8) (v := .ref r) hkd (by decide) rfl (by decide) in_X8 rfl (by rw [hM]; exact wFL_X11_354) (fun ρ => by subst hr; rfl) hdg kk
theorem wFL_X11_358 : Cond.fieldLink RX11 358 RX10 (TX10 0).2.1 (TX10 0).2.2.1 ∈ jT := jT_in (i := 315) (by decide +kernel) (by decide +kernel)
theorem gf_X11_358 {M : jMM} {d : Nat} {w w' : jWd} {pc : Nat} {lv : List (Nat × Value)} {st : List Value} {o : Option Value} (hM : M.1 = RX11) {c : Nat} (hkd : kd c = 9) (hdg : decode M.2.1 pc = .ok (.getfield 358, 3)) (kk : J M d w (pc + 3) lv (.int (wI w c 0) :: st) o w') : J M d w pc lv (.ref c :: st) o w' :=
  jr_get (k := 0) (T := TX10) (v := .int (wI w c 0)) hkd (by decide) rfl (by decide) in_X10 rfl (by rw [hM]; exact wFL_X11_358) (fun ρ => rfl) hdg kk
theorem wFL_X11_373 : Cond.fieldLink RX11 373 RX10 (TX10 4).2.1 (TX10 4).2.2.1 ∈ jT := jT_in (i := 320) (by decide +kernel) (by decide +kernel)
theorem gf_X11_373 {M : jMM} {d : Nat} {w w' : jWd} {pc : Nat} {lv : List (Nat × Value)} {st : List Value} {o : Option Value} {r : Nat} (hM : M.1 = RX11) {c : Nat} (hkd : kd c = 9) (hr : c + 4 = r) (hdg : decode M.2.1 pc = .ok (.getfield 373, 3)) (kk : J M d w (pc + 3) lv (.ref r :: st) o w') : J M d w pc lv (.ref c :: st) o w' :=
  jr_get (k := 4) (T := TX10) (v := .ref r) hkd (by decide) rfl (by decide) in_X10 rfl (by rw [hM]; exact wFL_X11_373) (fun ρ => by subst hr; rfl) hdg kk
theorem wFL_X11_376 : Cond.fieldLink RX11 376 RX10 (TX10 5).2.1 (TX10 5).2.2.1 ∈ jT := jT_in (i := 322) (by decide +kernel) (by decide +kernel)
theorem gf_X11_376 {M : jMM} {d : Nat} {w w' : jWd} {pc : Nat} {lv : List (Nat × Value)} {st : List Value} {o : Option Value} {r : Nat} (hM : M.1 = RX11) {c : Nat} (hkd : kd c = 9) (hr : c + 5 = r) (hdg : decode M.2.1 pc = .ok (.getfield 376, 3)) (kk : J M d w (pc + 3) lv (.ref r :: st) o w') : J M d w pc lv (.ref c :: st) o w' :=
  jr_get (k := 5) (T := TX10) (v := .ref r) hkd (by decide) rfl (by decide) in_X10 rfl (by rw [hM]; exact wFL_X11_376) (fun ρ => by subst hr; rfl) hdg kk
theorem wFL_X11_388 : Cond.fieldLink RX11 388 RX7 (TX7 0).2.1 (TX7 0).2.2.1 ∈ jT := jT_in (i := 443) (by decide +kernel) (by decide +kernel)
theorem gf_X11_388 {M : jMM} {d : Nat} {w w' : jWd} {pc : Nat} {lv : List (Nat × Value)} {st : List Value} {o : Option Value} {r : Nat} (hM : M.1 = RX11) {c : Nat} (hkd : kd c = 6) (hr : c + 1 = r) (hdg : decode M.2.1 pc = .ok (.getfield 388, 3)) (kk : J M d w (pc + 3) lv (.ref r :: st) o w') : J M d w pc lv (.ref c :: st) o w' :=
  jr_get (k := 0) (T := TX7) (v := .ref r) hkd (by decide) rfl (by decide) in_X7 rfl (by rw [hM]; exact wFL_X11_388) (fun ρ => by subst hr; rfl) hdg kk
theorem wFL_X0_11 : Cond.fieldLink RX0 11 RX0 (TX0 1).2.1 (TX0 1).2.2.1 ∈ jT := jT_in (i := 242) (by decide +kernel) (by decide +kernel)
theorem gf_X0_11 {M : jMM} {d : Nat} {w w' : jWd} {pc : Nat} {lv : List (Nat × Value)} {st : List Value} {o : Option Value} {r : Nat} (hM : M.1 = RX0) {c : Nat} (hkd : kd c = 0) (hr : c + 1 = r) (hdg : decode M.2.1 pc = .ok (.getfield 11, 3)) (kk : J M d w (pc + 3) lv (.ref r :: st) o w') : J M d w pc lv (.ref c :: st) o w' :=
  jr_get (k := 1) (T := TX0) (v := .ref r) hkd (by decide) rfl (by decide) in_X0 rfl (by rw [hM]; exact wFL_X0_11) (fun ρ => by subst hr; rfl) hdg kk
theorem wFL_X0_15 : Cond.fieldLink RX0 15 RX0 (TX0 2).2.1 (TX0 2).2.2.1 ∈ jT := jT_in (i := 244) (by decide +kernel) (by decide +kernel)
theorem gf_X0_15 {M : jMM} {d : Nat} {w w' : jWd} {pc : Nat} {lv : List (Nat × Value)} {st : List Value} {o : Option Value} {r : Nat} (hM : M.1 = RX0) {c : Nat} (hkd : kd c = 0) (hr : c + 2 = r) (hdg : decode M.2.1 pc = .ok (.getfield 15, 3)) (kk : J M d w (pc + 3) lv (.ref r :: st) o w') : J M d w pc lv (.ref c :: st) o w' :=
  jr_get (k := 2) (T := TX0) (v := .ref r) hkd (by decide) rfl (by decide) in_X0 rfl (by rw [hM]; exact wFL_X0_15) (fun ρ => by subst hr; rfl) hdg kk
theorem wFL_X0_18 : Cond.fieldLink RX0 18 RX0 (TX0 3).2.1 (TX0 3).2.2.1 ∈ jT := jT_in (i := 247) (by decide +kernel) (by decide +kernel)
theorem gf_X0_18 {M : jMM} {d : Nat} {w w' : jWd} {pc : Nat} {lv : List (Nat × Value)} {st : List Value} {o : Option Value} {r : Nat} (hM : M.1 = RX0) {c : Nat} (hkd : kd c = 0) (hr : c + 3 = r) (hdg : decode M.2.1 pc = .ok (.getfield 18, 3)) (kk : J M d w (pc + 3) lv (.ref r :: st) o w') : J M d w pc lv (.ref c :: st) o w' :=
  jr_get (k := 3) (T := TX0) (v := .ref r) hkd (by decide) rfl (by decide) in_X0 rfl (by rw [hM]; exact wFL_X0_18) (fun ρ => by subst hr; rfl) hdg kk
theorem wFL_X0_21 : Cond.fieldLink RX0 21 RX0 (TX0 4).2.1 (TX0 4).2.2.1 ∈ jT := jT_in (i := 250) (by decide +kernel) (by decide +kernel)
theorem gf_X0_21 {M : jMM} {d : Nat} {w w' : jWd} {pc : Nat} {lv : List (Nat × Value)} {st : List Value} {o : Option Value} {r : Nat} (hM : M.1 = RX0) {c : Nat} (hkd : kd c = 0) (hr : c + 4 = r) (hdg : decode M.2.1 pc = .ok (.getfield 21, 3)) (kk : J M d w (pc + 3) lv (.ref r :: st) o w') : J M d w pc lv (.ref c :: st) o w' :=
  jr_get (k := 4) (T := TX0) (v := .ref r) hkd (by decide) rfl (by decide) in_X0 rfl (by rw [hM]; exact wFL_X0_21) (fun ρ => by subst hr; rfl) hdg kk
theorem wFL_X0_24 : Cond.fieldLink RX0 24 RX0 (TX0 5).2.1 (TX0 5).2.2.1 ∈ jT := jT_in (i := 251) (by decide +kernel) (by decide +kernel)
theorem gf_X0_24 {M : jMM} {d : Nat} {w w' : jWd} {pc : Nat} {lv : List (Nat × Value)} {st : List Value} {o : Option Value} {r : Nat} (hM : M.1 = RX0) {c : Nat} (hkd : kd c = 0) (hr : c + 5 = r) (hdg : decode M.2.1 pc = .ok (.getfield 24, 3)) (kk : J M d w (pc + 3) lv (.ref r :: st) o w') : J M d w pc lv (.ref c :: st) o w' :=
  jr_get (k := 5) (T := TX0) (v := .ref r) hkd (by decide) rfl (by decide) in_X0 rfl (by rw [hM]; exact wFL_X0_24) (fun ρ => by subst hr; rfl) hdg kk
theorem wFL_X0_27 : Cond.fieldLink RX0 27 RX0 (TX0 6).2.1 (TX0 6).2.2.1 ∈ jT := jT_in (i := 253) (by decide +kernel) (by decide +kernel)
theorem gf_X0_27 {M : jMM} {d : Nat} {w w' : jWd} {pc : Nat} {lv : List (Nat × Value)} {st : List Value} {o : Option Value} {r : Nat} (hM : M.1 = RX0) {c : Nat} (hkd : kd c = 0) (hr : c + 6 = r) (hdg : decode M.2.1 pc = .ok (.getfield 27, 3)) (kk : J M d w (pc + 3) lv (.ref r :: st) o w') : J M d w pc lv (.ref c :: st) o w' :=
  jr_get (k := 6) (T := TX0) (v := .ref r) hkd (by decide) rfl (by decide) in_X0 rfl (by rw [hM]; exact wFL_X0_27) (fun ρ => by subst hr; rfl) hdg kk
theorem wFL_X0_31 : Cond.fieldLink RX0 31 RX0 (TX0 0).2.1 (TX0 0).2.2.1 ∈ jT := jT_in (i := 239) (by decide +kernel) (by decide +kernel)
theorem gf_X0_31 {M : jMM} {d : Nat} {w w' : jWd} {pc : Nat} {lv : List (Nat × Value)} {st : List Value} {o : Option Value} (hM : M.1 = RX0) {c : Nat} (hkd : kd c = 0) (hdg : decode M.2.1 pc = .ok (.getfield 31, 3)) (kk : J M d w (pc + 3) lv (.int (wI w c 0) :: st) o w') : J M d w pc lv (.ref c :: st) o w' :=
  jr_get (k := 0) (T := TX0) (v := .int (wI w c 0)) hkd (by decide) rfl (by decide) in_X0 rfl (by rw [hM]; exact wFL_X0_31) (fun ρ => rfl) hdg kk
theorem pf_X0_31 {M : jMM} {d : Nat} {w w' : jWd} {pc : Nat} {lv : List (Nat × Value)} {st : List Value} {o : Option Value} (hM : M.1 = RX0) {c : Nat} {x : Int32} (hkd : kd c = 0) (hdg : decode M.2.1 pc = .ok (.putfield 31, 3)) (kk : J M d (sI w c 0 x) (pc + 3) lv st o w') : J M d w pc lv (.int x :: .ref c :: st) o w' :=
  jr_put (k := 0) (T := TX0) (ty0 := tyX0) hkd (by decide) rfl (by decide) in_X0 tyX0_ok nmX0 rfl rfl rfl (by rw [hM]; exact wFL_X0_31) (fun ρ => by simp [jfl, wI_sI]) (fun ρ => by simp [jfl]) hdg kk
theorem wFL_X1_11 : Cond.fieldLink RX1 11 RX1 (TX1 2).2.1 (TX1 2).2.2.1 ∈ jT := jT_in (i := 183) (by decide +kernel) (by decide +kernel)
theorem gf_X1_11 {M : jMM} {d : Nat} {w w' : jWd} {pc : Nat} {lv : List (Nat × Value)} {st : List Value} {o : Option Value} {r : Nat} (hM : M.1 = RX1) {c : Nat} (hkd : kd c = 1) (hr : c + 1 = r) (hdg : decode M.2.1 pc = .ok (.getfield 11, 3)) (kk : J M d w (pc + 3) lv (.ref r :: st) o w') : J M d w pc lv (.ref c :: st) o w' :=
  jr_get (k := 2) (T := TX1) (v := .ref r) hkd (by decide) rfl (by decide) in_X1 rfl (by rw [hM]; exact wFL_X1_11) (fun ρ => by subst hr; rfl) hdg kk
theorem wFL_X1_15 : Cond.fieldLink RX1 15 RX1 (TX1 3).2.1 (TX1 3).2.2.1 ∈ jT := jT_in (i := 184) (by decide +kernel) (by decide +kernel)
theorem gf_X1_15 {M : jMM} {d : Nat} {w w' : jWd} {pc : Nat} {lv : List (Nat × Value)} {st : List Value} {o : Option Value} {r : Nat} (hM : M.1 = RX1) {c : Nat} (hkd : kd c = 1) (hr : c + 2 = r) (hdg : decode M.2.1 pc = .ok (.getfield 15, 3)) (kk : J M d w (pc + 3) lv (.ref r :: st) o w') : J M d w pc lv (.ref c :: st) o w' :=
  jr_get (k := 3) (T := TX1) (v := .ref r) hkd (by decide) rfl (by decide) in_X1 rfl (by rw [hM]; exact wFL_X1_15) (fun ρ => by subst hr; rfl) hdg kk
theorem wFL_X1_18 : Cond.fieldLink RX1 18 RX1 (TX1 4).2.1 (TX1 4).2.2.1 ∈ jT := jT_in (i := 185) (by decide +kernel) (by decide +kernel)
theorem gf_X1_18 {M : jMM} {d : Nat} {w w' : jWd} {pc : Nat} {lv : List (Nat × Value)} {st : List Value} {o : Option Value} {r : Nat} (hM : M.1 = RX1) {c : Nat} (hkd : kd c = 1) (hr : c + 3 = r) (hdg : decode M.2.1 pc = .ok (.getfield 18, 3)) (kk : J M d w (pc + 3) lv (.ref r :: st) o w') : J M d w pc lv (.ref c :: st) o w' :=
  jr_get (k := 4) (T := TX1) (v := .ref r) hkd (by decide) rfl (by decide) in_X1 rfl (by rw [hM]; exact wFL_X1_18) (fun ρ => by subst hr; rfl) hdg kk
theorem wFL_X1_22 : Cond.fieldLink RX1 22 RX1 (TX1 5).2.1 (TX1 5).2.2.1 ∈ jT := jT_in (i := 186) (by decide +kernel) (by decide +kernel)
theorem gf_X1_22 {M : jMM} {d : Nat} {w w' : jWd} {pc : Nat} {lv : List (Nat × Value)} {st : List Value} {o : Option Value} {r : Nat} (hM : M.1 = RX1) {c : Nat} (hkd : kd c = 1) (hr : c + 4 = r) (hdg : decode M.2.1 pc = .ok (.getfield 22, 3)) (kk : J M d w (pc + 3) lv (.ref r :: st) o w') : J M d w pc lv (.ref c :: st) o w' :=
  jr_get (k := 5) (T := TX1) (v := .ref r) hkd (by decide) rfl (by decide) in_X1 rfl (by rw [hM]; exact wFL_X1_22) (fun ρ => by subst hr; rfl) hdg kk
theorem wFL_X1_25 : Cond.fieldLink RX1 25 RX1 (TX1 6).2.1 (TX1 6).2.2.1 ∈ jT := jT_in (i := 187) (by decide +kernel) (by decide +kernel)
theorem gf_X1_25 {M : jMM} {d : Nat} {w w' : jWd} {pc : Nat} {lv : List (Nat × Value)} {st : List Value} {o : Option Value} {r : Nat} (hM : M.1 = RX1) {c : Nat} (hkd : kd c = 1) (hr : c + 5 = r) (hdg : decode M.2.1 pc = .ok (.getfield 25, 3)) (kk : J M d w (pc + 3) lv (.ref r :: st) o w') : J M d w pc lv (.ref c :: st) o w' :=
  jr_get (k := 6) (T := TX1) (v := .ref r) hkd (by decide) rfl (by decide) in_X1 rfl (by rw [hM]; exact wFL_X1_25) (fun ρ => by subst hr; rfl) hdg kk
theorem wFL_X1_28 : Cond.fieldLink RX1 28 RX1 (TX1 7).2.1 (TX1 7).2.2.1 ∈ jT := jT_in (i := 188) (by decide +kernel) (by decide +kernel)
theorem gf_X1_28 {M : jMM} {d : Nat} {w w' : jWd} {pc : Nat} {lv : List (Nat × Value)} {st : List Value} {o : Option Value} {r : Nat} (hM : M.1 = RX1) {c : Nat} (hkd : kd c = 1) (hr : c + 6 = r) (hdg : decode M.2.1 pc = .ok (.getfield 28, 3)) (kk : J M d w (pc + 3) lv (.ref r :: st) o w') : J M d w pc lv (.ref c :: st) o w' :=
  jr_get (k := 7) (T := TX1) (v := .ref r) hkd (by decide) rfl (by decide) in_X1 rfl (by rw [hM]; exact wFL_X1_28) (fun ρ => by subst hr; rfl) hdg kk
theorem wFL_X1_31 : Cond.fieldLink RX1 31 RX1 (TX1 0).2.1 (TX1 0).2.2.1 ∈ jT := jT_in (i := 178) (by decide +kernel) (by decide +kernel)
theorem gf_X1_31 {M : jMM} {d : Nat} {w w' : jWd} {pc : Nat} {lv : List (Nat × Value)} {st : List Value} {o : Option Value} (hM : M.1 = RX1) {c : Nat} (hkd : kd c = 1) (hdg : decode M.2.1 pc = .ok (.getfield 31, 3)) (kk : J M d w (pc + 3) lv (.int (wI w c 0) :: st) o w') : J M d w pc lv (.ref c :: st) o w' :=
  jr_get (k := 0) (T := TX1) (v := .int (wI w c 0)) hkd (by decide) rfl (by decide) in_X1 rfl (by rw [hM]; exact wFL_X1_31) (fun ρ => rfl) hdg kk
theorem pf_X1_31 {M : jMM} {d : Nat} {w w' : jWd} {pc : Nat} {lv : List (Nat × Value)} {st : List Value} {o : Option Value} (hM : M.1 = RX1) {c : Nat} {x : Int32} (hkd : kd c = 1) (hdg : decode M.2.1 pc = .ok (.putfield 31, 3)) (kk : J M d (sI w c 0 x) (pc + 3) lv st o w') : J M d w pc lv (.int x :: .ref c :: st) o w' :=
  jr_put (k := 0) (T := TX1) (ty0 := tyX1) hkd (by decide) rfl (by decide) in_X1 tyX1_ok nmX1 rfl rfl rfl (by rw [hM]; exact wFL_X1_31) (fun ρ => by simp [jfl, wI_sI]) (fun ρ => by simp [jfl]) hdg kk
theorem wFL_X1_35 : Cond.fieldLink RX1 35 RX1 (TX1 1).2.1 (TX1 1).2.2.1 ∈ jT := jT_in (i := 181) (by decide +kernel) (by decide +kernel)
theorem gf_X1_35 {M : jMM} {d : Nat} {w w' : jWd} {pc : Nat} {lv : List (Nat × Value)} {st : List Value} {o : Option Value} (hM : M.1 = RX1) {c : Nat} (hkd : kd c = 1) (hdg : decode M.2.1 pc = .ok (.getfield 35, 3)) (kk : J M d w (pc + 3) lv (.int (wI w c 1) :: st) o w') : J M d w pc lv (.ref c :: st) o w' :=
  jr_get (k := 1) (T := TX1) (v := .int (wI w c 1)) hkd (by decide) rfl (by decide) in_X1 rfl (by rw [hM]; exact wFL_X1_35) (fun ρ => rfl) hdg kk
theorem pf_X1_35 {M : jMM} {d : Nat} {w w' : jWd} {pc : Nat} {lv : List (Nat × Value)} {st : List Value} {o : Option Value} (hM : M.1 = RX1) {c : Nat} {x : Int32} (hkd : kd c = 1) (hdg : decode M.2.1 pc = .ok (.putfield 35, 3)) (kk : J M d (sI w c 1 x) (pc + 3) lv st o w') : J M d w pc lv (.int x :: .ref c :: st) o w' :=
  jr_put (k := 1) (T := TX1) (ty0 := tyX1) hkd (by decide) rfl (by decide) in_X1 tyX1_ok nmX1 rfl rfl rfl (by rw [hM]; exact wFL_X1_35) (fun ρ => by simp [jfl, wI_sI]) (fun ρ => by simp [jfl]) hdg kk
theorem wFL_X2_11 : Cond.fieldLink RX2 11 RX2 (TX2 1).2.1 (TX2 1).2.2.1 ∈ jT := jT_in (i := 411) (by decide +kernel) (by decide +kernel)
theorem gf_X2_11 {M : jMM} {d : Nat} {w w' : jWd} {pc : Nat} {lv : List (Nat × Value)} {st : List Value} {o : Option Value} {r : Nat} (hM : M.1 = RX2) {c : Nat} (hkd : kd c = 2) (hr : c + 1 = r) (hdg : decode M.2.1 pc = .ok (.getfield 11, 3)) (kk : J M d w (pc + 3) lv (.ref r :: st) o w') : J M d w pc lv (.ref c :: st) o w' :=
  jr_get (k := 1) (T := TX2) (v := .ref r) hkd (by decide) rfl (by decide) in_X2 rfl (by rw [hM]; exact wFL_X2_11) (fun ρ => by subst hr; rfl) hdg kk
theorem wFL_X2_17 : Cond.fieldLink RX2 17 RX2 (TX2 2).2.1 (TX2 2).2.2.1 ∈ jT := jT_in (i := 412) (by decide +kernel) (by decide +kernel)
theorem gf_X2_17 {M : jMM} {d : Nat} {w w' : jWd} {pc : Nat} {lv : List (Nat × Value)} {st : List Value} {o : Option Value} {r : Nat} (hM : M.1 = RX2) {c : Nat} (hkd : kd c = 2) (hr : c + 2 = r) (hdg : decode M.2.1 pc = .ok (.getfield 17, 3)) (kk : J M d w (pc + 3) lv (.ref r :: st) o w') : J M d w pc lv (.ref c :: st) o w' :=
  jr_get (k := 2) (T := TX2) (v := .ref r) hkd (by decide) rfl (by decide) in_X2 rfl (by rw [hM]; exact wFL_X2_17) (fun ρ => by subst hr; rfl) hdg kk
theorem wFL_X2_21 : Cond.fieldLink RX2 21 RX2 (TX2 0).2.1 (TX2 0).2.2.1 ∈ jT := jT_in (i := 410) (by decide +kernel) (by decide +kernel)
theorem gf_X2_21 {M : jMM} {d : Nat} {w w' : jWd} {pc : Nat} {lv : List (Nat × Value)} {st : List Value} {o : Option Value} {r : Nat} (hM : M.1 = RX2) {c : Nat} (hkd : kd c = 2) (hr : 1 = r) (hdg : decode M.2.1 pc = .ok (.getfield 21, 3)) (kk : J M d w (pc + 3) lv (.ref r :: st) o w') : J M d w pc lv (.ref c :: st) o w' :=
  jr_get (k := 0) (T := TX2) (v := .ref r) hkd (by decide) rfl (by decide) in_X2 rfl (by rw [hM]; exact wFL_X2_21) (fun ρ => by subst hr; rfl) hdg kk
theorem wFL_X2_25 : Cond.fieldLink RX2 25 RX8 (TX8 2).2.1 (TX8 2).2.2.1 ∈ jT := jT_in (i := 351) (by decide +kernel) (by decide +kernel)
theorem gf_X2_25 {M : jMM} {d : Nat} {w w' : jWd} {pc : Nat} {lv : List (Nat × Value)} {st : List Value} {o : Option Value} {r : Nat} (hM : M.1 = RX2) {c : Nat} (hkd : kd c = 7) (hr : c + 15 = r) (hdg : decode M.2.1 pc = .ok (.getfield 25, 3)) (kk : J M d w (pc + 3) lv (.ref r :: st) o w') : J M d w pc lv (.ref c :: st) o w' :=
  jr_get (k := 2) (T := TX8) (v := .ref r) hkd (by decide) rfl (by decide) in_X8 rfl (by rw [hM]; exact wFL_X2_25) (fun ρ => by subst hr; rfl) hdg kk
theorem wFL_X2_29 : Cond.fieldLink RX2 29 RX8 (TX8 1).2.1 (TX8 1).2.2.1 ∈ jT := jT_in (i := 348) (by decide +kernel) (by decide +kernel)
theorem gf_X2_29 {M : jMM} {d : Nat} {w w' : jWd} {pc : Nat} {lv : List (Nat × Value)} {st : List Value} {o : Option Value} {r : Nat} (hM : M.1 = RX2) {c : Nat} (hkd : kd c = 7) (hr : c + 8 = r) (hdg : decode M.2.1 pc = .ok (.getfield 29, 3)) (kk : J M d w (pc + 3) lv (.ref r :: st) o w') : J M d w pc lv (.ref c :: st) o w' :=
  jr_get (k := 1) (T := TX8) (v := .ref r) hkd (by decide) rfl (by decide) in_X8 rfl (by rw [hM]; exact wFL_X2_29) (fun ρ => by subst hr; rfl) hdg kk
theorem wFL_X2_32 : Cond.fieldLink RX2 32 RX8 (TX8 0).2.1 (TX8 0).2.2.1 ∈ jT := jT_in (i := 345) (by decide +kernel) (by decide +kernel)
theorem gf_X2_32 {M : jMM} {d : Nat} {w w' : jWd} {pc : Nat} {lv : List (Nat × Value)} {st : List Value} {o : Option Value} {r : Nat} (hM : M.1 = RX2) {c : Nat} (hkd : kd c = 7) (hr : c + 1 = r) (hdg : decode M.2.1 pc = .ok (.getfield 32, 3)) (kk : J M d w (pc + 3) lv (.ref r :: st) o w') : J M d w pc lv (.ref c :: st) o w' :=
  jr_get (k := 0) (T := TX8) (v := .ref r) hkd (by decide) rfl (by decide) in_X8 rfl (by rw [hM]; exact wFL_X2_32) (fun ρ => by subst hr; rfl) hdg kk
theorem wFL_X2_39 : Cond.fieldLink RX2 39 RX5 (TX5 3).2.1 (TX5 3).2.2.1 ∈ jT := jT_in (i := 135) (by decide +kernel) (by decide +kernel)
theorem gf_X2_39 {M : jMM} {d : Nat} {w w' : jWd} {pc : Nat} {lv : List (Nat × Value)} {st : List Value} {o : Option Value} {r : Nat} (hM : M.1 = RX2) {c : Nat} (hkd : kd c = 4) (hr : c + 1 = r) (hdg : decode M.2.1 pc = .ok (.getfield 39, 3)) (kk : J M d w (pc + 3) lv (.ref r :: st) o w') : J M d w pc lv (.ref c :: st) o w' :=
  jr_get (k := 3) (T := TX5) (v := .ref r) hkd (by decide) rfl (by decide) in_X5 rfl (by rw [hM]; exact wFL_X2_39) (fun ρ => by subst hr; rfl) hdg kk
theorem wFL_X2_60 : Cond.fieldLink RX2 60 RX2 (TX2 5).2.1 (TX2 5).2.2.1 ∈ jT := jT_in (i := 418) (by decide +kernel) (by decide +kernel)
theorem gf_X2_60 {M : jMM} {d : Nat} {w w' : jWd} {pc : Nat} {lv : List (Nat × Value)} {st : List Value} {o : Option Value} (hM : M.1 = RX2) {c : Nat} (hkd : kd c = 2) (hdg : decode M.2.1 pc = .ok (.getfield 60, 3)) (kk : J M d w (pc + 3) lv (.int (wI w c 5) :: st) o w') : J M d w pc lv (.ref c :: st) o w' :=
  jr_get (k := 5) (T := TX2) (v := .int (wI w c 5)) hkd (by decide) rfl (by decide) in_X2 rfl (by rw [hM]; exact wFL_X2_60) (fun ρ => rfl) hdg kk
theorem pf_X2_60 {M : jMM} {d : Nat} {w w' : jWd} {pc : Nat} {lv : List (Nat × Value)} {st : List Value} {o : Option Value} (hM : M.1 = RX2) {c : Nat} {x : Int32} (hkd : kd c = 2) (hdg : decode M.2.1 pc = .ok (.putfield 60, 3)) (kk : J M d (sI w c 5 x) (pc + 3) lv st o w') : J M d w pc lv (.int x :: .ref c :: st) o w' :=
  jr_put (k := 5) (T := TX2) (ty0 := tyX2) hkd (by decide) rfl (by decide) in_X2 tyX2_ok nmX2 rfl rfl rfl (by rw [hM]; exact wFL_X2_60) (fun ρ => by simp [jfl, wI_sI]) (fun ρ => by simp [jfl]) hdg kk
theorem wFL_X2_64 : Cond.fieldLink RX2 64 RX5 (TX5 2).2.1 (TX5 2).2.2.1 ∈ jT := jT_in (i := 132) (by decide +kernel) (by decide +kernel)
theorem gf_X2_64 {M : jMM} {d : Nat} {w w' : jWd} {pc : Nat} {lv : List (Nat × Value)} {st : List Value} {o : Option Value} (hM : M.1 = RX2) {c : Nat} (hkd : kd c = 4) (hdg : decode M.2.1 pc = .ok (.getfield 64, 3)) (kk : J M d w (pc + 3) lv (.int (wI w c 2) :: st) o w') : J M d w pc lv (.ref c :: st) o w' :=
  jr_get (k := 2) (T := TX5) (v := .int (wI w c 2)) hkd (by decide) rfl (by decide) in_X5 rfl (by rw [hM]; exact wFL_X2_64) (fun ρ => rfl) hdg kk
theorem wFL_X2_71 : Cond.fieldLink RX2 71 RX5 (TX5 6).2.1 (TX5 6).2.2.1 ∈ jT := jT_in (i := 144) (by decide +kernel) (by decide +kernel)
theorem gf_X2_71 {M : jMM} {d : Nat} {w w' : jWd} {pc : Nat} {lv : List (Nat × Value)} {st : List Value} {o : Option Value} {r : Nat} (hM : M.1 = RX2) {c : Nat} (hkd : kd c = 4) (hr : c + 4 = r) (hdg : decode M.2.1 pc = .ok (.getfield 71, 3)) (kk : J M d w (pc + 3) lv (.ref r :: st) o w') : J M d w pc lv (.ref c :: st) o w' :=
  jr_get (k := 6) (T := TX5) (v := .ref r) hkd (by decide) rfl (by decide) in_X5 rfl (by rw [hM]; exact wFL_X2_71) (fun ρ => by subst hr; rfl) hdg kk
theorem wFL_X2_74 : Cond.fieldLink RX2 74 RX5 (TX5 1).2.1 (TX5 1).2.2.1 ∈ jT := jT_in (i := 129) (by decide +kernel) (by decide +kernel)
theorem gf_X2_74 {M : jMM} {d : Nat} {w w' : jWd} {pc : Nat} {lv : List (Nat × Value)} {st : List Value} {o : Option Value} (hM : M.1 = RX2) {c : Nat} (hkd : kd c = 4) (hdg : decode M.2.1 pc = .ok (.getfield 74, 3)) (kk : J M d w (pc + 3) lv (.int (wI w c 1) :: st) o w') : J M d w pc lv (.ref c :: st) o w' :=
  jr_get (k := 1) (T := TX5) (v := .int (wI w c 1)) hkd (by decide) rfl (by decide) in_X5 rfl (by rw [hM]; exact wFL_X2_74) (fun ρ => rfl) hdg kk
theorem wFL_X2_77 : Cond.fieldLink RX2 77 RX8 (TX8 4).2.1 (TX8 4).2.2.1 ∈ jT := jT_in (i := 356) (by decide +kernel) (by decide +kernel)
theorem gf_X2_77 {M : jMM} {d : Nat} {w w' : jWd} {pc : Nat} {lv : List (Nat × Value)} {st : List Value} {o : Option Value} {r : Nat} (hM : M.1 = RX2) {c : Nat} (hkd : kd c = 7) (hr : c + 29 = r) (hdg : decode M.2.1 pc = .ok (.getfield 77, 3)) (kk : J M d w (pc + 3) lv (.ref r :: st) o w') : J M d w pc lv (.ref c :: st) o w' :=
  jr_get (k := 4) (T := TX8) (v := .ref r) hkd (by decide) rfl (by decide) in_X8 rfl (by rw [hM]; exact wFL_X2_77) (fun ρ => by subst hr; rfl) hdg kk
theorem wFL_X2_80 : Cond.fieldLink RX2 80 RX5 (TX5 8).2.1 (TX5 8).2.2.1 ∈ jT := jT_in (i := 150) (by decide +kernel) (by decide +kernel)
theorem gf_X2_80 {M : jMM} {d : Nat} {w w' : jWd} {pc : Nat} {lv : List (Nat × Value)} {st : List Value} {o : Option Value} {r : Nat} (hM : M.1 = RX2) {c : Nat} (hkd : kd c = 4) (hr : c + 6 = r) (hdg : decode M.2.1 pc = .ok (.getfield 80, 3)) (kk : J M d w (pc + 3) lv (.ref r :: st) o w') : J M d w pc lv (.ref c :: st) o w' :=
  jr_get (k := 8) (T := TX5) (v := .ref r) hkd (by decide) rfl (by decide) in_X5 rfl (by rw [hM]; exact wFL_X2_80) (fun ρ => by subst hr; rfl) hdg kk
theorem wFL_X2_96 : Cond.fieldLink RX2 96 RX5 (TX5 7).2.1 (TX5 7).2.2.1 ∈ jT := jT_in (i := 148) (by decide +kernel) (by decide +kernel)
theorem gf_X2_96 {M : jMM} {d : Nat} {w w' : jWd} {pc : Nat} {lv : List (Nat × Value)} {st : List Value} {o : Option Value} {r : Nat} (hM : M.1 = RX2) {c : Nat} (hkd : kd c = 4) (hr : c + 5 = r) (hdg : decode M.2.1 pc = .ok (.getfield 96, 3)) (kk : J M d w (pc + 3) lv (.ref r :: st) o w') : J M d w pc lv (.ref c :: st) o w' :=
  jr_get (k := 7) (T := TX5) (v := .ref r) hkd (by decide) rfl (by decide) in_X5 rfl (by rw [hM]; exact wFL_X2_96) (fun ρ => by subst hr; rfl) hdg kk
theorem wFL_X2_103 : Cond.fieldLink RX2 103 RX8 (TX8 11).2.1 (TX8 11).2.2.1 ∈ jT := jT_in (i := 373) (by decide +kernel) (by decide +kernel)
theorem gf_X2_103 {M : jMM} {d : Nat} {w w' : jWd} {pc : Nat} {lv : List (Nat × Value)} {st : List Value} {o : Option Value} (hM : M.1 = RX2) {c : Nat} (hkd : kd c = 7) (hdg : decode M.2.1 pc = .ok (.getfield 103, 3)) (kk : J M d w (pc + 3) lv (.int (wI w c 11) :: st) o w') : J M d w pc lv (.ref c :: st) o w' :=
  jr_get (k := 11) (T := TX8) (v := .int (wI w c 11)) hkd (by decide) rfl (by decide) in_X8 rfl (by rw [hM]; exact wFL_X2_103) (fun ρ => rfl) hdg kk
theorem wFL_X2_106 : Cond.fieldLink RX2 106 RX2 (TX2 3).2.1 (TX2 3).2.2.1 ∈ jT := jT_in (i := 414) (by decide +kernel) (by decide +kernel)
theorem gf_X2_106 {M : jMM} {d : Nat} {w w' : jWd} {pc : Nat} {lv : List (Nat × Value)} {st : List Value} {o : Option Value} (hM : M.1 = RX2) {c : Nat} (hkd : kd c = 2) (hdg : decode M.2.1 pc = .ok (.getfield 106, 3)) (kk : J M d w (pc + 3) lv (.int (wI w c 3) :: st) o w') : J M d w pc lv (.ref c :: st) o w' :=
  jr_get (k := 3) (T := TX2) (v := .int (wI w c 3)) hkd (by decide) rfl (by decide) in_X2 rfl (by rw [hM]; exact wFL_X2_106) (fun ρ => rfl) hdg kk
theorem pf_X2_106 {M : jMM} {d : Nat} {w w' : jWd} {pc : Nat} {lv : List (Nat × Value)} {st : List Value} {o : Option Value} (hM : M.1 = RX2) {c : Nat} {x : Int32} (hkd : kd c = 2) (hdg : decode M.2.1 pc = .ok (.putfield 106, 3)) (kk : J M d (sI w c 3 x) (pc + 3) lv st o w') : J M d w pc lv (.int x :: .ref c :: st) o w' :=
  jr_put (k := 3) (T := TX2) (ty0 := tyX2) hkd (by decide) rfl (by decide) in_X2 tyX2_ok nmX2 rfl rfl rfl (by rw [hM]; exact wFL_X2_106) (fun ρ => by simp [jfl, wI_sI]) (fun ρ => by simp [jfl]) hdg kk
theorem wFL_X2_109 : Cond.fieldLink RX2 109 RX2 (TX2 4).2.1 (TX2 4).2.2.1 ∈ jT := jT_in (i := 416) (by decide +kernel) (by decide +kernel)
theorem pf_X2_109 {M : jMM} {d : Nat} {w w' : jWd} {pc : Nat} {lv : List (Nat × Value)} {st : List Value} {o : Option Value} (hM : M.1 = RX2) {c : Nat} {x : Int32} (hkd : kd c = 2) (hdg : decode M.2.1 pc = .ok (.putfield 109, 3)) (kk : J M d (sI w c 4 x) (pc + 3) lv st o w') : J M d w pc lv (.int x :: .ref c :: st) o w' :=
  jr_put (k := 4) (T := TX2) (ty0 := tyX2) hkd (by decide) rfl (by decide) in_X2 tyX2_ok nmX2 rfl rfl rfl (by rw [hM]; exact wFL_X2_109) (fun ρ => by simp [jfl, wI_sI]) (fun ρ => by simp [jfl]) hdg kk
theorem wFL_X2_115 : Cond.fieldLink RX2 115 RX8 (TX8 12).2.1 (TX8 12).2.2.1 ∈ jT := jT_in (i := 376) (by decide +kernel) (by decide +kernel)
theorem gf_X2_115 {M : jMM} {d : Nat} {w w' : jWd} {pc : Nat} {lv : List (Nat × Value)} {st : List Value} {o : Option Value} (hM : M.1 = RX2) {c : Nat} (hkd : kd c = 7) (hdg : decode M.2.1 pc = .ok (.getfield 115, 3)) (kk : J M d w (pc + 3) lv (.int (wI w c 12) :: st) o w') : J M d w pc lv (.ref c :: st) o w' :=
  jr_get (k := 12) (T := TX8) (v := .int (wI w c 12)) hkd (by decide) rfl (by decide) in_X8 rfl (by rw [hM]; exact wFL_X2_115) (fun ρ => rfl) hdg kk
theorem wFL_X2_136 : Cond.fieldLink RX2 136 RX8 (TX8 6).2.1 (TX8 6).2.2.1 ∈ jT := jT_in (i := 361) (by decide +kernel) (by decide +kernel)
theorem gf_X2_136 {M : jMM} {d : Nat} {w w' : jWd} {pc : Nat} {lv : List (Nat × Value)} {st : List Value} {o : Option Value} {r : Nat} (hM : M.1 = RX2) {c : Nat} (hkd : kd c = 7) (hr : c + 31 = r) (hdg : decode M.2.1 pc = .ok (.getfield 136, 3)) (kk : J M d w (pc + 3) lv (.ref r :: st) o w') : J M d w pc lv (.ref c :: st) o w' :=
  jr_get (k := 6) (T := TX8) (v := .ref r) hkd (by decide) rfl (by decide) in_X8 rfl (by rw [hM]; exact wFL_X2_136) (fun ρ => by subst hr; rfl) hdg kk
theorem wFL_X2_150 : Cond.fieldLink RX2 150 RX8 (TX8 8).2.1 (TX8 8).2.2.1 ∈ jT := jT_in (i := 365) (by decide +kernel) (by decide +kernel)
theorem gf_X2_150 {M : jMM} {d : Nat} {w w' : jWd} {pc : Nat} {lv : List (Nat × Value)} {st : List Value} {o : Option Value} {r : Nat} (hM : M.1 = RX2) {c : Nat} (hkd : kd c = 7) (hr : c + 40 = r) (hdg : decode M.2.1 pc = .ok (.getfield 150, 3)) (kk : J M d w (pc + 3) lv (.ref r :: st) o w') : J M d w pc lv (.ref c :: st) o w' :=
  jr_get (k := 8) (T := TX8) (v := .ref r) hkd (by decide) rfl (by decide) in_X8 rfl (by rw [hM]; exact wFL_X2_150) (fun ρ => by subst hr; rfl) hdg kk
theorem wFL_X2_157 : Cond.fieldLink RX2 157 RX0 (TX0 6).2.1 (TX0 6).2.2.1 ∈ jT := jT_in (i := 254) (by decide +kernel) (by decide +kernel)
theorem gf_X2_157 {M : jMM} {d : Nat} {w w' : jWd} {pc : Nat} {lv : List (Nat × Value)} {st : List Value} {o : Option Value} {r : Nat} (hM : M.1 = RX2) {c : Nat} (hkd : kd c = 0) (hr : c + 6 = r) (hdg : decode M.2.1 pc = .ok (.getfield 157, 3)) (kk : J M d w (pc + 3) lv (.ref r :: st) o w') : J M d w pc lv (.ref c :: st) o w' :=
  jr_get (k := 6) (T := TX0) (v := .ref r) hkd (by decide) rfl (by decide) in_X0 rfl (by rw [hM]; exact wFL_X2_157) (fun ρ => by subst hr; rfl) hdg kk
theorem wFL_X2_158 : Cond.fieldLink RX2 158 RX0 (TX0 2).2.1 (TX0 2).2.2.1 ∈ jT := jT_in (i := 245) (by decide +kernel) (by decide +kernel)
theorem gf_X2_158 {M : jMM} {d : Nat} {w w' : jWd} {pc : Nat} {lv : List (Nat × Value)} {st : List Value} {o : Option Value} {r : Nat} (hM : M.1 = RX2) {c : Nat} (hkd : kd c = 0) (hr : c + 2 = r) (hdg : decode M.2.1 pc = .ok (.getfield 158, 3)) (kk : J M d w (pc + 3) lv (.ref r :: st) o w') : J M d w pc lv (.ref c :: st) o w' :=
  jr_get (k := 2) (T := TX0) (v := .ref r) hkd (by decide) rfl (by decide) in_X0 rfl (by rw [hM]; exact wFL_X2_158) (fun ρ => by subst hr; rfl) hdg kk
theorem wFL_X2_161 : Cond.fieldLink RX2 161 RX5 (TX5 5).2.1 (TX5 5).2.2.1 ∈ jT := jT_in (i := 142) (by decide +kernel) (by decide +kernel)
theorem gf_X2_161 {M : jMM} {d : Nat} {w w' : jWd} {pc : Nat} {lv : List (Nat × Value)} {st : List Value} {o : Option Value} {r : Nat} (hM : M.1 = RX2) {c : Nat} (hkd : kd c = 4) (hr : c + 3 = r) (hdg : decode M.2.1 pc = .ok (.getfield 161, 3)) (kk : J M d w (pc + 3) lv (.ref r :: st) o w') : J M d w pc lv (.ref c :: st) o w' :=
  jr_get (k := 5) (T := TX5) (v := .ref r) hkd (by decide) rfl (by decide) in_X5 rfl (by rw [hM]; exact wFL_X2_161) (fun ρ => by subst hr; rfl) hdg kk
theorem wFL_X2_162 : Cond.fieldLink RX2 162 RX0 (TX0 5).2.1 (TX0 5).2.2.1 ∈ jT := jT_in (i := 252) (by decide +kernel) (by decide +kernel)
theorem gf_X2_162 {M : jMM} {d : Nat} {w w' : jWd} {pc : Nat} {lv : List (Nat × Value)} {st : List Value} {o : Option Value} {r : Nat} (hM : M.1 = RX2) {c : Nat} (hkd : kd c = 0) (hr : c + 5 = r) (hdg : decode M.2.1 pc = .ok (.getfield 162, 3)) (kk : J M d w (pc + 3) lv (.ref r :: st) o w') : J M d w pc lv (.ref c :: st) o w' :=
  jr_get (k := 5) (T := TX0) (v := .ref r) hkd (by decide) rfl (by decide) in_X0 rfl (by rw [hM]; exact wFL_X2_162) (fun ρ => by subst hr; rfl) hdg kk
theorem wFL_X2_165 : Cond.fieldLink RX2 165 RX0 (TX0 0).2.1 (TX0 0).2.2.1 ∈ jT := jT_in (i := 240) (by decide +kernel) (by decide +kernel)
theorem gf_X2_165 {M : jMM} {d : Nat} {w w' : jWd} {pc : Nat} {lv : List (Nat × Value)} {st : List Value} {o : Option Value} (hM : M.1 = RX2) {c : Nat} (hkd : kd c = 0) (hdg : decode M.2.1 pc = .ok (.getfield 165, 3)) (kk : J M d w (pc + 3) lv (.int (wI w c 0) :: st) o w') : J M d w pc lv (.ref c :: st) o w' :=
  jr_get (k := 0) (T := TX0) (v := .int (wI w c 0)) hkd (by decide) rfl (by decide) in_X0 rfl (by rw [hM]; exact wFL_X2_165) (fun ρ => rfl) hdg kk
theorem wFL_X2_175 : Cond.fieldLink RX2 175 RX0 (TX0 3).2.1 (TX0 3).2.2.1 ∈ jT := jT_in (i := 248) (by decide +kernel) (by decide +kernel)
theorem gf_X2_175 {M : jMM} {d : Nat} {w w' : jWd} {pc : Nat} {lv : List (Nat × Value)} {st : List Value} {o : Option Value} {r : Nat} (hM : M.1 = RX2) {c : Nat} (hkd : kd c = 0) (hr : c + 3 = r) (hdg : decode M.2.1 pc = .ok (.getfield 175, 3)) (kk : J M d w (pc + 3) lv (.ref r :: st) o w') : J M d w pc lv (.ref c :: st) o w' :=
  jr_get (k := 3) (T := TX0) (v := .ref r) hkd (by decide) rfl (by decide) in_X0 rfl (by rw [hM]; exact wFL_X2_175) (fun ρ => by subst hr; rfl) hdg kk
theorem wFL_X3_9 : Cond.fieldLink RX3 9 RX3 (TX3 4).2.1 (TX3 4).2.2.1 ∈ jT := jT_in (i := 221) (by decide +kernel) (by decide +kernel)
theorem gf_X3_9 {M : jMM} {d : Nat} {w w' : jWd} {pc : Nat} {lv : List (Nat × Value)} {st : List Value} {o : Option Value} {r : Nat} (hM : M.1 = RX3) {c : Nat} (hkd : kd c = 3) (hr : c + 1 = r) (hdg : decode M.2.1 pc = .ok (.getfield 9, 3)) (kk : J M d w (pc + 3) lv (.ref r :: st) o w') : J M d w pc lv (.ref c :: st) o w' :=
  jr_get (k := 4) (T := TX3) (v := .ref r) hkd (by decide) rfl (by decide) in_X3 rfl (by rw [hM]; exact wFL_X3_9) (fun ρ => by subst hr; rfl) hdg kk
theorem wFL_X3_15 : Cond.fieldLink RX3 15 RX3 (TX3 0).2.1 (TX3 0).2.2.1 ∈ jT := jT_in (i := 212) (by decide +kernel) (by decide +kernel)
theorem gf_X3_15 {M : jMM} {d : Nat} {w w' : jWd} {pc : Nat} {lv : List (Nat × Value)} {st : List Value} {o : Option Value} (hM : M.1 = RX3) {c : Nat} (hkd : kd c = 3) (hdg : decode M.2.1 pc = .ok (.getfield 15, 3)) (kk : J M d w (pc + 3) lv (.int (wI w c 0) :: st) o w') : J M d w pc lv (.ref c :: st) o w' :=
  jr_get (k := 0) (T := TX3) (v := .int (wI w c 0)) hkd (by decide) rfl (by decide) in_X3 rfl (by rw [hM]; exact wFL_X3_15) (fun ρ => rfl) hdg kk
theorem pf_X3_15 {M : jMM} {d : Nat} {w w' : jWd} {pc : Nat} {lv : List (Nat × Value)} {st : List Value} {o : Option Value} (hM : M.1 = RX3) {c : Nat} {x : Int32} (hkd : kd c = 3) (hdg : decode M.2.1 pc = .ok (.putfield 15, 3)) (kk : J M d (sI w c 0 x) (pc + 3) lv st o w') : J M d w pc lv (.int x :: .ref c :: st) o w' :=
  jr_put (k := 0) (T := TX3) (ty0 := tyX3) hkd (by decide) rfl (by decide) in_X3 tyX3_ok nmX3 rfl rfl rfl (by rw [hM]; exact wFL_X3_15) (fun ρ => by simp [jfl, wI_sI]) (fun ρ => by simp [jfl]) hdg kk
theorem wFL_X3_19 : Cond.fieldLink RX3 19 RX3 (TX3 1).2.1 (TX3 1).2.2.1 ∈ jT := jT_in (i := 215) (by decide +kernel) (by decide +kernel)
theorem gf_X3_19 {M : jMM} {d : Nat} {w w' : jWd} {pc : Nat} {lv : List (Nat × Value)} {st : List Value} {o : Option Value} (hM : M.1 = RX3) {c : Nat} (hkd : kd c = 3) (hdg : decode M.2.1 pc = .ok (.getfield 19, 3)) (kk : J M d w (pc + 3) lv (.int (wI w c 1) :: st) o w') : J M d w pc lv (.ref c :: st) o w' :=
  jr_get (k := 1) (T := TX3) (v := .int (wI w c 1)) hkd (by decide) rfl (by decide) in_X3 rfl (by rw [hM]; exact wFL_X3_19) (fun ρ => rfl) hdg kk
theorem pf_X3_19 {M : jMM} {d : Nat} {w w' : jWd} {pc : Nat} {lv : List (Nat × Value)} {st : List Value} {o : Option Value} (hM : M.1 = RX3) {c : Nat} {x : Int32} (hkd : kd c = 3) (hdg : decode M.2.1 pc = .ok (.putfield 19, 3)) (kk : J M d (sI w c 1 x) (pc + 3) lv st o w') : J M d w pc lv (.int x :: .ref c :: st) o w' :=
  jr_put (k := 1) (T := TX3) (ty0 := tyX3) hkd (by decide) rfl (by decide) in_X3 tyX3_ok nmX3 rfl rfl rfl (by rw [hM]; exact wFL_X3_19) (fun ρ => by simp [jfl, wI_sI]) (fun ρ => by simp [jfl]) hdg kk
theorem wFL_X3_22 : Cond.fieldLink RX3 22 RX3 (TX3 2).2.1 (TX3 2).2.2.1 ∈ jT := jT_in (i := 217) (by decide +kernel) (by decide +kernel)
theorem gf_X3_22 {M : jMM} {d : Nat} {w w' : jWd} {pc : Nat} {lv : List (Nat × Value)} {st : List Value} {o : Option Value} (hM : M.1 = RX3) {c : Nat} (hkd : kd c = 3) (hdg : decode M.2.1 pc = .ok (.getfield 22, 3)) (kk : J M d w (pc + 3) lv (.int (wI w c 2) :: st) o w') : J M d w pc lv (.ref c :: st) o w' :=
  jr_get (k := 2) (T := TX3) (v := .int (wI w c 2)) hkd (by decide) rfl (by decide) in_X3 rfl (by rw [hM]; exact wFL_X3_22) (fun ρ => rfl) hdg kk
theorem pf_X3_22 {M : jMM} {d : Nat} {w w' : jWd} {pc : Nat} {lv : List (Nat × Value)} {st : List Value} {o : Option Value} (hM : M.1 = RX3) {c : Nat} {x : Int32} (hkd : kd c = 3) (hdg : decode M.2.1 pc = .ok (.putfield 22, 3)) (kk : J M d (sI w c 2 x) (pc + 3) lv st o w') : J M d w pc lv (.int x :: .ref c :: st) o w' :=
  jr_put (k := 2) (T := TX3) (ty0 := tyX3) hkd (by decide) rfl (by decide) in_X3 tyX3_ok nmX3 rfl rfl rfl (by rw [hM]; exact wFL_X3_22) (fun ρ => by simp [jfl, wI_sI]) (fun ρ => by simp [jfl]) hdg kk
theorem wFL_X3_25 : Cond.fieldLink RX3 25 RX3 (TX3 3).2.1 (TX3 3).2.2.1 ∈ jT := jT_in (i := 219) (by decide +kernel) (by decide +kernel)
theorem gf_X3_25 {M : jMM} {d : Nat} {w w' : jWd} {pc : Nat} {lv : List (Nat × Value)} {st : List Value} {o : Option Value} (hM : M.1 = RX3) {c : Nat} (hkd : kd c = 3) (hdg : decode M.2.1 pc = .ok (.getfield 25, 3)) (kk : J M d w (pc + 3) lv (.int (wI w c 3) :: st) o w') : J M d w pc lv (.ref c :: st) o w' :=
  jr_get (k := 3) (T := TX3) (v := .int (wI w c 3)) hkd (by decide) rfl (by decide) in_X3 rfl (by rw [hM]; exact wFL_X3_25) (fun ρ => rfl) hdg kk
theorem pf_X3_25 {M : jMM} {d : Nat} {w w' : jWd} {pc : Nat} {lv : List (Nat × Value)} {st : List Value} {o : Option Value} (hM : M.1 = RX3) {c : Nat} {x : Int32} (hkd : kd c = 3) (hdg : decode M.2.1 pc = .ok (.putfield 25, 3)) (kk : J M d (sI w c 3 x) (pc + 3) lv st o w') : J M d w pc lv (.int x :: .ref c :: st) o w' :=
  jr_put (k := 3) (T := TX3) (ty0 := tyX3) hkd (by decide) rfl (by decide) in_X3 tyX3_ok nmX3 rfl rfl rfl (by rw [hM]; exact wFL_X3_25) (fun ρ => by simp [jfl, wI_sI]) (fun ρ => by simp [jfl]) hdg kk
theorem wFL_X5_15 : Cond.fieldLink RX5 15 RX5 (TX5 0).2.1 (TX5 0).2.2.1 ∈ jT := jT_in (i := 127) (by decide +kernel) (by decide +kernel)
theorem gf_X5_15 {M : jMM} {d : Nat} {w w' : jWd} {pc : Nat} {lv : List (Nat × Value)} {st : List Value} {o : Option Value} (hM : M.1 = RX5) {c : Nat} (hkd : kd c = 4) (hdg : decode M.2.1 pc = .ok (.getfield 15, 3)) (kk : J M d w (pc + 3) lv (.int (wI w c 0) :: st) o w') : J M d w pc lv (.ref c :: st) o w' :=
  jr_get (k := 0) (T := TX5) (v := .int (wI w c 0)) hkd (by decide) rfl (by decide) in_X5 rfl (by rw [hM]; exact wFL_X5_15) (fun ρ => rfl) hdg kk
theorem wFL_X5_21 : Cond.fieldLink RX5 21 RX5 (TX5 1).2.1 (TX5 1).2.2.1 ∈ jT := jT_in (i := 128) (by decide +kernel) (by decide +kernel)
theorem gf_X5_21 {M : jMM} {d : Nat} {w w' : jWd} {pc : Nat} {lv : List (Nat × Value)} {st : List Value} {o : Option Value} (hM : M.1 = RX5) {c : Nat} (hkd : kd c = 4) (hdg : decode M.2.1 pc = .ok (.getfield 21, 3)) (kk : J M d w (pc + 3) lv (.int (wI w c 1) :: st) o w') : J M d w pc lv (.ref c :: st) o w' :=
  jr_get (k := 1) (T := TX5) (v := .int (wI w c 1)) hkd (by decide) rfl (by decide) in_X5 rfl (by rw [hM]; exact wFL_X5_21) (fun ρ => rfl) hdg kk
theorem wFL_X5_24 : Cond.fieldLink RX5 24 RX5 (TX5 3).2.1 (TX5 3).2.2.1 ∈ jT := jT_in (i := 134) (by decide +kernel) (by decide +kernel)
theorem gf_X5_24 {M : jMM} {d : Nat} {w w' : jWd} {pc : Nat} {lv : List (Nat × Value)} {st : List Value} {o : Option Value} {r : Nat} (hM : M.1 = RX5) {c : Nat} (hkd : kd c = 4) (hr : c + 1 = r) (hdg : decode M.2.1 pc = .ok (.getfield 24, 3)) (kk : J M d w (pc + 3) lv (.ref r :: st) o w') : J M d w pc lv (.ref c :: st) o w' :=
  jr_get (k := 3) (T := TX5) (v := .ref r) hkd (by decide) rfl (by decide) in_X5 rfl (by rw [hM]; exact wFL_X5_24) (fun ρ => by subst hr; rfl) hdg kk
theorem wFL_X5_28 : Cond.fieldLink RX5 28 RX5 (TX5 4).2.1 (TX5 4).2.2.1 ∈ jT := jT_in (i := 138) (by decide +kernel) (by decide +kernel)
theorem gf_X5_28 {M : jMM} {d : Nat} {w w' : jWd} {pc : Nat} {lv : List (Nat × Value)} {st : List Value} {o : Option Value} {r : Nat} (hM : M.1 = RX5) {c : Nat} (hkd : kd c = 4) (hr : c + 2 = r) (hdg : decode M.2.1 pc = .ok (.getfield 28, 3)) (kk : J M d w (pc + 3) lv (.ref r :: st) o w') : J M d w pc lv (.ref c :: st) o w' :=
  jr_get (k := 4) (T := TX5) (v := .ref r) hkd (by decide) rfl (by decide) in_X5 rfl (by rw [hM]; exact wFL_X5_28) (fun ρ => by subst hr; rfl) hdg kk
theorem wFL_X5_31 : Cond.fieldLink RX5 31 RX5 (TX5 5).2.1 (TX5 5).2.2.1 ∈ jT := jT_in (i := 139) (by decide +kernel) (by decide +kernel)
theorem gf_X5_31 {M : jMM} {d : Nat} {w w' : jWd} {pc : Nat} {lv : List (Nat × Value)} {st : List Value} {o : Option Value} {r : Nat} (hM : M.1 = RX5) {c : Nat} (hkd : kd c = 4) (hr : c + 3 = r) (hdg : decode M.2.1 pc = .ok (.getfield 31, 3)) (kk : J M d w (pc + 3) lv (.ref r :: st) o w') : J M d w pc lv (.ref c :: st) o w' :=
  jr_get (k := 5) (T := TX5) (v := .ref r) hkd (by decide) rfl (by decide) in_X5 rfl (by rw [hM]; exact wFL_X5_31) (fun ρ => by subst hr; rfl) hdg kk
theorem wFL_X5_34 : Cond.fieldLink RX5 34 RX5 (TX5 6).2.1 (TX5 6).2.2.1 ∈ jT := jT_in (i := 143) (by decide +kernel) (by decide +kernel)
theorem gf_X5_34 {M : jMM} {d : Nat} {w w' : jWd} {pc : Nat} {lv : List (Nat × Value)} {st : List Value} {o : Option Value} {r : Nat} (hM : M.1 = RX5) {c : Nat} (hkd : kd c = 4) (hr : c + 4 = r) (hdg : decode M.2.1 pc = .ok (.getfield 34, 3)) (kk : J M d w (pc + 3) lv (.ref r :: st) o w') : J M d w pc lv (.ref c :: st) o w' :=
  jr_get (k := 6) (T := TX5) (v := .ref r) hkd (by decide) rfl (by decide) in_X5 rfl (by rw [hM]; exact wFL_X5_34) (fun ρ => by subst hr; rfl) hdg kk
theorem wFL_X5_37 : Cond.fieldLink RX5 37 RX5 (TX5 7).2.1 (TX5 7).2.2.1 ∈ jT := jT_in (i := 147) (by decide +kernel) (by decide +kernel)
theorem gf_X5_37 {M : jMM} {d : Nat} {w w' : jWd} {pc : Nat} {lv : List (Nat × Value)} {st : List Value} {o : Option Value} {r : Nat} (hM : M.1 = RX5) {c : Nat} (hkd : kd c = 4) (hr : c + 5 = r) (hdg : decode M.2.1 pc = .ok (.getfield 37, 3)) (kk : J M d w (pc + 3) lv (.ref r :: st) o w') : J M d w pc lv (.ref c :: st) o w' :=
  jr_get (k := 7) (T := TX5) (v := .ref r) hkd (by decide) rfl (by decide) in_X5 rfl (by rw [hM]; exact wFL_X5_37) (fun ρ => by subst hr; rfl) hdg kk
theorem wFL_X5_40 : Cond.fieldLink RX5 40 RX5 (TX5 8).2.1 (TX5 8).2.2.1 ∈ jT := jT_in (i := 149) (by decide +kernel) (by decide +kernel)
theorem gf_X5_40 {M : jMM} {d : Nat} {w w' : jWd} {pc : Nat} {lv : List (Nat × Value)} {st : List Value} {o : Option Value} {r : Nat} (hM : M.1 = RX5) {c : Nat} (hkd : kd c = 4) (hr : c + 6 = r) (hdg : decode M.2.1 pc = .ok (.getfield 40, 3)) (kk : J M d w (pc + 3) lv (.ref r :: st) o w') : J M d w pc lv (.ref c :: st) o w' :=
  jr_get (k := 8) (T := TX5) (v := .ref r) hkd (by decide) rfl (by decide) in_X5 rfl (by rw [hM]; exact wFL_X5_40) (fun ρ => by subst hr; rfl) hdg kk
theorem wFL_X5_44 : Cond.fieldLink RX5 44 RX5 (TX5 2).2.1 (TX5 2).2.2.1 ∈ jT := jT_in (i := 130) (by decide +kernel) (by decide +kernel)
theorem gf_X5_44 {M : jMM} {d : Nat} {w w' : jWd} {pc : Nat} {lv : List (Nat × Value)} {st : List Value} {o : Option Value} (hM : M.1 = RX5) {c : Nat} (hkd : kd c = 4) (hdg : decode M.2.1 pc = .ok (.getfield 44, 3)) (kk : J M d w (pc + 3) lv (.int (wI w c 2) :: st) o w') : J M d w pc lv (.ref c :: st) o w' :=
  jr_get (k := 2) (T := TX5) (v := .int (wI w c 2)) hkd (by decide) rfl (by decide) in_X5 rfl (by rw [hM]; exact wFL_X5_44) (fun ρ => rfl) hdg kk
theorem pf_X5_44 {M : jMM} {d : Nat} {w w' : jWd} {pc : Nat} {lv : List (Nat × Value)} {st : List Value} {o : Option Value} (hM : M.1 = RX5) {c : Nat} {x : Int32} (hkd : kd c = 4) (hdg : decode M.2.1 pc = .ok (.putfield 44, 3)) (kk : J M d (sI w c 2 x) (pc + 3) lv st o w') : J M d w pc lv (.int x :: .ref c :: st) o w' :=
  jr_put (k := 2) (T := TX5) (ty0 := tyX5) hkd (by decide) rfl (by decide) in_X5 tyX5_ok nmX5 rfl rfl rfl (by rw [hM]; exact wFL_X5_44) (fun ρ => by simp [jfl, wI_sI]) (fun ρ => by simp [jfl]) hdg kk
theorem wFL_X6_12 : Cond.fieldLink RX6 12 RX6 (TX6 0).2.1 (TX6 0).2.2.1 ∈ jT := jT_in (i := 463) (by decide +kernel) (by decide +kernel)
theorem gf_X6_12 {M : jMM} {d : Nat} {w w' : jWd} {pc : Nat} {lv : List (Nat × Value)} {st : List Value} {o : Option Value} {r : Nat} (hM : M.1 = RX6) {c : Nat} (hkd : kd c = 5) (hr : c + 1 = r) (hdg : decode M.2.1 pc = .ok (.getfield 12, 3)) (kk : J M d w (pc + 3) lv (.ref r :: st) o w') : J M d w pc lv (.ref c :: st) o w' :=
  jr_get (k := 0) (T := TX6) (v := .ref r) hkd (by decide) rfl (by decide) in_X6 rfl (by rw [hM]; exact wFL_X6_12) (fun ρ => by subst hr; rfl) hdg kk
theorem wFL_X6_21 : Cond.fieldLink RX6 21 RX6 (TX6 1).2.1 (TX6 1).2.2.1 ∈ jT := jT_in (i := 465) (by decide +kernel) (by decide +kernel)
theorem gf_X6_21 {M : jMM} {d : Nat} {w w' : jWd} {pc : Nat} {lv : List (Nat × Value)} {st : List Value} {o : Option Value} {r : Nat} (hM : M.1 = RX6) {c : Nat} (hkd : kd c = 5) (hr : c + 8 = r) (hdg : decode M.2.1 pc = .ok (.getfield 21, 3)) (kk : J M d w (pc + 3) lv (.ref r :: st) o w') : J M d w pc lv (.ref c :: st) o w' :=
  jr_get (k := 1) (T := TX6) (v := .ref r) hkd (by decide) rfl (by decide) in_X6 rfl (by rw [hM]; exact wFL_X6_21) (fun ρ => by subst hr; rfl) hdg kk
theorem wFL_X6_25 : Cond.fieldLink RX6 25 RX6 (TX6 6).2.1 (TX6 6).2.2.1 ∈ jT := jT_in (i := 473) (by decide +kernel) (by decide +kernel)
theorem gf_X6_25 {M : jMM} {d : Nat} {w w' : jWd} {pc : Nat} {lv : List (Nat × Value)} {st : List Value} {o : Option Value} {r : Nat} (hM : M.1 = RX6) {c : Nat} (hkd : kd c = 5) (hr : c + 10 = r) (hdg : decode M.2.1 pc = .ok (.getfield 25, 3)) (kk : J M d w (pc + 3) lv (.ref r :: st) o w') : J M d w pc lv (.ref c :: st) o w' :=
  jr_get (k := 6) (T := TX6) (v := .ref r) hkd (by decide) rfl (by decide) in_X6 rfl (by rw [hM]; exact wFL_X6_25) (fun ρ => by subst hr; rfl) hdg kk
theorem wFL_X6_29 : Cond.fieldLink RX6 29 RX6 (TX6 7).2.1 (TX6 7).2.2.1 ∈ jT := jT_in (i := 474) (by decide +kernel) (by decide +kernel)
theorem gf_X6_29 {M : jMM} {d : Nat} {w w' : jWd} {pc : Nat} {lv : List (Nat × Value)} {st : List Value} {o : Option Value} {r : Nat} (hM : M.1 = RX6) {c : Nat} (hkd : kd c = 5) (hr : c + 11 = r) (hdg : decode M.2.1 pc = .ok (.getfield 29, 3)) (kk : J M d w (pc + 3) lv (.ref r :: st) o w') : J M d w pc lv (.ref c :: st) o w' :=
  jr_get (k := 7) (T := TX6) (v := .ref r) hkd (by decide) rfl (by decide) in_X6 rfl (by rw [hM]; exact wFL_X6_29) (fun ρ => by subst hr; rfl) hdg kk
theorem wFL_X6_32 : Cond.fieldLink RX6 32 RX6 (TX6 8).2.1 (TX6 8).2.2.1 ∈ jT := jT_in (i := 475) (by decide +kernel) (by decide +kernel)
theorem gf_X6_32 {M : jMM} {d : Nat} {w w' : jWd} {pc : Nat} {lv : List (Nat × Value)} {st : List Value} {o : Option Value} {r : Nat} (hM : M.1 = RX6) {c : Nat} (hkd : kd c = 5) (hr : c + 12 = r) (hdg : decode M.2.1 pc = .ok (.getfield 32, 3)) (kk : J M d w (pc + 3) lv (.ref r :: st) o w') : J M d w pc lv (.ref c :: st) o w' :=
  jr_get (k := 8) (T := TX6) (v := .ref r) hkd (by decide) rfl (by decide) in_X6 rfl (by rw [hM]; exact wFL_X6_32) (fun ρ => by subst hr; rfl) hdg kk
theorem wFL_X6_35 : Cond.fieldLink RX6 35 RX6 (TX6 2).2.1 (TX6 2).2.2.1 ∈ jT := jT_in (i := 467) (by decide +kernel) (by decide +kernel)
theorem gf_X6_35 {M : jMM} {d : Nat} {w w' : jWd} {pc : Nat} {lv : List (Nat × Value)} {st : List Value} {o : Option Value} (hM : M.1 = RX6) {c : Nat} (hkd : kd c = 5) (hdg : decode M.2.1 pc = .ok (.getfield 35, 3)) (kk : J M d w (pc + 3) lv (.int (wI w c 2) :: st) o w') : J M d w pc lv (.ref c :: st) o w' :=
  jr_get (k := 2) (T := TX6) (v := .int (wI w c 2)) hkd (by decide) rfl (by decide) in_X6 rfl (by rw [hM]; exact wFL_X6_35) (fun ρ => rfl) hdg kk
theorem pf_X6_35 {M : jMM} {d : Nat} {w w' : jWd} {pc : Nat} {lv : List (Nat × Value)} {st : List Value} {o : Option Value} (hM : M.1 = RX6) {c : Nat} {x : Int32} (hkd : kd c = 5) (hdg : decode M.2.1 pc = .ok (.putfield 35, 3)) (kk : J M d (sI w c 2 x) (pc + 3) lv st o w') : J M d w pc lv (.int x :: .ref c :: st) o w' :=
  jr_put (k := 2) (T := TX6) (ty0 := tyX6) hkd (by decide) rfl (by decide) in_X6 tyX6_ok nmX6 rfl rfl rfl (by rw [hM]; exact wFL_X6_35) (fun ρ => by simp [jfl, wI_sI]) (fun ρ => by simp [jfl]) hdg kk
theorem wFL_X6_39 : Cond.fieldLink RX6 39 RX6 (TX6 3).2.1 (TX6 3).2.2.1 ∈ jT := jT_in (i := 469) (by decide +kernel) (by decide +kernel)
theorem pf_X6_39 {M : jMM} {d : Nat} {w w' : jWd} {pc : Nat} {lv : List (Nat × Value)} {st : List Value} {o : Option Value} (hM : M.1 = RX6) {c : Nat} {x : Int32} (hkd : kd c = 5) (hdg : decode M.2.1 pc = .ok (.putfield 39, 3)) (kk : J M d (sI w c 3 x) (pc + 3) lv st o w') : J M d w pc lv (.int x :: .ref c :: st) o w' :=
  jr_put (k := 3) (T := TX6) (ty0 := tyX6) hkd (by decide) rfl (by decide) in_X6 tyX6_ok nmX6 rfl rfl rfl (by rw [hM]; exact wFL_X6_39) (fun ρ => by simp [jfl, wI_sI]) (fun ρ => by simp [jfl]) hdg kk
theorem wFL_X6_42 : Cond.fieldLink RX6 42 RX6 (TX6 4).2.1 (TX6 4).2.2.1 ∈ jT := jT_in (i := 471) (by decide +kernel) (by decide +kernel)
theorem gf_X6_42 {M : jMM} {d : Nat} {w w' : jWd} {pc : Nat} {lv : List (Nat × Value)} {st : List Value} {o : Option Value} (hM : M.1 = RX6) {c : Nat} (hkd : kd c = 5) (hdg : decode M.2.1 pc = .ok (.getfield 42, 3)) (kk : J M d w (pc + 3) lv (.int (wI w c 4) :: st) o w') : J M d w pc lv (.ref c :: st) o w' :=
  jr_get (k := 4) (T := TX6) (v := .int (wI w c 4)) hkd (by decide) rfl (by decide) in_X6 rfl (by rw [hM]; exact wFL_X6_42) (fun ρ => rfl) hdg kk
theorem pf_X6_42 {M : jMM} {d : Nat} {w w' : jWd} {pc : Nat} {lv : List (Nat × Value)} {st : List Value} {o : Option Value} (hM : M.1 = RX6) {c : Nat} {x : Int32} (hkd : kd c = 5) (hdg : decode M.2.1 pc = .ok (.putfield 42, 3)) (kk : J M d (sI w c 4 x) (pc + 3) lv st o w') : J M d w pc lv (.int x :: .ref c :: st) o w' :=
  jr_put (k := 4) (T := TX6) (ty0 := tyX6) hkd (by decide) rfl (by decide) in_X6 tyX6_ok nmX6 rfl rfl rfl (by rw [hM]; exact wFL_X6_42) (fun ρ => by simp [jfl, wI_sI]) (fun ρ => by simp [jfl]) hdg kk
theorem wFL_X6_45 : Cond.fieldLink RX6 45 RX6 (TX6 5).2.1 (TX6 5).2.2.1 ∈ jT := jT_in (i := 472) (by decide +kernel) (by decide +kernel)
theorem gf_X6_45 {M : jMM} {d : Nat} {w w' : jWd} {pc : Nat} {lv : List (Nat × Value)} {st : List Value} {o : Option Value} (hM : M.1 = RX6) {c : Nat} (hkd : kd c = 5) (hdg : decode M.2.1 pc = .ok (.getfield 45, 3)) (kk : J M d w (pc + 3) lv (.int (wI w c 5) :: st) o w') : J M d w pc lv (.ref c :: st) o w' :=
  jr_get (k := 5) (T := TX6) (v := .int (wI w c 5)) hkd (by decide) rfl (by decide) in_X6 rfl (by rw [hM]; exact wFL_X6_45) (fun ρ => rfl) hdg kk
theorem pf_X6_45 {M : jMM} {d : Nat} {w w' : jWd} {pc : Nat} {lv : List (Nat × Value)} {st : List Value} {o : Option Value} (hM : M.1 = RX6) {c : Nat} {x : Int32} (hkd : kd c = 5) (hdg : decode M.2.1 pc = .ok (.putfield 45, 3)) (kk : J M d (sI w c 5 x) (pc + 3) lv st o w') : J M d w pc lv (.int x :: .ref c :: st) o w' :=
  jr_put (k := 5) (T := TX6) (ty0 := tyX6) hkd (by decide) rfl (by decide) in_X6 tyX6_ok nmX6 rfl rfl rfl (by rw [hM]; exact wFL_X6_45) (fun ρ => by simp [jfl, wI_sI]) (fun ρ => by simp [jfl]) hdg kk
theorem wFL_X6_130 : Cond.fieldLink RX6 130 RX1 (TX1 0).2.1 (TX1 0).2.2.1 ∈ jT := jT_in (i := 180) (by decide +kernel) (by decide +kernel)
theorem gf_X6_130 {M : jMM} {d : Nat} {w w' : jWd} {pc : Nat} {lv : List (Nat × Value)} {st : List Value} {o : Option Value} (hM : M.1 = RX6) {c : Nat} (hkd : kd c = 1) (hdg : decode M.2.1 pc = .ok (.getfield 130, 3)) (kk : J M d w (pc + 3) lv (.int (wI w c 0) :: st) o w') : J M d w pc lv (.ref c :: st) o w' :=
  jr_get (k := 0) (T := TX1) (v := .int (wI w c 0)) hkd (by decide) rfl (by decide) in_X1 rfl (by rw [hM]; exact wFL_X6_130) (fun ρ => rfl) hdg kk
theorem wFL_X6_141 : Cond.fieldLink RX6 141 RX1 (TX1 1).2.1 (TX1 1).2.2.1 ∈ jT := jT_in (i := 182) (by decide +kernel) (by decide +kernel)
theorem gf_X6_141 {M : jMM} {d : Nat} {w w' : jWd} {pc : Nat} {lv : List (Nat × Value)} {st : List Value} {o : Option Value} (hM : M.1 = RX6) {c : Nat} (hkd : kd c = 1) (hdg : decode M.2.1 pc = .ok (.getfield 141, 3)) (kk : J M d w (pc + 3) lv (.int (wI w c 1) :: st) o w') : J M d w pc lv (.ref c :: st) o w' :=
  jr_get (k := 1) (T := TX1) (v := .int (wI w c 1)) hkd (by decide) rfl (by decide) in_X1 rfl (by rw [hM]; exact wFL_X6_141) (fun ρ => rfl) hdg kk
theorem wFL_X6_178 : Cond.fieldLink RX6 178 RX3 (TX3 0).2.1 (TX3 0).2.2.1 ∈ jT := jT_in (i := 214) (by decide +kernel) (by decide +kernel)
theorem gf_X6_178 {M : jMM} {d : Nat} {w w' : jWd} {pc : Nat} {lv : List (Nat × Value)} {st : List Value} {o : Option Value} (hM : M.1 = RX6) {c : Nat} (hkd : kd c = 3) (hdg : decode M.2.1 pc = .ok (.getfield 178, 3)) (kk : J M d w (pc + 3) lv (.int (wI w c 0) :: st) o w') : J M d w pc lv (.ref c :: st) o w' :=
  jr_get (k := 0) (T := TX3) (v := .int (wI w c 0)) hkd (by decide) rfl (by decide) in_X3 rfl (by rw [hM]; exact wFL_X6_178) (fun ρ => rfl) hdg kk
theorem pf_X6_178 {M : jMM} {d : Nat} {w w' : jWd} {pc : Nat} {lv : List (Nat × Value)} {st : List Value} {o : Option Value} (hM : M.1 = RX6) {c : Nat} {x : Int32} (hkd : kd c = 3) (hdg : decode M.2.1 pc = .ok (.putfield 178, 3)) (kk : J M d (sI w c 0 x) (pc + 3) lv st o w') : J M d w pc lv (.int x :: .ref c :: st) o w' :=
  jr_put (k := 0) (T := TX3) (ty0 := tyX3) hkd (by decide) rfl (by decide) in_X3 tyX3_ok nmX3 rfl rfl rfl (by rw [hM]; exact wFL_X6_178) (fun ρ => by simp [jfl, wI_sI]) (fun ρ => by simp [jfl]) hdg kk
theorem wFL_X7_11 : Cond.fieldLink RX7 11 RX7 (TX7 0).2.1 (TX7 0).2.2.1 ∈ jT := jT_in (i := 442) (by decide +kernel) (by decide +kernel)
theorem gf_X7_11 {M : jMM} {d : Nat} {w w' : jWd} {pc : Nat} {lv : List (Nat × Value)} {st : List Value} {o : Option Value} {r : Nat} (hM : M.1 = RX7) {c : Nat} (hkd : kd c = 6) (hr : c + 1 = r) (hdg : decode M.2.1 pc = .ok (.getfield 11, 3)) (kk : J M d w (pc + 3) lv (.ref r :: st) o w') : J M d w pc lv (.ref c :: st) o w' :=
  jr_get (k := 0) (T := TX7) (v := .ref r) hkd (by decide) rfl (by decide) in_X7 rfl (by rw [hM]; exact wFL_X7_11) (fun ρ => by subst hr; rfl) hdg kk
theorem wFL_X7_15 : Cond.fieldLink RX7 15 RX7 (TX7 1).2.1 (TX7 1).2.2.1 ∈ jT := jT_in (i := 444) (by decide +kernel) (by decide +kernel)
theorem gf_X7_15 {M : jMM} {d : Nat} {w w' : jWd} {pc : Nat} {lv : List (Nat × Value)} {st : List Value} {o : Option Value} {r : Nat} (hM : M.1 = RX7) {c : Nat} (hkd : kd c = 6) (hr : c + 2 = r) (hdg : decode M.2.1 pc = .ok (.getfield 15, 3)) (kk : J M d w (pc + 3) lv (.ref r :: st) o w') : J M d w pc lv (.ref c :: st) o w' :=
  jr_get (k := 1) (T := TX7) (v := .ref r) hkd (by decide) rfl (by decide) in_X7 rfl (by rw [hM]; exact wFL_X7_15) (fun ρ => by subst hr; rfl) hdg kk
theorem wFL_X7_18 : Cond.fieldLink RX7 18 RX7 (TX7 2).2.1 (TX7 2).2.2.1 ∈ jT := jT_in (i := 445) (by decide +kernel) (by decide +kernel)
theorem gf_X7_18 {M : jMM} {d : Nat} {w w' : jWd} {pc : Nat} {lv : List (Nat × Value)} {st : List Value} {o : Option Value} {r : Nat} (hM : M.1 = RX7) {c : Nat} (hkd : kd c = 6) (hr : c + 3 = r) (hdg : decode M.2.1 pc = .ok (.getfield 18, 3)) (kk : J M d w (pc + 3) lv (.ref r :: st) o w') : J M d w pc lv (.ref c :: st) o w' :=
  jr_get (k := 2) (T := TX7) (v := .ref r) hkd (by decide) rfl (by decide) in_X7 rfl (by rw [hM]; exact wFL_X7_18) (fun ρ => by subst hr; rfl) hdg kk
theorem wFL_X8_16 : Cond.fieldLink RX8 16 RX8 (TX8 0).2.1 (TX8 0).2.2.1 ∈ jT := jT_in (i := 344) (by decide +kernel) (by decide +kernel)
theorem gf_X8_16 {M : jMM} {d : Nat} {w w' : jWd} {pc : Nat} {lv : List (Nat × Value)} {st : List Value} {o : Option Value} {r : Nat} (hM : M.1 = RX8) {c : Nat} (hkd : kd c = 7) (hr : c + 1 = r) (hdg : decode M.2.1 pc = .ok (.getfield 16, 3)) (kk : J M d w (pc + 3) lv (.ref r :: st) o w') : J M d w pc lv (.ref c :: st) o w' :=
  jr_get (k := 0) (T := TX8) (v := .ref r) hkd (by decide) rfl (by decide) in_X8 rfl (by rw [hM]; exact wFL_X8_16) (fun ρ => by subst hr; rfl) hdg kk
theorem wFL_X8_20 : Cond.fieldLink RX8 20 RX8 (TX8 1).2.1 (TX8 1).2.2.1 ∈ jT := jT_in (i := 347) (by decide +kernel) (by decide +kernel)
theorem gf_X8_20 {M : jMM} {d : Nat} {w w' : jWd} {pc : Nat} {lv : List (Nat × Value)} {st : List Value} {o : Option Value} {r : Nat} (hM : M.1 = RX8) {c : Nat} (hkd : kd c = 7) (hr : c + 8 = r) (hdg : decode M.2.1 pc = .ok (.getfield 20, 3)) (kk : J M d w (pc + 3) lv (.ref r :: st) o w') : J M d w pc lv (.ref c :: st) o w' :=
  jr_get (k := 1) (T := TX8) (v := .ref r) hkd (by decide) rfl (by decide) in_X8 rfl (by rw [hM]; exact wFL_X8_20) (fun ρ => by subst hr; rfl) hdg kk
theorem wFL_X8_23 : Cond.fieldLink RX8 23 RX8 (TX8 2).2.1 (TX8 2).2.2.1 ∈ jT := jT_in (i := 350) (by decide +kernel) (by decide +kernel)
theorem gf_X8_23 {M : jMM} {d : Nat} {w w' : jWd} {pc : Nat} {lv : List (Nat × Value)} {st : List Value} {o : Option Value} {r : Nat} (hM : M.1 = RX8) {c : Nat} (hkd : kd c = 7) (hr : c + 15 = r) (hdg : decode M.2.1 pc = .ok (.getfield 23, 3)) (kk : J M d w (pc + 3) lv (.ref r :: st) o w') : J M d w pc lv (.ref c :: st) o w' :=
  jr_get (k := 2) (T := TX8) (v := .ref r) hkd (by decide) rfl (by decide) in_X8 rfl (by rw [hM]; exact wFL_X8_23) (fun ρ => by subst hr; rfl) hdg kk
theorem wFL_X8_26 : Cond.fieldLink RX8 26 RX8 (TX8 3).2.1 (TX8 3).2.2.1 ∈ jT := jT_in (i := 353) (by decide +kernel) (by decide +kernel)
theorem gf_X8_26 {M : jMM} {d : Nat} {w w' : jWd} {pc : Nat} {lv : List (Nat × Value)} {st : List Value} {o : Option Value} {r : Nat} (hM : M.1 = RX8) {c : Nat} (hkd : kd c = 7) (hr : c + 22 = r) (hdg : decode M.2.1 pc = .ok (.getfield 26, 3)) (kk : J M d w (pc + 3) lv (.ref r :: st) o w') : J M d w pc lv (.ref c :: st) o w' :=
  jr_get (k := 3) (T := TX8) (v := .ref r) hkd (by decide) rfl (by decide) in_X8 rfl (by rw [hM]; exact wFL_X8_26) (fun ρ => by subst hr; rfl) hdg kk
theorem wFL_X8_29 : Cond.fieldLink RX8 29 RX8 (TX8 4).2.1 (TX8 4).2.2.1 ∈ jT := jT_in (i := 355) (by decide +kernel) (by decide +kernel)
theorem gf_X8_29 {M : jMM} {d : Nat} {w w' : jWd} {pc : Nat} {lv : List (Nat × Value)} {st : List Value} {o : Option Value} {r : Nat} (hM : M.1 = RX8) {c : Nat} (hkd : kd c = 7) (hr : c + 29 = r) (hdg : decode M.2.1 pc = .ok (.getfield 29, 3)) (kk : J M d w (pc + 3) lv (.ref r :: st) o w') : J M d w pc lv (.ref c :: st) o w' :=
  jr_get (k := 4) (T := TX8) (v := .ref r) hkd (by decide) rfl (by decide) in_X8 rfl (by rw [hM]; exact wFL_X8_29) (fun ρ => by subst hr; rfl) hdg kk
theorem wFL_X8_33 : Cond.fieldLink RX8 33 RX8 (TX8 5).2.1 (TX8 5).2.2.1 ∈ jT := jT_in (i := 357) (by decide +kernel) (by decide +kernel)
theorem gf_X8_33 {M : jMM} {d : Nat} {w w' : jWd} {pc : Nat} {lv : List (Nat × Value)} {st : List Value} {o : Option Value} {r : Nat} (hM : M.1 = RX8) {c : Nat} (hkd : kd c = 7) (hr : c + 30 = r) (hdg : decode M.2.1 pc = .ok (.getfield 33, 3)) (kk : J M d w (pc + 3) lv (.ref r :: st) o w') : J M d w pc lv (.ref c :: st) o w' :=
  jr_get (k := 5) (T := TX8) (v := .ref r) hkd (by decide) rfl (by decide) in_X8 rfl (by rw [hM]; exact wFL_X8_33) (fun ρ => by subst hr; rfl) hdg kk
theorem wFL_X8_40 : Cond.fieldLink RX8 40 RX8 (TX8 6).2.1 (TX8 6).2.2.1 ∈ jT := jT_in (i := 359) (by decide +kernel) (by decide +kernel)
theorem gf_X8_40 {M : jMM} {d : Nat} {w w' : jWd} {pc : Nat} {lv : List (Nat × Value)} {st : List Value} {o : Option Value} {r : Nat} (hM : M.1 = RX8) {c : Nat} (hkd : kd c = 7) (hr : c + 31 = r) (hdg : decode M.2.1 pc = .ok (.getfield 40, 3)) (kk : J M d w (pc + 3) lv (.ref r :: st) o w') : J M d w pc lv (.ref c :: st) o w' :=
  jr_get (k := 6) (T := TX8) (v := .ref r) hkd (by decide) rfl (by decide) in_X8 rfl (by rw [hM]; exact wFL_X8_40) (fun ρ => by subst hr; rfl) hdg kk
theorem wFL_X8_47 : Cond.fieldLink RX8 47 RX8 (TX8 7).2.1 (TX8 7).2.2.1 ∈ jT := jT_in (i := 362) (by decide +kernel) (by decide +kernel)
theorem gf_X8_47 {M : jMM} {d : Nat} {w w' : jWd} {pc : Nat} {lv : List (Nat × Value)} {st : List Value} {o : Option Value} {r : Nat} (hM : M.1 = RX8) {c : Nat} (hkd : kd c = 7) (hr : c + 38 = r) (hdg : decode M.2.1 pc = .ok (.getfield 47, 3)) (kk : J M d w (pc + 3) lv (.ref r :: st) o w') : J M d w pc lv (.ref c :: st) o w' :=
  jr_get (k := 7) (T := TX8) (v := .ref r) hkd (by decide) rfl (by decide) in_X8 rfl (by rw [hM]; exact wFL_X8_47) (fun ρ => by subst hr; rfl) hdg kk
theorem wFL_X8_54 : Cond.fieldLink RX8 54 RX8 (TX8 8).2.1 (TX8 8).2.2.1 ∈ jT := jT_in (i := 364) (by decide +kernel) (by decide +kernel)
theorem gf_X8_54 {M : jMM} {d : Nat} {w w' : jWd} {pc : Nat} {lv : List (Nat × Value)} {st : List Value} {o : Option Value} {r : Nat} (hM : M.1 = RX8) {c : Nat} (hkd : kd c = 7) (hr : c + 40 = r) (hdg : decode M.2.1 pc = .ok (.getfield 54, 3)) (kk : J M d w (pc + 3) lv (.ref r :: st) o w') : J M d w pc lv (.ref c :: st) o w' :=
  jr_get (k := 8) (T := TX8) (v := .ref r) hkd (by decide) rfl (by decide) in_X8 rfl (by rw [hM]; exact wFL_X8_54) (fun ρ => by subst hr; rfl) hdg kk
theorem wFL_X8_61 : Cond.fieldLink RX8 61 RX8 (TX8 9).2.1 (TX8 9).2.2.1 ∈ jT := jT_in (i := 367) (by decide +kernel) (by decide +kernel)
theorem gf_X8_61 {M : jMM} {d : Nat} {w w' : jWd} {pc : Nat} {lv : List (Nat × Value)} {st : List Value} {o : Option Value} {r : Nat} (hM : M.1 = RX8) {c : Nat} (hkd : kd c = 7) (hr : c + 47 = r) (hdg : decode M.2.1 pc = .ok (.getfield 61, 3)) (kk : J M d w (pc + 3) lv (.ref r :: st) o w') : J M d w pc lv (.ref c :: st) o w' :=
  jr_get (k := 9) (T := TX8) (v := .ref r) hkd (by decide) rfl (by decide) in_X8 rfl (by rw [hM]; exact wFL_X8_61) (fun ρ => by subst hr; rfl) hdg kk
theorem wFL_X8_68 : Cond.fieldLink RX8 68 RX8 (TX8 10).2.1 (TX8 10).2.2.1 ∈ jT := jT_in (i := 369) (by decide +kernel) (by decide +kernel)
theorem gf_X8_68 {M : jMM} {d : Nat} {w w' : jWd} {pc : Nat} {lv : List (Nat × Value)} {st : List Value} {o : Option Value} {r : Nat} (hM : M.1 = RX8) {c : Nat} (hkd : kd c = 7) (hr : c + 54 = r) (hdg : decode M.2.1 pc = .ok (.getfield 68, 3)) (kk : J M d w (pc + 3) lv (.ref r :: st) o w') : J M d w pc lv (.ref c :: st) o w' :=
  jr_get (k := 10) (T := TX8) (v := .ref r) hkd (by decide) rfl (by decide) in_X8 rfl (by rw [hM]; exact wFL_X8_68) (fun ρ => by subst hr; rfl) hdg kk
theorem wFL_X8_72 : Cond.fieldLink RX8 72 RX8 (TX8 11).2.1 (TX8 11).2.2.1 ∈ jT := jT_in (i := 371) (by decide +kernel) (by decide +kernel)
theorem gf_X8_72 {M : jMM} {d : Nat} {w w' : jWd} {pc : Nat} {lv : List (Nat × Value)} {st : List Value} {o : Option Value} (hM : M.1 = RX8) {c : Nat} (hkd : kd c = 7) (hdg : decode M.2.1 pc = .ok (.getfield 72, 3)) (kk : J M d w (pc + 3) lv (.int (wI w c 11) :: st) o w') : J M d w pc lv (.ref c :: st) o w' :=
  jr_get (k := 11) (T := TX8) (v := .int (wI w c 11)) hkd (by decide) rfl (by decide) in_X8 rfl (by rw [hM]; exact wFL_X8_72) (fun ρ => rfl) hdg kk
theorem pf_X8_72 {M : jMM} {d : Nat} {w w' : jWd} {pc : Nat} {lv : List (Nat × Value)} {st : List Value} {o : Option Value} (hM : M.1 = RX8) {c : Nat} {x : Int32} (hkd : kd c = 7) (hdg : decode M.2.1 pc = .ok (.putfield 72, 3)) (kk : J M d (sI w c 11 x) (pc + 3) lv st o w') : J M d w pc lv (.int x :: .ref c :: st) o w' :=
  jr_put (k := 11) (T := TX8) (ty0 := tyX8) hkd (by decide) rfl (by decide) in_X8 tyX8_ok nmX8 rfl rfl rfl (by rw [hM]; exact wFL_X8_72) (fun ρ => by simp [jfl, wI_sI]) (fun ρ => by simp [jfl]) hdg kk
theorem wFL_X8_76 : Cond.fieldLink RX8 76 RX8 (TX8 12).2.1 (TX8 12).2.2.1 ∈ jT := jT_in (i := 374) (by decide +kernel) (by decide +kernel)
theorem gf_X8_76 {M : jMM} {d : Nat} {w w' : jWd} {pc : Nat} {lv : List (Nat × Value)} {st : List Value} {o : Option Value} (hM : M.1 = RX8) {c : Nat} (hkd : kd c = 7) (hdg : decode M.2.1 pc = .ok (.getfield 76, 3)) (kk : J M d w (pc + 3) lv (.int (wI w c 12) :: st) o w') : J M d w pc lv (.ref c :: st) o w' :=
  jr_get (k := 12) (T := TX8) (v := .int (wI w c 12)) hkd (by decide) rfl (by decide) in_X8 rfl (by rw [hM]; exact wFL_X8_76) (fun ρ => rfl) hdg kk
theorem pf_X8_76 {M : jMM} {d : Nat} {w w' : jWd} {pc : Nat} {lv : List (Nat × Value)} {st : List Value} {o : Option Value} (hM : M.1 = RX8) {c : Nat} {x : Int32} (hkd : kd c = 7) (hdg : decode M.2.1 pc = .ok (.putfield 76, 3)) (kk : J M d (sI w c 12 x) (pc + 3) lv st o w') : J M d w pc lv (.int x :: .ref c :: st) o w' :=
  jr_put (k := 12) (T := TX8) (ty0 := tyX8) hkd (by decide) rfl (by decide) in_X8 tyX8_ok nmX8 rfl rfl rfl (by rw [hM]; exact wFL_X8_76) (fun ρ => by simp [jfl, wI_sI]) (fun ρ => by simp [jfl]) hdg kk
theorem wFL_X8_112 : Cond.fieldLink RX8 112 RX5 (TX5 5).2.1 (TX5 5).2.2.1 ∈ jT := jT_in (i := 140) (by decide +kernel) (by decide +kernel)
theorem gf_X8_112 {M : jMM} {d : Nat} {w w' : jWd} {pc : Nat} {lv : List (Nat × Value)} {st : List Value} {o : Option Value} {r : Nat} (hM : M.1 = RX8) {c : Nat} (hkd : kd c = 4) (hr : c + 3 = r) (hdg : decode M.2.1 pc = .ok (.getfield 112, 3)) (kk : J M d w (pc + 3) lv (.ref r :: st) o w') : J M d w pc lv (.ref c :: st) o w' :=
  jr_get (k := 5) (T := TX5) (v := .ref r) hkd (by decide) rfl (by decide) in_X5 rfl (by rw [hM]; exact wFL_X8_112) (fun ρ => by subst hr; rfl) hdg kk
theorem wFL_X8_115 : Cond.fieldLink RX8 115 RX5 (TX5 2).2.1 (TX5 2).2.2.1 ∈ jT := jT_in (i := 131) (by decide +kernel) (by decide +kernel)
theorem gf_X8_115 {M : jMM} {d : Nat} {w w' : jWd} {pc : Nat} {lv : List (Nat × Value)} {st : List Value} {o : Option Value} (hM : M.1 = RX8) {c : Nat} (hkd : kd c = 4) (hdg : decode M.2.1 pc = .ok (.getfield 115, 3)) (kk : J M d w (pc + 3) lv (.int (wI w c 2) :: st) o w') : J M d w pc lv (.ref c :: st) o w' :=
  jr_get (k := 2) (T := TX5) (v := .int (wI w c 2)) hkd (by decide) rfl (by decide) in_X5 rfl (by rw [hM]; exact wFL_X8_115) (fun ρ => rfl) hdg kk
theorem wFL_X8_121 : Cond.fieldLink RX8 121 RX5 (TX5 3).2.1 (TX5 3).2.2.1 ∈ jT := jT_in (i := 136) (by decide +kernel) (by decide +kernel)
theorem gf_X8_121 {M : jMM} {d : Nat} {w w' : jWd} {pc : Nat} {lv : List (Nat × Value)} {st : List Value} {o : Option Value} {r : Nat} (hM : M.1 = RX8) {c : Nat} (hkd : kd c = 4) (hr : c + 1 = r) (hdg : decode M.2.1 pc = .ok (.getfield 121, 3)) (kk : J M d w (pc + 3) lv (.ref r :: st) o w') : J M d w pc lv (.ref c :: st) o w' :=
  jr_get (k := 3) (T := TX5) (v := .ref r) hkd (by decide) rfl (by decide) in_X5 rfl (by rw [hM]; exact wFL_X8_121) (fun ρ => by subst hr; rfl) hdg kk
theorem wFL_X8_132 : Cond.fieldLink RX8 132 RX5 (TX5 6).2.1 (TX5 6).2.2.1 ∈ jT := jT_in (i := 145) (by decide +kernel) (by decide +kernel)
theorem gf_X8_132 {M : jMM} {d : Nat} {w w' : jWd} {pc : Nat} {lv : List (Nat × Value)} {st : List Value} {o : Option Value} {r : Nat} (hM : M.1 = RX8) {c : Nat} (hkd : kd c = 4) (hr : c + 4 = r) (hdg : decode M.2.1 pc = .ok (.getfield 132, 3)) (kk : J M d w (pc + 3) lv (.ref r :: st) o w') : J M d w pc lv (.ref c :: st) o w' :=
  jr_get (k := 6) (T := TX5) (v := .ref r) hkd (by decide) rfl (by decide) in_X5 rfl (by rw [hM]; exact wFL_X8_132) (fun ρ => by subst hr; rfl) hdg kk
theorem wFL_X8_156 : Cond.fieldLink RX8 156 RX3 (TX3 1).2.1 (TX3 1).2.2.1 ∈ jT := jT_in (i := 216) (by decide +kernel) (by decide +kernel)
theorem gf_X8_156 {M : jMM} {d : Nat} {w w' : jWd} {pc : Nat} {lv : List (Nat × Value)} {st : List Value} {o : Option Value} (hM : M.1 = RX8) {c : Nat} (hkd : kd c = 3) (hdg : decode M.2.1 pc = .ok (.getfield 156, 3)) (kk : J M d w (pc + 3) lv (.int (wI w c 1) :: st) o w') : J M d w pc lv (.ref c :: st) o w' :=
  jr_get (k := 1) (T := TX3) (v := .int (wI w c 1)) hkd (by decide) rfl (by decide) in_X3 rfl (by rw [hM]; exact wFL_X8_156) (fun ρ => rfl) hdg kk
theorem wFL_X8_163 : Cond.fieldLink RX8 163 RX3 (TX3 3).2.1 (TX3 3).2.2.1 ∈ jT := jT_in (i := 220) (by decide +kernel) (by decide +kernel)
theorem gf_X8_163 {M : jMM} {d : Nat} {w w' : jWd} {pc : Nat} {lv : List (Nat × Value)} {st : List Value} {o : Option Value} (hM : M.1 = RX8) {c : Nat} (hkd : kd c = 3) (hdg : decode M.2.1 pc = .ok (.getfield 163, 3)) (kk : J M d w (pc + 3) lv (.int (wI w c 3) :: st) o w') : J M d w pc lv (.ref c :: st) o w' :=
  jr_get (k := 3) (T := TX3) (v := .int (wI w c 3)) hkd (by decide) rfl (by decide) in_X3 rfl (by rw [hM]; exact wFL_X8_163) (fun ρ => rfl) hdg kk
theorem wFL_X8_169 : Cond.fieldLink RX8 169 RX3 (TX3 2).2.1 (TX3 2).2.2.1 ∈ jT := jT_in (i := 218) (by decide +kernel) (by decide +kernel)
theorem gf_X8_169 {M : jMM} {d : Nat} {w w' : jWd} {pc : Nat} {lv : List (Nat × Value)} {st : List Value} {o : Option Value} (hM : M.1 = RX8) {c : Nat} (hkd : kd c = 3) (hdg : decode M.2.1 pc = .ok (.getfield 169, 3)) (kk : J M d w (pc + 3) lv (.int (wI w c 2) :: st) o w') : J M d w pc lv (.ref c :: st) o w' :=
  jr_get (k := 2) (T := TX3) (v := .int (wI w c 2)) hkd (by decide) rfl (by decide) in_X3 rfl (by rw [hM]; exact wFL_X8_169) (fun ρ => rfl) hdg kk
theorem wFL_X9_11 : Cond.fieldLink RX9 11 RX9 (TX9 3).2.1 (TX9 3).2.2.1 ∈ jT := jT_in (i := 283) (by decide +kernel) (by decide +kernel)
theorem gf_X9_11 {M : jMM} {d : Nat} {w w' : jWd} {pc : Nat} {lv : List (Nat × Value)} {st : List Value} {o : Option Value} {r : Nat} (hM : M.1 = RX9) {c : Nat} (hkd : kd c = 8) (hr : c + 1 = r) (hdg : decode M.2.1 pc = .ok (.getfield 11, 3)) (kk : J M d w (pc + 3) lv (.ref r :: st) o w') : J M d w pc lv (.ref c :: st) o w' :=
  jr_get (k := 3) (T := TX9) (v := .ref r) hkd (by decide) rfl (by decide) in_X9 rfl (by rw [hM]; exact wFL_X9_11) (fun ρ => by subst hr; rfl) hdg kk
theorem wFL_X9_15 : Cond.fieldLink RX9 15 RX9 (TX9 4).2.1 (TX9 4).2.2.1 ∈ jT := jT_in (i := 284) (by decide +kernel) (by decide +kernel)
theorem gf_X9_15 {M : jMM} {d : Nat} {w w' : jWd} {pc : Nat} {lv : List (Nat × Value)} {st : List Value} {o : Option Value} {r : Nat} (hM : M.1 = RX9) {c : Nat} (hkd : kd c = 8) (hr : c + 2 = r) (hdg : decode M.2.1 pc = .ok (.getfield 15, 3)) (kk : J M d w (pc + 3) lv (.ref r :: st) o w') : J M d w pc lv (.ref c :: st) o w' :=
  jr_get (k := 4) (T := TX9) (v := .ref r) hkd (by decide) rfl (by decide) in_X9 rfl (by rw [hM]; exact wFL_X9_15) (fun ρ => by subst hr; rfl) hdg kk
theorem wFL_X9_18 : Cond.fieldLink RX9 18 RX9 (TX9 5).2.1 (TX9 5).2.2.1 ∈ jT := jT_in (i := 285) (by decide +kernel) (by decide +kernel)
theorem gf_X9_18 {M : jMM} {d : Nat} {w w' : jWd} {pc : Nat} {lv : List (Nat × Value)} {st : List Value} {o : Option Value} {r : Nat} (hM : M.1 = RX9) {c : Nat} (hkd : kd c = 8) (hr : c + 3 = r) (hdg : decode M.2.1 pc = .ok (.getfield 18, 3)) (kk : J M d w (pc + 3) lv (.ref r :: st) o w') : J M d w pc lv (.ref c :: st) o w' :=
  jr_get (k := 5) (T := TX9) (v := .ref r) hkd (by decide) rfl (by decide) in_X9 rfl (by rw [hM]; exact wFL_X9_18) (fun ρ => by subst hr; rfl) hdg kk
theorem wFL_X9_21 : Cond.fieldLink RX9 21 RX9 (TX9 6).2.1 (TX9 6).2.2.1 ∈ jT := jT_in (i := 286) (by decide +kernel) (by decide +kernel)
theorem gf_X9_21 {M : jMM} {d : Nat} {w w' : jWd} {pc : Nat} {lv : List (Nat × Value)} {st : List Value} {o : Option Value} {r : Nat} (hM : M.1 = RX9) {c : Nat} (hkd : kd c = 8) (hr : c + 4 = r) (hdg : decode M.2.1 pc = .ok (.getfield 21, 3)) (kk : J M d w (pc + 3) lv (.ref r :: st) o w') : J M d w pc lv (.ref c :: st) o w' :=
  jr_get (k := 6) (T := TX9) (v := .ref r) hkd (by decide) rfl (by decide) in_X9 rfl (by rw [hM]; exact wFL_X9_21) (fun ρ => by subst hr; rfl) hdg kk
theorem wFL_X9_24 : Cond.fieldLink RX9 24 RX9 (TX9 7).2.1 (TX9 7).2.2.1 ∈ jT := jT_in (i := 287) (by decide +kernel) (by decide +kernel)
theorem gf_X9_24 {M : jMM} {d : Nat} {w w' : jWd} {pc : Nat} {lv : List (Nat × Value)} {st : List Value} {o : Option Value} {r : Nat} (hM : M.1 = RX9) {c : Nat} (hkd : kd c = 8) (hr : c + 5 = r) (hdg : decode M.2.1 pc = .ok (.getfield 24, 3)) (kk : J M d w (pc + 3) lv (.ref r :: st) o w') : J M d w pc lv (.ref c :: st) o w' :=
  jr_get (k := 7) (T := TX9) (v := .ref r) hkd (by decide) rfl (by decide) in_X9 rfl (by rw [hM]; exact wFL_X9_24) (fun ρ => by subst hr; rfl) hdg kk
theorem wFL_X9_27 : Cond.fieldLink RX9 27 RX9 (TX9 8).2.1 (TX9 8).2.2.1 ∈ jT := jT_in (i := 288) (by decide +kernel) (by decide +kernel)
theorem gf_X9_27 {M : jMM} {d : Nat} {w w' : jWd} {pc : Nat} {lv : List (Nat × Value)} {st : List Value} {o : Option Value} {r : Nat} (hM : M.1 = RX9) {c : Nat} (hkd : kd c = 8) (hr : c + 6 = r) (hdg : decode M.2.1 pc = .ok (.getfield 27, 3)) (kk : J M d w (pc + 3) lv (.ref r :: st) o w') : J M d w pc lv (.ref c :: st) o w' :=
  jr_get (k := 8) (T := TX9) (v := .ref r) hkd (by decide) rfl (by decide) in_X9 rfl (by rw [hM]; exact wFL_X9_27) (fun ρ => by subst hr; rfl) hdg kk
theorem wFL_X9_30 : Cond.fieldLink RX9 30 RX9 (TX9 0).2.1 (TX9 0).2.2.1 ∈ jT := jT_in (i := 277) (by decide +kernel) (by decide +kernel)
theorem gf_X9_30 {M : jMM} {d : Nat} {w w' : jWd} {pc : Nat} {lv : List (Nat × Value)} {st : List Value} {o : Option Value} (hM : M.1 = RX9) {c : Nat} (hkd : kd c = 8) (hdg : decode M.2.1 pc = .ok (.getfield 30, 3)) (kk : J M d w (pc + 3) lv (.int (wI w c 0) :: st) o w') : J M d w pc lv (.ref c :: st) o w' :=
  jr_get (k := 0) (T := TX9) (v := .int (wI w c 0)) hkd (by decide) rfl (by decide) in_X9 rfl (by rw [hM]; exact wFL_X9_30) (fun ρ => rfl) hdg kk
theorem pf_X9_30 {M : jMM} {d : Nat} {w w' : jWd} {pc : Nat} {lv : List (Nat × Value)} {st : List Value} {o : Option Value} (hM : M.1 = RX9) {c : Nat} {x : Int32} (hkd : kd c = 8) (hdg : decode M.2.1 pc = .ok (.putfield 30, 3)) (kk : J M d (sI w c 0 x) (pc + 3) lv st o w') : J M d w pc lv (.int x :: .ref c :: st) o w' :=
  jr_put (k := 0) (T := TX9) (ty0 := tyX9) hkd (by decide) rfl (by decide) in_X9 tyX9_ok nmX9 rfl rfl rfl (by rw [hM]; exact wFL_X9_30) (fun ρ => by simp [jfl, wI_sI]) (fun ρ => by simp [jfl]) hdg kk
theorem wFL_X9_34 : Cond.fieldLink RX9 34 RX9 (TX9 1).2.1 (TX9 1).2.2.1 ∈ jT := jT_in (i := 279) (by decide +kernel) (by decide +kernel)
theorem gf_X9_34 {M : jMM} {d : Nat} {w w' : jWd} {pc : Nat} {lv : List (Nat × Value)} {st : List Value} {o : Option Value} (hM : M.1 = RX9) {c : Nat} (hkd : kd c = 8) (hdg : decode M.2.1 pc = .ok (.getfield 34, 3)) (kk : J M d w (pc + 3) lv (.int (wI w c 1) :: st) o w') : J M d w pc lv (.ref c :: st) o w' :=
  jr_get (k := 1) (T := TX9) (v := .int (wI w c 1)) hkd (by decide) rfl (by decide) in_X9 rfl (by rw [hM]; exact wFL_X9_34) (fun ρ => rfl) hdg kk
theorem pf_X9_34 {M : jMM} {d : Nat} {w w' : jWd} {pc : Nat} {lv : List (Nat × Value)} {st : List Value} {o : Option Value} (hM : M.1 = RX9) {c : Nat} {x : Int32} (hkd : kd c = 8) (hdg : decode M.2.1 pc = .ok (.putfield 34, 3)) (kk : J M d (sI w c 1 x) (pc + 3) lv st o w') : J M d w pc lv (.int x :: .ref c :: st) o w' :=
  jr_put (k := 1) (T := TX9) (ty0 := tyX9) hkd (by decide) rfl (by decide) in_X9 tyX9_ok nmX9 rfl rfl rfl (by rw [hM]; exact wFL_X9_34) (fun ρ => by simp [jfl, wI_sI]) (fun ρ => by simp [jfl]) hdg kk
theorem wFL_X9_37 : Cond.fieldLink RX9 37 RX9 (TX9 2).2.1 (TX9 2).2.2.1 ∈ jT := jT_in (i := 281) (by decide +kernel) (by decide +kernel)
theorem gf_X9_37 {M : jMM} {d : Nat} {w w' : jWd} {pc : Nat} {lv : List (Nat × Value)} {st : List Value} {o : Option Value} (hM : M.1 = RX9) {c : Nat} (hkd : kd c = 8) (hdg : decode M.2.1 pc = .ok (.getfield 37, 3)) (kk : J M d w (pc + 3) lv (.int (wI w c 2) :: st) o w') : J M d w pc lv (.ref c :: st) o w' :=
  jr_get (k := 2) (T := TX9) (v := .int (wI w c 2)) hkd (by decide) rfl (by decide) in_X9 rfl (by rw [hM]; exact wFL_X9_37) (fun ρ => rfl) hdg kk
theorem pf_X9_37 {M : jMM} {d : Nat} {w w' : jWd} {pc : Nat} {lv : List (Nat × Value)} {st : List Value} {o : Option Value} (hM : M.1 = RX9) {c : Nat} {x : Int32} (hkd : kd c = 8) (hdg : decode M.2.1 pc = .ok (.putfield 37, 3)) (kk : J M d (sI w c 2 x) (pc + 3) lv st o w') : J M d w pc lv (.int x :: .ref c :: st) o w' :=
  jr_put (k := 2) (T := TX9) (ty0 := tyX9) hkd (by decide) rfl (by decide) in_X9 tyX9_ok nmX9 rfl rfl rfl (by rw [hM]; exact wFL_X9_37) (fun ρ => by simp [jfl, wI_sI]) (fun ρ => by simp [jfl]) hdg kk
theorem wFL_X10_11 : Cond.fieldLink RX10 11 RX10 (TX10 1).2.1 (TX10 1).2.2.1 ∈ jT := jT_in (i := 316) (by decide +kernel) (by decide +kernel)
theorem gf_X10_11 {M : jMM} {d : Nat} {w w' : jWd} {pc : Nat} {lv : List (Nat × Value)} {st : List Value} {o : Option Value} {r : Nat} (hM : M.1 = RX10) {c : Nat} (hkd : kd c = 9) (hr : c + 1 = r) (hdg : decode M.2.1 pc = .ok (.getfield 11, 3)) (kk : J M d w (pc + 3) lv (.ref r :: st) o w') : J M d w pc lv (.ref c :: st) o w' :=
  jr_get (k := 1) (T := TX10) (v := .ref r) hkd (by decide) rfl (by decide) in_X10 rfl (by rw [hM]; exact wFL_X10_11) (fun ρ => by subst hr; rfl) hdg kk
theorem wFL_X10_15 : Cond.fieldLink RX10 15 RX10 (TX10 2).2.1 (TX10 2).2.2.1 ∈ jT := jT_in (i := 317) (by decide +kernel) (by decide +kernel)
theorem gf_X10_15 {M : jMM} {d : Nat} {w w' : jWd} {pc : Nat} {lv : List (Nat × Value)} {st : List Value} {o : Option Value} {r : Nat} (hM : M.1 = RX10) {c : Nat} (hkd : kd c = 9) (hr : c + 2 = r) (hdg : decode M.2.1 pc = .ok (.getfield 15, 3)) (kk : J M d w (pc + 3) lv (.ref r :: st) o w') : J M d w pc lv (.ref c :: st) o w' :=
  jr_get (k := 2) (T := TX10) (v := .ref r) hkd (by decide) rfl (by decide) in_X10 rfl (by rw [hM]; exact wFL_X10_15) (fun ρ => by subst hr; rfl) hdg kk
theorem wFL_X10_18 : Cond.fieldLink RX10 18 RX10 (TX10 3).2.1 (TX10 3).2.2.1 ∈ jT := jT_in (i := 318) (by decide +kernel) (by decide +kernel)
theorem gf_X10_18 {M : jMM} {d : Nat} {w w' : jWd} {pc : Nat} {lv : List (Nat × Value)} {st : List Value} {o : Option Value} {r : Nat} (hM : M.1 = RX10) {c : Nat} (hkd : kd c = 9) (hr : c + 3 = r) (hdg : decode M.2.1 pc = .ok (.getfield 18, 3)) (kk : J M d w (pc + 3) lv (.ref r :: st) o w') : J M d w pc lv (.ref c :: st) o w' :=
  jr_get (k := 3) (T := TX10) (v := .ref r) hkd (by decide) rfl (by decide) in_X10 rfl (by rw [hM]; exact wFL_X10_18) (fun ρ => by subst hr; rfl) hdg kk
theorem wFL_X10_21 : Cond.fieldLink RX10 21 RX10 (TX10 4).2.1 (TX10 4).2.2.1 ∈ jT := jT_in (i := 319) (by decide +kernel) (by decide +kernel)
theorem gf_X10_21 {M : jMM} {d : Nat} {w w' : jWd} {pc : Nat} {lv : List (Nat × Value)} {st : List Value} {o : Option Value} {r : Nat} (hM : M.1 = RX10) {c : Nat} (hkd : kd c = 9) (hr : c + 4 = r) (hdg : decode M.2.1 pc = .ok (.getfield 21, 3)) (kk : J M d w (pc + 3) lv (.ref r :: st) o w') : J M d w pc lv (.ref c :: st) o w' :=
  jr_get (k := 4) (T := TX10) (v := .ref r) hkd (by decide) rfl (by decide) in_X10 rfl (by rw [hM]; exact wFL_X10_21) (fun ρ => by subst hr; rfl) hdg kk
theorem wFL_X10_24 : Cond.fieldLink RX10 24 RX10 (TX10 5).2.1 (TX10 5).2.2.1 ∈ jT := jT_in (i := 321) (by decide +kernel) (by decide +kernel)
theorem gf_X10_24 {M : jMM} {d : Nat} {w w' : jWd} {pc : Nat} {lv : List (Nat × Value)} {st : List Value} {o : Option Value} {r : Nat} (hM : M.1 = RX10) {c : Nat} (hkd : kd c = 9) (hr : c + 5 = r) (hdg : decode M.2.1 pc = .ok (.getfield 24, 3)) (kk : J M d w (pc + 3) lv (.ref r :: st) o w') : J M d w pc lv (.ref c :: st) o w' :=
  jr_get (k := 5) (T := TX10) (v := .ref r) hkd (by decide) rfl (by decide) in_X10 rfl (by rw [hM]; exact wFL_X10_24) (fun ρ => by subst hr; rfl) hdg kk
theorem wFL_X10_27 : Cond.fieldLink RX10 27 RX10 (TX10 0).2.1 (TX10 0).2.2.1 ∈ jT := jT_in (i := 314) (by decide +kernel) (by decide +kernel)
theorem gf_X10_27 {M : jMM} {d : Nat} {w w' : jWd} {pc : Nat} {lv : List (Nat × Value)} {st : List Value} {o : Option Value} (hM : M.1 = RX10) {c : Nat} (hkd : kd c = 9) (hdg : decode M.2.1 pc = .ok (.getfield 27, 3)) (kk : J M d w (pc + 3) lv (.int (wI w c 0) :: st) o w') : J M d w pc lv (.ref c :: st) o w' :=
  jr_get (k := 0) (T := TX10) (v := .int (wI w c 0)) hkd (by decide) rfl (by decide) in_X10 rfl (by rw [hM]; exact wFL_X10_27) (fun ρ => rfl) hdg kk
theorem pf_X10_27 {M : jMM} {d : Nat} {w w' : jWd} {pc : Nat} {lv : List (Nat × Value)} {st : List Value} {o : Option Value} (hM : M.1 = RX10) {c : Nat} {x : Int32} (hkd : kd c = 9) (hdg : decode M.2.1 pc = .ok (.putfield 27, 3)) (kk : J M d (sI w c 0 x) (pc + 3) lv st o w') : J M d w pc lv (.int x :: .ref c :: st) o w' :=
  jr_put (k := 0) (T := TX10) (ty0 := tyX10) hkd (by decide) rfl (by decide) in_X10 tyX10_ok nmX10 rfl rfl rfl (by rw [hM]; exact wFL_X10_27) (fun ρ => by simp [jfl, wI_sI]) (fun ρ => by simp [jfl]) hdg kk
theorem wFL_X12_1 : Cond.fieldLink RX12 1 RX12 (TX12 0).2.1 (TX12 0).2.2.1 ∈ jT := jT_in (i := 1318) (by decide +kernel) (by decide +kernel)
theorem pf_X12_1 {M : jMM} {d : Nat} {w w' : jWd} {pc : Nat} {lv : List (Nat × Value)} {st : List Value} {o : Option Value} (hM : M.1 = RX12) {c : Nat} {x : Int32} (hkd : kd c = 11) (hdg : decode M.2.1 pc = .ok (.putfield 1, 3)) (kk : J M d (sI w c 0 x) (pc + 3) lv st o w') : J M d w pc lv (.int x :: .ref c :: st) o w' :=
  jr_put (k := 0) (T := TX12) (ty0 := tyX12) hkd (by decide) rfl (by decide) in_X12 tyX12_ok nmX12 rfl rfl rfl (by rw [hM]; exact wFL_X12_1) (fun ρ => by simp [jfl, wI_sI]) (fun ρ => by simp [jfl]) hdg kk
theorem wFL_X12_7 : Cond.fieldLink RX12 7 RX12 (TX12 1).2.1 (TX12 1).2.2.1 ∈ jT := jT_in (i := 1319) (by decide +kernel) (by decide +kernel)
theorem gf_X12_7 {M : jMM} {d : Nat} {w w' : jWd} {pc : Nat} {lv : List (Nat × Value)} {st : List Value} {o : Option Value} {r : Nat} (hM : M.1 = RX12) {c : Nat} (hkd : kd c = 11) (hr : c + 1 = r) (hdg : decode M.2.1 pc = .ok (.getfield 7, 3)) (kk : J M d w (pc + 3) lv (.ref r :: st) o w') : J M d w pc lv (.ref c :: st) o w' :=
  jr_get (k := 1) (T := TX12) (v := .ref r) hkd (by decide) rfl (by decide) in_X12 rfl (by rw [hM]; exact wFL_X12_7) (fun ρ => by subst hr; rfl) hdg kk
theorem wFL_X12_17 : Cond.fieldLink RX12 17 RX12 (TX12 2).2.1 (TX12 2).2.2.1 ∈ jT := jT_in (i := 1320) (by decide +kernel) (by decide +kernel)
theorem gf_X12_17 {M : jMM} {d : Nat} {w w' : jWd} {pc : Nat} {lv : List (Nat × Value)} {st : List Value} {o : Option Value} {r : Nat} (hM : M.1 = RX12) {c : Nat} (hkd : kd c = 11) (hr : c + 2 = r) (hdg : decode M.2.1 pc = .ok (.getfield 17, 3)) (kk : J M d w (pc + 3) lv (.ref r :: st) o w') : J M d w pc lv (.ref c :: st) o w' :=
  jr_get (k := 2) (T := TX12) (v := .ref r) hkd (by decide) rfl (by decide) in_X12 rfl (by rw [hM]; exact wFL_X12_17) (fun ρ => by subst hr; rfl) hdg kk
theorem wFL_X12_20 : Cond.fieldLink RX12 20 RX12 (TX12 3).2.1 (TX12 3).2.2.1 ∈ jT := jT_in (i := 1321) (by decide +kernel) (by decide +kernel)
theorem gf_X12_20 {M : jMM} {d : Nat} {w w' : jWd} {pc : Nat} {lv : List (Nat × Value)} {st : List Value} {o : Option Value} {r : Nat} (hM : M.1 = RX12) {c : Nat} (hkd : kd c = 11) (hr : c + 3 = r) (hdg : decode M.2.1 pc = .ok (.getfield 20, 3)) (kk : J M d w (pc + 3) lv (.ref r :: st) o w') : J M d w pc lv (.ref c :: st) o w' :=
  jr_get (k := 3) (T := TX12) (v := .ref r) hkd (by decide) rfl (by decide) in_X12 rfl (by rw [hM]; exact wFL_X12_20) (fun ρ => by subst hr; rfl) hdg kk
theorem wFL_X12_24 : Cond.fieldLink RX12 24 RX12 (TX12 4).2.1 (TX12 4).2.2.1 ∈ jT := jT_in (i := 1322) (by decide +kernel) (by decide +kernel)
theorem gf_X12_24 {M : jMM} {d : Nat} {w w' : jWd} {pc : Nat} {lv : List (Nat × Value)} {st : List Value} {o : Option Value} {r : Nat} (hM : M.1 = RX12) {c : Nat} (hkd : kd c = 11) (hr : c + 4 = r) (hdg : decode M.2.1 pc = .ok (.getfield 24, 3)) (kk : J M d w (pc + 3) lv (.ref r :: st) o w') : J M d w pc lv (.ref c :: st) o w' :=
  jr_get (k := 4) (T := TX12) (v := .ref r) hkd (by decide) rfl (by decide) in_X12 rfl (by rw [hM]; exact wFL_X12_24) (fun ρ => by subst hr; rfl) hdg kk
theorem wFL_X12_28 : Cond.fieldLink RX12 28 RX12 (TX12 5).2.1 (TX12 5).2.2.1 ∈ jT := jT_in (i := 1323) (by decide +kernel) (by decide +kernel)
theorem gf_X12_28 {M : jMM} {d : Nat} {w w' : jWd} {pc : Nat} {lv : List (Nat × Value)} {st : List Value} {o : Option Value} {r : Nat} (hM : M.1 = RX12) {c : Nat} (hkd : kd c = 11) (hr : c + 5 = r) (hdg : decode M.2.1 pc = .ok (.getfield 28, 3)) (kk : J M d w (pc + 3) lv (.ref r :: st) o w') : J M d w pc lv (.ref c :: st) o w' :=
  jr_get (k := 5) (T := TX12) (v := .ref r) hkd (by decide) rfl (by decide) in_X12 rfl (by rw [hM]; exact wFL_X12_28) (fun ρ => by subst hr; rfl) hdg kk
theorem wFL_X12_31 : Cond.fieldLink RX12 31 RX12 (TX12 6).2.1 (TX12 6).2.2.1 ∈ jT := jT_in (i := 1324) (by decide +kernel) (by decide +kernel)
theorem gf_X12_31 {M : jMM} {d : Nat} {w w' : jWd} {pc : Nat} {lv : List (Nat × Value)} {st : List Value} {o : Option Value} {r : Nat} (hM : M.1 = RX12) {c : Nat} (hkd : kd c = 11) (hr : c + 6 = r) (hdg : decode M.2.1 pc = .ok (.getfield 31, 3)) (kk : J M d w (pc + 3) lv (.ref r :: st) o w') : J M d w pc lv (.ref c :: st) o w' :=
  jr_get (k := 6) (T := TX12) (v := .ref r) hkd (by decide) rfl (by decide) in_X12 rfl (by rw [hM]; exact wFL_X12_31) (fun ρ => by subst hr; rfl) hdg kk
theorem wFL_X12_34 : Cond.fieldLink RX12 34 RX12 (TX12 7).2.1 (TX12 7).2.2.1 ∈ jT := jT_in (i := 1325) (by decide +kernel) (by decide +kernel)
theorem gf_X12_34 {M : jMM} {d : Nat} {w w' : jWd} {pc : Nat} {lv : List (Nat × Value)} {st : List Value} {o : Option Value} {r : Nat} (hM : M.1 = RX12) {c : Nat} (hkd : kd c = 11) (hr : c + 7 = r) (hdg : decode M.2.1 pc = .ok (.getfield 34, 3)) (kk : J M d w (pc + 3) lv (.ref r :: st) o w') : J M d w pc lv (.ref c :: st) o w' :=
  jr_get (k := 7) (T := TX12) (v := .ref r) hkd (by decide) rfl (by decide) in_X12 rfl (by rw [hM]; exact wFL_X12_34) (fun ρ => by subst hr; rfl) hdg kk
theorem wFL_X12_37 : Cond.fieldLink RX12 37 RX12 (TX12 8).2.1 (TX12 8).2.2.1 ∈ jT := jT_in (i := 1326) (by decide +kernel) (by decide +kernel)
theorem gf_X12_37 {M : jMM} {d : Nat} {w w' : jWd} {pc : Nat} {lv : List (Nat × Value)} {st : List Value} {o : Option Value} {r : Nat} (hM : M.1 = RX12) {c : Nat} (hkd : kd c = 11) (hr : c + 8 = r) (hdg : decode M.2.1 pc = .ok (.getfield 37, 3)) (kk : J M d w (pc + 3) lv (.ref r :: st) o w') : J M d w pc lv (.ref c :: st) o w' :=
  jr_get (k := 8) (T := TX12) (v := .ref r) hkd (by decide) rfl (by decide) in_X12 rfl (by rw [hM]; exact wFL_X12_37) (fun ρ => by subst hr; rfl) hdg kk
theorem wFL_X12_40 : Cond.fieldLink RX12 40 RX12 (TX12 20).2.1 (TX12 20).2.2.1 ∈ jT := jT_in (i := 1338) (by decide +kernel) (by decide +kernel)
theorem gf_X12_40 {M : jMM} {d : Nat} {w w' : jWd} {pc : Nat} {lv : List (Nat × Value)} {st : List Value} {o : Option Value} (hM : M.1 = RX12) {c : Nat} (hkd : kd c = 11) (hdg : decode M.2.1 pc = .ok (.getfield 40, 3)) (kk : J M d w (pc + 3) lv (.int (wI w c 20) :: st) o w') : J M d w pc lv (.ref c :: st) o w' :=
  jr_get (k := 20) (T := TX12) (v := .int (wI w c 20)) hkd (by decide) rfl (by decide) in_X12 rfl (by rw [hM]; exact wFL_X12_40) (fun ρ => rfl) hdg kk
theorem pf_X12_40 {M : jMM} {d : Nat} {w w' : jWd} {pc : Nat} {lv : List (Nat × Value)} {st : List Value} {o : Option Value} (hM : M.1 = RX12) {c : Nat} {x : Int32} (hkd : kd c = 11) (hdg : decode M.2.1 pc = .ok (.putfield 40, 3)) (kk : J M d (sI w c 20 x) (pc + 3) lv st o w') : J M d w pc lv (.int x :: .ref c :: st) o w' :=
  jr_put (k := 20) (T := TX12) (ty0 := tyX12) hkd (by decide) rfl (by decide) in_X12 tyX12_ok nmX12 rfl rfl rfl (by rw [hM]; exact wFL_X12_40) (fun ρ => by simp [jfl, wI_sI]) (fun ρ => by simp [jfl]) hdg kk
theorem wFL_X12_43 : Cond.fieldLink RX12 43 RX12 (TX12 21).2.1 (TX12 21).2.2.1 ∈ jT := jT_in (i := 1339) (by decide +kernel) (by decide +kernel)
theorem gf_X12_43 {M : jMM} {d : Nat} {w w' : jWd} {pc : Nat} {lv : List (Nat × Value)} {st : List Value} {o : Option Value} {r : Nat} (hM : M.1 = RX12) {c : Nat} (hkd : kd c = 11) (hr : c + 9 = r) (hdg : decode M.2.1 pc = .ok (.getfield 43, 3)) (kk : J M d w (pc + 3) lv (.ref r :: st) o w') : J M d w pc lv (.ref c :: st) o w' :=
  jr_get (k := 21) (T := TX12) (v := .ref r) hkd (by decide) rfl (by decide) in_X12 rfl (by rw [hM]; exact wFL_X12_43) (fun ρ => by subst hr; rfl) hdg kk
theorem wFL_X12_46 : Cond.fieldLink RX12 46 RX12 (TX12 22).2.1 (TX12 22).2.2.1 ∈ jT := jT_in (i := 1340) (by decide +kernel) (by decide +kernel)
theorem gf_X12_46 {M : jMM} {d : Nat} {w w' : jWd} {pc : Nat} {lv : List (Nat × Value)} {st : List Value} {o : Option Value} {r : Nat} (hM : M.1 = RX12) {c : Nat} (hkd : kd c = 11) (hr : c + 10 = r) (hdg : decode M.2.1 pc = .ok (.getfield 46, 3)) (kk : J M d w (pc + 3) lv (.ref r :: st) o w') : J M d w pc lv (.ref c :: st) o w' :=
  jr_get (k := 22) (T := TX12) (v := .ref r) hkd (by decide) rfl (by decide) in_X12 rfl (by rw [hM]; exact wFL_X12_46) (fun ρ => by subst hr; rfl) hdg kk
theorem wFL_X12_49 : Cond.fieldLink RX12 49 RX12 (TX12 24).2.1 (TX12 24).2.2.1 ∈ jT := jT_in (i := 1342) (by decide +kernel) (by decide +kernel)
theorem gf_X12_49 {M : jMM} {d : Nat} {w w' : jWd} {pc : Nat} {lv : List (Nat × Value)} {st : List Value} {o : Option Value} {r : Nat} (hM : M.1 = RX12) {c : Nat} (hkd : kd c = 11) (hr : c + 11 = r) (hdg : decode M.2.1 pc = .ok (.getfield 49, 3)) (kk : J M d w (pc + 3) lv (.ref r :: st) o w') : J M d w pc lv (.ref c :: st) o w' :=
  jr_get (k := 24) (T := TX12) (v := .ref r) hkd (by decide) rfl (by decide) in_X12 rfl (by rw [hM]; exact wFL_X12_49) (fun ρ => by subst hr; rfl) hdg kk
theorem wFL_X12_52 : Cond.fieldLink RX12 52 RX12 (TX12 26).2.1 (TX12 26).2.2.1 ∈ jT := jT_in (i := 1344) (by decide +kernel) (by decide +kernel)
theorem gf_X12_52 {M : jMM} {d : Nat} {w w' : jWd} {pc : Nat} {lv : List (Nat × Value)} {st : List Value} {o : Option Value} {r : Nat} (hM : M.1 = RX12) {c : Nat} (hkd : kd c = 11) (hr : c + 12 = r) (hdg : decode M.2.1 pc = .ok (.getfield 52, 3)) (kk : J M d w (pc + 3) lv (.ref r :: st) o w') : J M d w pc lv (.ref c :: st) o w' :=
  jr_get (k := 26) (T := TX12) (v := .ref r) hkd (by decide) rfl (by decide) in_X12 rfl (by rw [hM]; exact wFL_X12_52) (fun ρ => by subst hr; rfl) hdg kk
theorem wFL_X12_55 : Cond.fieldLink RX12 55 RX12 (TX12 27).2.1 (TX12 27).2.2.1 ∈ jT := jT_in (i := 1345) (by decide +kernel) (by decide +kernel)
theorem gf_X12_55 {M : jMM} {d : Nat} {w w' : jWd} {pc : Nat} {lv : List (Nat × Value)} {st : List Value} {o : Option Value} {r : Nat} (hM : M.1 = RX12) {c : Nat} (hkd : kd c = 11) (hr : c + 13 = r) (hdg : decode M.2.1 pc = .ok (.getfield 55, 3)) (kk : J M d w (pc + 3) lv (.ref r :: st) o w') : J M d w pc lv (.ref c :: st) o w' :=
  jr_get (k := 27) (T := TX12) (v := .ref r) hkd (by decide) rfl (by decide) in_X12 rfl (by rw [hM]; exact wFL_X12_55) (fun ρ => by subst hr; rfl) hdg kk
theorem wFL_X12_58 : Cond.fieldLink RX12 58 RX12 (TX12 31).2.1 (TX12 31).2.2.1 ∈ jT := jT_in (i := 1349) (by decide +kernel) (by decide +kernel)
theorem gf_X12_58 {M : jMM} {d : Nat} {w w' : jWd} {pc : Nat} {lv : List (Nat × Value)} {st : List Value} {o : Option Value} {r : Nat} (hM : M.1 = RX12) {c : Nat} (hkd : kd c = 11) (hr : c + 14 = r) (hdg : decode M.2.1 pc = .ok (.getfield 58, 3)) (kk : J M d w (pc + 3) lv (.ref r :: st) o w') : J M d w pc lv (.ref c :: st) o w' :=
  jr_get (k := 31) (T := TX12) (v := .ref r) hkd (by decide) rfl (by decide) in_X12 rfl (by rw [hM]; exact wFL_X12_58) (fun ρ => by subst hr; rfl) hdg kk
theorem wFL_X12_61 : Cond.fieldLink RX12 61 RX12 (TX12 34).2.1 (TX12 34).2.2.1 ∈ jT := jT_in (i := 1352) (by decide +kernel) (by decide +kernel)
theorem gf_X12_61 {M : jMM} {d : Nat} {w w' : jWd} {pc : Nat} {lv : List (Nat × Value)} {st : List Value} {o : Option Value} {r : Nat} (hM : M.1 = RX12) {c : Nat} (hkd : kd c = 11) (hr : c + 15 = r) (hdg : decode M.2.1 pc = .ok (.getfield 61, 3)) (kk : J M d w (pc + 3) lv (.ref r :: st) o w') : J M d w pc lv (.ref c :: st) o w' :=
  jr_get (k := 34) (T := TX12) (v := .ref r) hkd (by decide) rfl (by decide) in_X12 rfl (by rw [hM]; exact wFL_X12_61) (fun ρ => by subst hr; rfl) hdg kk
theorem wFL_X12_64 : Cond.fieldLink RX12 64 RX12 (TX12 35).2.1 (TX12 35).2.2.1 ∈ jT := jT_in (i := 1353) (by decide +kernel) (by decide +kernel)
theorem gf_X12_64 {M : jMM} {d : Nat} {w w' : jWd} {pc : Nat} {lv : List (Nat × Value)} {st : List Value} {o : Option Value} {r : Nat} (hM : M.1 = RX12) {c : Nat} (hkd : kd c = 11) (hr : c + 16 = r) (hdg : decode M.2.1 pc = .ok (.getfield 64, 3)) (kk : J M d w (pc + 3) lv (.ref r :: st) o w') : J M d w pc lv (.ref c :: st) o w' :=
  jr_get (k := 35) (T := TX12) (v := .ref r) hkd (by decide) rfl (by decide) in_X12 rfl (by rw [hM]; exact wFL_X12_64) (fun ρ => by subst hr; rfl) hdg kk
theorem wFL_X12_67 : Cond.fieldLink RX12 67 RX12 (TX12 36).2.1 (TX12 36).2.2.1 ∈ jT := jT_in (i := 1354) (by decide +kernel) (by decide +kernel)
theorem gf_X12_67 {M : jMM} {d : Nat} {w w' : jWd} {pc : Nat} {lv : List (Nat × Value)} {st : List Value} {o : Option Value} {r : Nat} (hM : M.1 = RX12) {c : Nat} (hkd : kd c = 11) (hr : c + 17 = r) (hdg : decode M.2.1 pc = .ok (.getfield 67, 3)) (kk : J M d w (pc + 3) lv (.ref r :: st) o w') : J M d w pc lv (.ref c :: st) o w' :=
  jr_get (k := 36) (T := TX12) (v := .ref r) hkd (by decide) rfl (by decide) in_X12 rfl (by rw [hM]; exact wFL_X12_67) (fun ρ => by subst hr; rfl) hdg kk
theorem wFL_X12_70 : Cond.fieldLink RX12 70 RX12 (TX12 37).2.1 (TX12 37).2.2.1 ∈ jT := jT_in (i := 1355) (by decide +kernel) (by decide +kernel)
theorem gf_X12_70 {M : jMM} {d : Nat} {w w' : jWd} {pc : Nat} {lv : List (Nat × Value)} {st : List Value} {o : Option Value} {r : Nat} (hM : M.1 = RX12) {c : Nat} (hkd : kd c = 11) (hr : c + 18 = r) (hdg : decode M.2.1 pc = .ok (.getfield 70, 3)) (kk : J M d w (pc + 3) lv (.ref r :: st) o w') : J M d w pc lv (.ref c :: st) o w' :=
  jr_get (k := 37) (T := TX12) (v := .ref r) hkd (by decide) rfl (by decide) in_X12 rfl (by rw [hM]; exact wFL_X12_70) (fun ρ => by subst hr; rfl) hdg kk
theorem wFL_X12_115 : Cond.fieldLink RX12 115 RX12 (TX12 9).2.1 (TX12 9).2.2.1 ∈ jT := jT_in (i := 1327) (by decide +kernel) (by decide +kernel)
theorem gf_X12_115 {M : jMM} {d : Nat} {w w' : jWd} {pc : Nat} {lv : List (Nat × Value)} {st : List Value} {o : Option Value} (hM : M.1 = RX12) {c : Nat} (hkd : kd c = 11) (hdg : decode M.2.1 pc = .ok (.getfield 115, 3)) (kk : J M d w (pc + 3) lv (.int (wI w c 9) :: st) o w') : J M d w pc lv (.ref c :: st) o w' :=
  jr_get (k := 9) (T := TX12) (v := .int (wI w c 9)) hkd (by decide) rfl (by decide) in_X12 rfl (by rw [hM]; exact wFL_X12_115) (fun ρ => rfl) hdg kk
theorem pf_X12_115 {M : jMM} {d : Nat} {w w' : jWd} {pc : Nat} {lv : List (Nat × Value)} {st : List Value} {o : Option Value} (hM : M.1 = RX12) {c : Nat} {x : Int32} (hkd : kd c = 11) (hdg : decode M.2.1 pc = .ok (.putfield 115, 3)) (kk : J M d (sI w c 9 x) (pc + 3) lv st o w') : J M d w pc lv (.int x :: .ref c :: st) o w' :=
  jr_put (k := 9) (T := TX12) (ty0 := tyX12) hkd (by decide) rfl (by decide) in_X12 tyX12_ok nmX12 rfl rfl rfl (by rw [hM]; exact wFL_X12_115) (fun ρ => by simp [jfl, wI_sI]) (fun ρ => by simp [jfl]) hdg kk
theorem wFL_X12_118 : Cond.fieldLink RX12 118 RX12 (TX12 12).2.1 (TX12 12).2.2.1 ∈ jT := jT_in (i := 1330) (by decide +kernel) (by decide +kernel)
theorem gf_X12_118 {M : jMM} {d : Nat} {w w' : jWd} {pc : Nat} {lv : List (Nat × Value)} {st : List Value} {o : Option Value} (hM : M.1 = RX12) {c : Nat} (hkd : kd c = 11) (hdg : decode M.2.1 pc = .ok (.getfield 118, 3)) (kk : J M d w (pc + 3) lv (.int (wI w c 12) :: st) o w') : J M d w pc lv (.ref c :: st) o w' :=
  jr_get (k := 12) (T := TX12) (v := .int (wI w c 12)) hkd (by decide) rfl (by decide) in_X12 rfl (by rw [hM]; exact wFL_X12_118) (fun ρ => rfl) hdg kk
theorem pf_X12_118 {M : jMM} {d : Nat} {w w' : jWd} {pc : Nat} {lv : List (Nat × Value)} {st : List Value} {o : Option Value} (hM : M.1 = RX12) {c : Nat} {x : Int32} (hkd : kd c = 11) (hdg : decode M.2.1 pc = .ok (.putfield 118, 3)) (kk : J M d (sI w c 12 x) (pc + 3) lv st o w') : J M d w pc lv (.int x :: .ref c :: st) o w' :=
  jr_put (k := 12) (T := TX12) (ty0 := tyX12) hkd (by decide) rfl (by decide) in_X12 tyX12_ok nmX12 rfl rfl rfl (by rw [hM]; exact wFL_X12_118) (fun ρ => by simp [jfl, wI_sI]) (fun ρ => by simp [jfl]) hdg kk
theorem wFL_X12_133 : Cond.fieldLink RX12 133 RX12 (TX12 10).2.1 (TX12 10).2.2.1 ∈ jT := jT_in (i := 1328) (by decide +kernel) (by decide +kernel)
theorem gf_X12_133 {M : jMM} {d : Nat} {w w' : jWd} {pc : Nat} {lv : List (Nat × Value)} {st : List Value} {o : Option Value} (hM : M.1 = RX12) {c : Nat} (hkd : kd c = 11) (hdg : decode M.2.1 pc = .ok (.getfield 133, 3)) (kk : J M d w (pc + 3) lv (.int (wI w c 10) :: st) o w') : J M d w pc lv (.ref c :: st) o w' :=
  jr_get (k := 10) (T := TX12) (v := .int (wI w c 10)) hkd (by decide) rfl (by decide) in_X12 rfl (by rw [hM]; exact wFL_X12_133) (fun ρ => rfl) hdg kk
theorem pf_X12_133 {M : jMM} {d : Nat} {w w' : jWd} {pc : Nat} {lv : List (Nat × Value)} {st : List Value} {o : Option Value} (hM : M.1 = RX12) {c : Nat} {x : Int32} (hkd : kd c = 11) (hdg : decode M.2.1 pc = .ok (.putfield 133, 3)) (kk : J M d (sI w c 10 x) (pc + 3) lv st o w') : J M d w pc lv (.int x :: .ref c :: st) o w' :=
  jr_put (k := 10) (T := TX12) (ty0 := tyX12) hkd (by decide) rfl (by decide) in_X12 tyX12_ok nmX12 rfl rfl rfl (by rw [hM]; exact wFL_X12_133) (fun ρ => by simp [jfl, wI_sI]) (fun ρ => by simp [jfl]) hdg kk
theorem wFL_X12_136 : Cond.fieldLink RX12 136 RX12 (TX12 11).2.1 (TX12 11).2.2.1 ∈ jT := jT_in (i := 1329) (by decide +kernel) (by decide +kernel)
theorem gf_X12_136 {M : jMM} {d : Nat} {w w' : jWd} {pc : Nat} {lv : List (Nat × Value)} {st : List Value} {o : Option Value} (hM : M.1 = RX12) {c : Nat} (hkd : kd c = 11) (hdg : decode M.2.1 pc = .ok (.getfield 136, 3)) (kk : J M d w (pc + 3) lv (.int (wI w c 11) :: st) o w') : J M d w pc lv (.ref c :: st) o w' :=
  jr_get (k := 11) (T := TX12) (v := .int (wI w c 11)) hkd (by decide) rfl (by decide) in_X12 rfl (by rw [hM]; exact wFL_X12_136) (fun ρ => rfl) hdg kk
theorem pf_X12_136 {M : jMM} {d : Nat} {w w' : jWd} {pc : Nat} {lv : List (Nat × Value)} {st : List Value} {o : Option Value} (hM : M.1 = RX12) {c : Nat} {x : Int32} (hkd : kd c = 11) (hdg : decode M.2.1 pc = .ok (.putfield 136, 3)) (kk : J M d (sI w c 11 x) (pc + 3) lv st o w') : J M d w pc lv (.int x :: .ref c :: st) o w' :=
  jr_put (k := 11) (T := TX12) (ty0 := tyX12) hkd (by decide) rfl (by decide) in_X12 tyX12_ok nmX12 rfl rfl rfl (by rw [hM]; exact wFL_X12_136) (fun ρ => by simp [jfl, wI_sI]) (fun ρ => by simp [jfl]) hdg kk
theorem wFL_X12_142 : Cond.fieldLink RX12 142 RX12 (TX12 13).2.1 (TX12 13).2.2.1 ∈ jT := jT_in (i := 1331) (by decide +kernel) (by decide +kernel)
theorem gf_X12_142 {M : jMM} {d : Nat} {w w' : jWd} {pc : Nat} {lv : List (Nat × Value)} {st : List Value} {o : Option Value} (hM : M.1 = RX12) {c : Nat} (hkd : kd c = 11) (hdg : decode M.2.1 pc = .ok (.getfield 142, 3)) (kk : J M d w (pc + 3) lv (.int (wI w c 13) :: st) o w') : J M d w pc lv (.ref c :: st) o w' :=
  jr_get (k := 13) (T := TX12) (v := .int (wI w c 13)) hkd (by decide) rfl (by decide) in_X12 rfl (by rw [hM]; exact wFL_X12_142) (fun ρ => rfl) hdg kk
theorem pf_X12_142 {M : jMM} {d : Nat} {w w' : jWd} {pc : Nat} {lv : List (Nat × Value)} {st : List Value} {o : Option Value} (hM : M.1 = RX12) {c : Nat} {x : Int32} (hkd : kd c = 11) (hdg : decode M.2.1 pc = .ok (.putfield 142, 3)) (kk : J M d (sI w c 13 x) (pc + 3) lv st o w') : J M d w pc lv (.int x :: .ref c :: st) o w' :=
  jr_put (k := 13) (T := TX12) (ty0 := tyX12) hkd (by decide) rfl (by decide) in_X12 tyX12_ok nmX12 rfl rfl rfl (by rw [hM]; exact wFL_X12_142) (fun ρ => by simp [jfl, wI_sI]) (fun ρ => by simp [jfl]) hdg kk
theorem wFL_X12_155 : Cond.fieldLink RX12 155 RX12 (TX12 14).2.1 (TX12 14).2.2.1 ∈ jT := jT_in (i := 1332) (by decide +kernel) (by decide +kernel)
theorem gf_X12_155 {M : jMM} {d : Nat} {w w' : jWd} {pc : Nat} {lv : List (Nat × Value)} {st : List Value} {o : Option Value} (hM : M.1 = RX12) {c : Nat} (hkd : kd c = 11) (hdg : decode M.2.1 pc = .ok (.getfield 155, 3)) (kk : J M d w (pc + 3) lv (.int (wI w c 14) :: st) o w') : J M d w pc lv (.ref c :: st) o w' :=
  jr_get (k := 14) (T := TX12) (v := .int (wI w c 14)) hkd (by decide) rfl (by decide) in_X12 rfl (by rw [hM]; exact wFL_X12_155) (fun ρ => rfl) hdg kk
theorem pf_X12_155 {M : jMM} {d : Nat} {w w' : jWd} {pc : Nat} {lv : List (Nat × Value)} {st : List Value} {o : Option Value} (hM : M.1 = RX12) {c : Nat} {x : Int32} (hkd : kd c = 11) (hdg : decode M.2.1 pc = .ok (.putfield 155, 3)) (kk : J M d (sI w c 14 x) (pc + 3) lv st o w') : J M d w pc lv (.int x :: .ref c :: st) o w' :=
  jr_put (k := 14) (T := TX12) (ty0 := tyX12) hkd (by decide) rfl (by decide) in_X12 tyX12_ok nmX12 rfl rfl rfl (by rw [hM]; exact wFL_X12_155) (fun ρ => by simp [jfl, wI_sI]) (fun ρ => by simp [jfl]) hdg kk
theorem wFL_X12_158 : Cond.fieldLink RX12 158 RX12 (TX12 15).2.1 (TX12 15).2.2.1 ∈ jT := jT_in (i := 1333) (by decide +kernel) (by decide +kernel)
theorem gf_X12_158 {M : jMM} {d : Nat} {w w' : jWd} {pc : Nat} {lv : List (Nat × Value)} {st : List Value} {o : Option Value} (hM : M.1 = RX12) {c : Nat} (hkd : kd c = 11) (hdg : decode M.2.1 pc = .ok (.getfield 158, 3)) (kk : J M d w (pc + 3) lv (.int (wI w c 15) :: st) o w') : J M d w pc lv (.ref c :: st) o w' :=
  jr_get (k := 15) (T := TX12) (v := .int (wI w c 15)) hkd (by decide) rfl (by decide) in_X12 rfl (by rw [hM]; exact wFL_X12_158) (fun ρ => rfl) hdg kk
theorem pf_X12_158 {M : jMM} {d : Nat} {w w' : jWd} {pc : Nat} {lv : List (Nat × Value)} {st : List Value} {o : Option Value} (hM : M.1 = RX12) {c : Nat} {x : Int32} (hkd : kd c = 11) (hdg : decode M.2.1 pc = .ok (.putfield 158, 3)) (kk : J M d (sI w c 15 x) (pc + 3) lv st o w') : J M d w pc lv (.int x :: .ref c :: st) o w' :=
  jr_put (k := 15) (T := TX12) (ty0 := tyX12) hkd (by decide) rfl (by decide) in_X12 tyX12_ok nmX12 rfl rfl rfl (by rw [hM]; exact wFL_X12_158) (fun ρ => by simp [jfl, wI_sI]) (fun ρ => by simp [jfl]) hdg kk
theorem wFL_X12_161 : Cond.fieldLink RX12 161 RX12 (TX12 16).2.1 (TX12 16).2.2.1 ∈ jT := jT_in (i := 1334) (by decide +kernel) (by decide +kernel)
theorem gf_X12_161 {M : jMM} {d : Nat} {w w' : jWd} {pc : Nat} {lv : List (Nat × Value)} {st : List Value} {o : Option Value} (hM : M.1 = RX12) {c : Nat} (hkd : kd c = 11) (hdg : decode M.2.1 pc = .ok (.getfield 161, 3)) (kk : J M d w (pc + 3) lv (.int (wI w c 16) :: st) o w') : J M d w pc lv (.ref c :: st) o w' :=
  jr_get (k := 16) (T := TX12) (v := .int (wI w c 16)) hkd (by decide) rfl (by decide) in_X12 rfl (by rw [hM]; exact wFL_X12_161) (fun ρ => rfl) hdg kk
theorem pf_X12_161 {M : jMM} {d : Nat} {w w' : jWd} {pc : Nat} {lv : List (Nat × Value)} {st : List Value} {o : Option Value} (hM : M.1 = RX12) {c : Nat} {x : Int32} (hkd : kd c = 11) (hdg : decode M.2.1 pc = .ok (.putfield 161, 3)) (kk : J M d (sI w c 16 x) (pc + 3) lv st o w') : J M d w pc lv (.int x :: .ref c :: st) o w' :=
  jr_put (k := 16) (T := TX12) (ty0 := tyX12) hkd (by decide) rfl (by decide) in_X12 tyX12_ok nmX12 rfl rfl rfl (by rw [hM]; exact wFL_X12_161) (fun ρ => by simp [jfl, wI_sI]) (fun ρ => by simp [jfl]) hdg kk
theorem wFL_X12_177 : Cond.fieldLink RX12 177 RX12 (TX12 18).2.1 (TX12 18).2.2.1 ∈ jT := jT_in (i := 1336) (by decide +kernel) (by decide +kernel)
theorem gf_X12_177 {M : jMM} {d : Nat} {w w' : jWd} {pc : Nat} {lv : List (Nat × Value)} {st : List Value} {o : Option Value} (hM : M.1 = RX12) {c : Nat} (hkd : kd c = 11) (hdg : decode M.2.1 pc = .ok (.getfield 177, 3)) (kk : J M d w (pc + 3) lv (.int (wI w c 18) :: st) o w') : J M d w pc lv (.ref c :: st) o w' :=
  jr_get (k := 18) (T := TX12) (v := .int (wI w c 18)) hkd (by decide) rfl (by decide) in_X12 rfl (by rw [hM]; exact wFL_X12_177) (fun ρ => rfl) hdg kk
theorem pf_X12_177 {M : jMM} {d : Nat} {w w' : jWd} {pc : Nat} {lv : List (Nat × Value)} {st : List Value} {o : Option Value} (hM : M.1 = RX12) {c : Nat} {x : Int32} (hkd : kd c = 11) (hdg : decode M.2.1 pc = .ok (.putfield 177, 3)) (kk : J M d (sI w c 18 x) (pc + 3) lv st o w') : J M d w pc lv (.int x :: .ref c :: st) o w' :=
  jr_put (k := 18) (T := TX12) (ty0 := tyX12) hkd (by decide) rfl (by decide) in_X12 tyX12_ok nmX12 rfl rfl rfl (by rw [hM]; exact wFL_X12_177) (fun ρ => by simp [jfl, wI_sI]) (fun ρ => by simp [jfl]) hdg kk
theorem wFL_X12_190 : Cond.fieldLink RX12 190 RX12 (TX12 17).2.1 (TX12 17).2.2.1 ∈ jT := jT_in (i := 1335) (by decide +kernel) (by decide +kernel)
theorem gf_X12_190 {M : jMM} {d : Nat} {w w' : jWd} {pc : Nat} {lv : List (Nat × Value)} {st : List Value} {o : Option Value} (hM : M.1 = RX12) {c : Nat} (hkd : kd c = 11) (hdg : decode M.2.1 pc = .ok (.getfield 190, 3)) (kk : J M d w (pc + 3) lv (.int (wI w c 17) :: st) o w') : J M d w pc lv (.ref c :: st) o w' :=
  jr_get (k := 17) (T := TX12) (v := .int (wI w c 17)) hkd (by decide) rfl (by decide) in_X12 rfl (by rw [hM]; exact wFL_X12_190) (fun ρ => rfl) hdg kk
theorem pf_X12_190 {M : jMM} {d : Nat} {w w' : jWd} {pc : Nat} {lv : List (Nat × Value)} {st : List Value} {o : Option Value} (hM : M.1 = RX12) {c : Nat} {x : Int32} (hkd : kd c = 11) (hdg : decode M.2.1 pc = .ok (.putfield 190, 3)) (kk : J M d (sI w c 17 x) (pc + 3) lv st o w') : J M d w pc lv (.int x :: .ref c :: st) o w' :=
  jr_put (k := 17) (T := TX12) (ty0 := tyX12) hkd (by decide) rfl (by decide) in_X12 tyX12_ok nmX12 rfl rfl rfl (by rw [hM]; exact wFL_X12_190) (fun ρ => by simp [jfl, wI_sI]) (fun ρ => by simp [jfl]) hdg kk
theorem wFL_X12_217 : Cond.fieldLink RX12 217 RX12 (TX12 19).2.1 (TX12 19).2.2.1 ∈ jT := jT_in (i := 1337) (by decide +kernel) (by decide +kernel)
theorem gf_X12_217 {M : jMM} {d : Nat} {w w' : jWd} {pc : Nat} {lv : List (Nat × Value)} {st : List Value} {o : Option Value} (hM : M.1 = RX12) {c : Nat} (hkd : kd c = 11) (hdg : decode M.2.1 pc = .ok (.getfield 217, 3)) (kk : J M d w (pc + 3) lv (.int (wI w c 19) :: st) o w') : J M d w pc lv (.ref c :: st) o w' :=
  jr_get (k := 19) (T := TX12) (v := .int (wI w c 19)) hkd (by decide) rfl (by decide) in_X12 rfl (by rw [hM]; exact wFL_X12_217) (fun ρ => rfl) hdg kk
theorem pf_X12_217 {M : jMM} {d : Nat} {w w' : jWd} {pc : Nat} {lv : List (Nat × Value)} {st : List Value} {o : Option Value} (hM : M.1 = RX12) {c : Nat} {x : Int32} (hkd : kd c = 11) (hdg : decode M.2.1 pc = .ok (.putfield 217, 3)) (kk : J M d (sI w c 19 x) (pc + 3) lv st o w') : J M d w pc lv (.int x :: .ref c :: st) o w' :=
  jr_put (k := 19) (T := TX12) (ty0 := tyX12) hkd (by decide) rfl (by decide) in_X12 tyX12_ok nmX12 rfl rfl rfl (by rw [hM]; exact wFL_X12_217) (fun ρ => by simp [jfl, wI_sI]) (fun ρ => by simp [jfl]) hdg kk
theorem wFL_X12_220 : Cond.fieldLink RX12 220 RX12 (TX12 23).2.1 (TX12 23).2.2.1 ∈ jT := jT_in (i := 1341) (by decide +kernel) (by decide +kernel)
theorem gf_X12_220 {M : jMM} {d : Nat} {w w' : jWd} {pc : Nat} {lv : List (Nat × Value)} {st : List Value} {o : Option Value} (hM : M.1 = RX12) {c : Nat} (hkd : kd c = 11) (hdg : decode M.2.1 pc = .ok (.getfield 220, 3)) (kk : J M d w (pc + 3) lv (.int (wI w c 23) :: st) o w') : J M d w pc lv (.ref c :: st) o w' :=
  jr_get (k := 23) (T := TX12) (v := .int (wI w c 23)) hkd (by decide) rfl (by decide) in_X12 rfl (by rw [hM]; exact wFL_X12_220) (fun ρ => rfl) hdg kk
theorem pf_X12_220 {M : jMM} {d : Nat} {w w' : jWd} {pc : Nat} {lv : List (Nat × Value)} {st : List Value} {o : Option Value} (hM : M.1 = RX12) {c : Nat} {x : Int32} (hkd : kd c = 11) (hdg : decode M.2.1 pc = .ok (.putfield 220, 3)) (kk : J M d (sI w c 23 x) (pc + 3) lv st o w') : J M d w pc lv (.int x :: .ref c :: st) o w' :=
  jr_put (k := 23) (T := TX12) (ty0 := tyX12) hkd (by decide) rfl (by decide) in_X12 tyX12_ok nmX12 rfl rfl rfl (by rw [hM]; exact wFL_X12_220) (fun ρ => by simp [jfl, wI_sI]) (fun ρ => by simp [jfl]) hdg kk
theorem wFL_X12_241 : Cond.fieldLink RX12 241 RX12 (TX12 25).2.1 (TX12 25).2.2.1 ∈ jT := jT_in (i := 1343) (by decide +kernel) (by decide +kernel)
theorem gf_X12_241 {M : jMM} {d : Nat} {w w' : jWd} {pc : Nat} {lv : List (Nat × Value)} {st : List Value} {o : Option Value} (hM : M.1 = RX12) {c : Nat} (hkd : kd c = 11) (hdg : decode M.2.1 pc = .ok (.getfield 241, 3)) (kk : J M d w (pc + 3) lv (.int (wI w c 25) :: st) o w') : J M d w pc lv (.ref c :: st) o w' :=
  jr_get (k := 25) (T := TX12) (v := .int (wI w c 25)) hkd (by decide) rfl (by decide) in_X12 rfl (by rw [hM]; exact wFL_X12_241) (fun ρ => rfl) hdg kk
theorem pf_X12_241 {M : jMM} {d : Nat} {w w' : jWd} {pc : Nat} {lv : List (Nat × Value)} {st : List Value} {o : Option Value} (hM : M.1 = RX12) {c : Nat} {x : Int32} (hkd : kd c = 11) (hdg : decode M.2.1 pc = .ok (.putfield 241, 3)) (kk : J M d (sI w c 25 x) (pc + 3) lv st o w') : J M d w pc lv (.int x :: .ref c :: st) o w' :=
  jr_put (k := 25) (T := TX12) (ty0 := tyX12) hkd (by decide) rfl (by decide) in_X12 tyX12_ok nmX12 rfl rfl rfl (by rw [hM]; exact wFL_X12_241) (fun ρ => by simp [jfl, wI_sI]) (fun ρ => by simp [jfl]) hdg kk
theorem wFL_X12_253 : Cond.fieldLink RX12 253 RX12 (TX12 28).2.1 (TX12 28).2.2.1 ∈ jT := jT_in (i := 1346) (by decide +kernel) (by decide +kernel)
theorem gf_X12_253 {M : jMM} {d : Nat} {w w' : jWd} {pc : Nat} {lv : List (Nat × Value)} {st : List Value} {o : Option Value} (hM : M.1 = RX12) {c : Nat} (hkd : kd c = 11) (hdg : decode M.2.1 pc = .ok (.getfield 253, 3)) (kk : J M d w (pc + 3) lv (.int (wI w c 28) :: st) o w') : J M d w pc lv (.ref c :: st) o w' :=
  jr_get (k := 28) (T := TX12) (v := .int (wI w c 28)) hkd (by decide) rfl (by decide) in_X12 rfl (by rw [hM]; exact wFL_X12_253) (fun ρ => rfl) hdg kk
theorem pf_X12_253 {M : jMM} {d : Nat} {w w' : jWd} {pc : Nat} {lv : List (Nat × Value)} {st : List Value} {o : Option Value} (hM : M.1 = RX12) {c : Nat} {x : Int32} (hkd : kd c = 11) (hdg : decode M.2.1 pc = .ok (.putfield 253, 3)) (kk : J M d (sI w c 28 x) (pc + 3) lv st o w') : J M d w pc lv (.int x :: .ref c :: st) o w' :=
  jr_put (k := 28) (T := TX12) (ty0 := tyX12) hkd (by decide) rfl (by decide) in_X12 tyX12_ok nmX12 rfl rfl rfl (by rw [hM]; exact wFL_X12_253) (fun ρ => by simp [jfl, wI_sI]) (fun ρ => by simp [jfl]) hdg kk
theorem wFL_X12_256 : Cond.fieldLink RX12 256 RX12 (TX12 29).2.1 (TX12 29).2.2.1 ∈ jT := jT_in (i := 1347) (by decide +kernel) (by decide +kernel)
theorem gf_X12_256 {M : jMM} {d : Nat} {w w' : jWd} {pc : Nat} {lv : List (Nat × Value)} {st : List Value} {o : Option Value} (hM : M.1 = RX12) {c : Nat} (hkd : kd c = 11) (hdg : decode M.2.1 pc = .ok (.getfield 256, 3)) (kk : J M d w (pc + 3) lv (.int (wI w c 29) :: st) o w') : J M d w pc lv (.ref c :: st) o w' :=
  jr_get (k := 29) (T := TX12) (v := .int (wI w c 29)) hkd (by decide) rfl (by decide) in_X12 rfl (by rw [hM]; exact wFL_X12_256) (fun ρ => rfl) hdg kk
theorem pf_X12_256 {M : jMM} {d : Nat} {w w' : jWd} {pc : Nat} {lv : List (Nat × Value)} {st : List Value} {o : Option Value} (hM : M.1 = RX12) {c : Nat} {x : Int32} (hkd : kd c = 11) (hdg : decode M.2.1 pc = .ok (.putfield 256, 3)) (kk : J M d (sI w c 29 x) (pc + 3) lv st o w') : J M d w pc lv (.int x :: .ref c :: st) o w' :=
  jr_put (k := 29) (T := TX12) (ty0 := tyX12) hkd (by decide) rfl (by decide) in_X12 tyX12_ok nmX12 rfl rfl rfl (by rw [hM]; exact wFL_X12_256) (fun ρ => by simp [jfl, wI_sI]) (fun ρ => by simp [jfl]) hdg kk
theorem wFL_X12_266 : Cond.fieldLink RX12 266 RX12 (TX12 30).2.1 (TX12 30).2.2.1 ∈ jT := jT_in (i := 1348) (by decide +kernel) (by decide +kernel)
theorem gf_X12_266 {M : jMM} {d : Nat} {w w' : jWd} {pc : Nat} {lv : List (Nat × Value)} {st : List Value} {o : Option Value} (hM : M.1 = RX12) {c : Nat} (hkd : kd c = 11) (hdg : decode M.2.1 pc = .ok (.getfield 266, 3)) (kk : J M d w (pc + 3) lv (.int (wI w c 30) :: st) o w') : J M d w pc lv (.ref c :: st) o w' :=
  jr_get (k := 30) (T := TX12) (v := .int (wI w c 30)) hkd (by decide) rfl (by decide) in_X12 rfl (by rw [hM]; exact wFL_X12_266) (fun ρ => rfl) hdg kk
theorem pf_X12_266 {M : jMM} {d : Nat} {w w' : jWd} {pc : Nat} {lv : List (Nat × Value)} {st : List Value} {o : Option Value} (hM : M.1 = RX12) {c : Nat} {x : Int32} (hkd : kd c = 11) (hdg : decode M.2.1 pc = .ok (.putfield 266, 3)) (kk : J M d (sI w c 30 x) (pc + 3) lv st o w') : J M d w pc lv (.int x :: .ref c :: st) o w' :=
  jr_put (k := 30) (T := TX12) (ty0 := tyX12) hkd (by decide) rfl (by decide) in_X12 tyX12_ok nmX12 rfl rfl rfl (by rw [hM]; exact wFL_X12_266) (fun ρ => by simp [jfl, wI_sI]) (fun ρ => by simp [jfl]) hdg kk
theorem wFL_X12_288 : Cond.fieldLink RX12 288 RX12 (TX12 32).2.1 (TX12 32).2.2.1 ∈ jT := jT_in (i := 1350) (by decide +kernel) (by decide +kernel)
theorem gf_X12_288 {M : jMM} {d : Nat} {w w' : jWd} {pc : Nat} {lv : List (Nat × Value)} {st : List Value} {o : Option Value} (hM : M.1 = RX12) {c : Nat} (hkd : kd c = 11) (hdg : decode M.2.1 pc = .ok (.getfield 288, 3)) (kk : J M d w (pc + 3) lv (.int (wI w c 32) :: st) o w') : J M d w pc lv (.ref c :: st) o w' :=
  jr_get (k := 32) (T := TX12) (v := .int (wI w c 32)) hkd (by decide) rfl (by decide) in_X12 rfl (by rw [hM]; exact wFL_X12_288) (fun ρ => rfl) hdg kk
theorem pf_X12_288 {M : jMM} {d : Nat} {w w' : jWd} {pc : Nat} {lv : List (Nat × Value)} {st : List Value} {o : Option Value} (hM : M.1 = RX12) {c : Nat} {x : Int32} (hkd : kd c = 11) (hdg : decode M.2.1 pc = .ok (.putfield 288, 3)) (kk : J M d (sI w c 32 x) (pc + 3) lv st o w') : J M d w pc lv (.int x :: .ref c :: st) o w' :=
  jr_put (k := 32) (T := TX12) (ty0 := tyX12) hkd (by decide) rfl (by decide) in_X12 tyX12_ok nmX12 rfl rfl rfl (by rw [hM]; exact wFL_X12_288) (fun ρ => by simp [jfl, wI_sI]) (fun ρ => by simp [jfl]) hdg kk
theorem wFL_X12_291 : Cond.fieldLink RX12 291 RX12 (TX12 33).2.1 (TX12 33).2.2.1 ∈ jT := jT_in (i := 1351) (by decide +kernel) (by decide +kernel)
theorem gf_X12_291 {M : jMM} {d : Nat} {w w' : jWd} {pc : Nat} {lv : List (Nat × Value)} {st : List Value} {o : Option Value} (hM : M.1 = RX12) {c : Nat} (hkd : kd c = 11) (hdg : decode M.2.1 pc = .ok (.getfield 291, 3)) (kk : J M d w (pc + 3) lv (.int (wI w c 33) :: st) o w') : J M d w pc lv (.ref c :: st) o w' :=
  jr_get (k := 33) (T := TX12) (v := .int (wI w c 33)) hkd (by decide) rfl (by decide) in_X12 rfl (by rw [hM]; exact wFL_X12_291) (fun ρ => rfl) hdg kk
theorem pf_X12_291 {M : jMM} {d : Nat} {w w' : jWd} {pc : Nat} {lv : List (Nat × Value)} {st : List Value} {o : Option Value} (hM : M.1 = RX12) {c : Nat} {x : Int32} (hkd : kd c = 11) (hdg : decode M.2.1 pc = .ok (.putfield 291, 3)) (kk : J M d (sI w c 33 x) (pc + 3) lv st o w') : J M d w pc lv (.int x :: .ref c :: st) o w' :=
  jr_put (k := 33) (T := TX12) (ty0 := tyX12) hkd (by decide) rfl (by decide) in_X12 tyX12_ok nmX12 rfl rfl rfl (by rw [hM]; exact wFL_X12_291) (fun ρ => by simp [jfl, wI_sI]) (fun ρ => by simp [jfl]) hdg kk
