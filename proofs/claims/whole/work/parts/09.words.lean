/-! WORDS OF THE TABLES: methods, links, fields (by program: wip/whole/gen/genwords.py) -/
theorem jT_t1 {w : Cond} {i : Nat} (h : tables_1_1[i]? = some w) (hg : goodWord w = true) : w ∈ jT := by
  have h := List.mem_of_getElem? h
  exact List.mem_filter.mpr ⟨List.mem_append_right (k2_sels lw_privs) (List.mem_append_left _ h : w ∈ tables_1), hg⟩
theorem jT_t2 {w : Cond} {i : Nat} (h : tables_1_2[i]? = some w) (hg : goodWord w = true) : w ∈ jT := by
  have h := List.mem_of_getElem? h
  exact List.mem_filter.mpr ⟨List.mem_append_right (k2_sels lw_privs) (List.mem_append_right _ (List.mem_append_left _ h) : w ∈ tables_1), hg⟩
theorem jT_t3 {w : Cond} {i : Nat} (h : tables_1_3[i]? = some w) (hg : goodWord w = true) : w ∈ jT := by
  have h := List.mem_of_getElem? h
  exact List.mem_filter.mpr ⟨List.mem_append_right (k2_sels lw_privs) (List.mem_append_right _ (List.mem_append_right _ (List.mem_append_left _ h)) : w ∈ tables_1), hg⟩
theorem jT_t4 {w : Cond} {i : Nat} (h : tables_1_4[i]? = some w) (hg : goodWord w = true) : w ∈ jT := by
  have h := List.mem_of_getElem? h
  exact List.mem_filter.mpr ⟨List.mem_append_right (k2_sels lw_privs) (List.mem_append_right _ (List.mem_append_right _ (List.mem_append_right _ (List.mem_append_left _ h))) : w ∈ tables_1), hg⟩
theorem jT_t5 {w : Cond} {i : Nat} (h : tables_1_5[i]? = some w) (hg : goodWord w = true) : w ∈ jT := by
  have h := List.mem_of_getElem? h
  exact List.mem_filter.mpr ⟨List.mem_append_right (k2_sels lw_privs) (List.mem_append_right _ (List.mem_append_right _ (List.mem_append_right _ (List.mem_append_right _ (List.mem_append_left _ h)))) : w ∈ tables_1), hg⟩
theorem jT_t6 {w : Cond} {i : Nat} (h : tables_1_6[i]? = some w) (hg : goodWord w = true) : w ∈ jT := by
  have h := List.mem_of_getElem? h
  exact List.mem_filter.mpr ⟨List.mem_append_right (k2_sels lw_privs) (List.mem_append_right _ (List.mem_append_right _ (List.mem_append_right _ (List.mem_append_right _ (List.mem_append_right _ (List.mem_append_left _ h))))) : w ∈ tables_1), hg⟩
theorem jT_t7 {w : Cond} {i : Nat} (h : tables_1_7[i]? = some w) (hg : goodWord w = true) : w ∈ jT := by
  have h := List.mem_of_getElem? h
  exact List.mem_filter.mpr ⟨List.mem_append_right (k2_sels lw_privs) (List.mem_append_right _ (List.mem_append_right _ (List.mem_append_right _ (List.mem_append_right _ (List.mem_append_right _ (List.mem_append_right _ (List.mem_append_left _ h)))))) : w ∈ tables_1), hg⟩
theorem jT_t8 {w : Cond} {i : Nat} (h : tables_1_8[i]? = some w) (hg : goodWord w = true) : w ∈ jT := by
  have h := List.mem_of_getElem? h
  exact List.mem_filter.mpr ⟨List.mem_append_right (k2_sels lw_privs) (List.mem_append_right _ (List.mem_append_right _ (List.mem_append_right _ (List.mem_append_right _ (List.mem_append_right _ (List.mem_append_right _ (List.mem_append_right _ (h))))))) : w ∈ tables_1), hg⟩
abbrev MJ0_charAt_5068e : jMM := (RJ0, cJ0_charAt_5068e, 2, (some .char))
abbrev MJ0_checkIndex_df160 : jMM := (RJ0, cJ0_checkIndex_df160, 2, none)
abbrev MJ0_coder_7d493 : jMM := (RJ0, cJ0_coder_7d493, 1, (some .byte))
abbrev MJ0_isLatin1_aae02 : jMM := (RJ0, cJ0_isLatin1_aae02, 1, (some .boolean))
abbrev MJ0_length_8abf5 : jMM := (RJ0, cJ0_length_8abf5, 1, (some .int))
abbrev MJ1_charAt_3b067 : jMM := (RJ1, cJ1_charAt_3b067, 2, (some .char))
abbrev MJ3_checkIndex_8e157 : jMM := (RJ3, cJ3_checkIndex_8e157, 3, (some .int))
abbrev MJ6_bitCount_0f7a4 : jMM := (RJ6, cJ6_bitCount_0f7a4, 1, (some .int))
abbrev MJ7_fill_53178 : jMM := (RJ7, cJ7_fill_53178, 4, none)
abbrev MJ7_fill_bad5a : jMM := (RJ7, cJ7_fill_bad5a, 6, none)
abbrev MJ7_rangeCheck_23922 : jMM := (RJ7, cJ7_rangeCheck_23922, 3, none)
abbrev MJ9_max_7cf53 : jMM := (RJ9, cJ9_max_7cf53, 2, (some .int))
abbrev MJ9_max_f86c9 : jMM := (RJ9, cJ9_max_f86c9, 4, (some .long))
abbrev MJ9_min_7cf53 : jMM := (RJ9, cJ9_min_7cf53, 2, (some .int))
abbrev MX0_copy : jMM := (RX0, cX0_copy, 2, none)
abbrev MX0_greatest : jMM := (RX0, cX0_greatest, 1, (some .int))
abbrev MX0_has : jMM := (RX0, cX0_has, 2, (some .boolean))
abbrev MX0_hear : jMM := (RX0, cX0_hear, 6, none)
abbrev MX0_heard : jMM := (RX0, cX0_heard, 3, (some .int))
abbrev MX0_room : jMM := (RX0, cX0_room, 1, (some .int))
abbrev MX0_start : jMM := (RX0, cX0_start, 4, (some .int))
abbrev MX10_copy : jMM := (RX10, cX10_copy, 2, none)
abbrev MX10_costOfParts : jMM := (RX10, cX10_costOfParts, 6, (some .int))
abbrev MX10_gatherSayings : jMM := (RX10, cX10_gatherSayings, 4, none)
abbrev MX10_has : jMM := (RX10, cX10_has, 2, (some .boolean))
abbrev MX10_hasAll : jMM := (RX10, cX10_hasAll, 2, (some .boolean))
abbrev MX10_start : jMM := (RX10, cX10_start, 2, (some .int))
abbrev MX10_tell : jMM := (RX10, cX10_tell, 6, (some .int))
abbrev MX10_weigh : jMM := (RX10, cX10_weigh, 3, none)
abbrev MX10_weighOne : jMM := (RX10, cX10_weighOne, 5, none)
abbrev MX10_weightOf : jMM := (RX10, cX10_weightOf, 4, (some .int))
abbrev MX11_added : jMM := (RX11, cX11_added, 4, (some .int))
abbrev MX11_adds : jMM := (RX11, cX11_adds, 3, (some .int))
abbrev MX11_answer : jMM := (RX11, cX11_answer, 11, (some .int))
abbrev MX11_ask : jMM := (RX11, cX11_ask, 3, (some .int))
abbrev MX11_back : jMM := (RX11, cX11_back, 2, (some .int))
abbrev MX11_backOdds : jMM := (RX11, cX11_backOdds, 7, (some .int))
abbrev MX11_bounds : jMM := (RX11, cX11_bounds, 3, (some .int))
abbrev MX11_chance : jMM := (RX11, cX11_chance, 3, (some .int))
abbrev MX11_count : jMM := (RX11, cX11_count, 2, (some .int))
abbrev MX11_fault : jMM := (RX11, cX11_fault, 2, (some .int))
abbrev MX11_feed : jMM := (RX11, cX11_feed, 6, (some .int))
abbrev MX11_feedInt : jMM := (RX11, cX11_feedInt, 3, none)
abbrev MX11_free : jMM := (RX11, cX11_free, 3, (some .int))
abbrev MX11_glen : jMM := (RX11, cX11_glen, 5, (some .int))
abbrev MX11_image : jMM := (RX11, cX11_image, 2, (some .int))
abbrev MX11_imageAt : jMM := (RX11, cX11_imageAt, 2, (some (.object "NobodysBard$State")))
abbrev MX11_isBound : jMM := (RX11, cX11_isBound, 1, (some .boolean))
abbrev MX11_isGlenAndDay : jMM := (RX11, cX11_isGlenAndDay, 2, (some .boolean))
abbrev MX11_isHalf : jMM := (RX11, cX11_isHalf, 1, (some .boolean))
abbrev MX11_late : jMM := (RX11, cX11_late, 5, (some .int))
abbrev MX11_like : jMM := (RX11, cX11_like, 9, (some .int))
abbrev MX11_line : jMM := (RX11, cX11_line, 10, (some .int))
abbrev MX11_linesOf : jMM := (RX11, cX11_linesOf, 2, (some .int))
abbrev MX11_matches : jMM := (RX11, cX11_matches, 3, (some .int))
abbrev MX11_minister : jMM := (RX11, cX11_minister, 7, (some .int))
abbrev MX11_more : jMM := (RX11, cX11_more, 3, (some .int))
abbrev MX11_most : jMM := (RX11, cX11_most, 9, (some .int))
abbrev MX11_muddled : jMM := (RX11, cX11_muddled, 2, (some .int))
abbrev MX11_odds : jMM := (RX11, cX11_odds, 7, (some .long))
abbrev MX11_open : jMM := (RX11, cX11_open, 6, (some .int))
abbrev MX11_pages : jMM := (RX11, cX11_pages, 3, (some .int))
abbrev MX11_paid : jMM := (RX11, cX11_paid, 3, (some .int))
abbrev MX11_parted : jMM := (RX11, cX11_parted, 3, (some .int))
abbrev MX11_print : jMM := (RX11, cX11_print, 3, (some .int))
abbrev MX11_rate : jMM := (RX11, cX11_rate, 1, (some .int))
abbrev MX11_refuse : jMM := (RX11, cX11_refuse, 3, (some .int))
abbrev MX11_restore : jMM := (RX11, cX11_restore, 2, (some .int))
abbrev MX11_row : jMM := (RX11, cX11_row, 4, (some .int))
abbrev MX11_say : jMM := (RX11, cX11_say, 2, (some .int))
abbrev MX11_says : jMM := (RX11, cX11_says, 4, (some .int))
abbrev MX11_share : jMM := (RX11, cX11_share, 5, (some .int))
abbrev MX11_smoothed : jMM := (RX11, cX11_smoothed, 6, (some .long))
abbrev MX11_span : jMM := (RX11, cX11_span, 4, (some .int))
abbrev MX11_status : jMM := (RX11, cX11_status, 2, (some .int))
abbrev MX11_text : jMM := (RX11, cX11_text, 3, (some .int))
abbrev MX11_told : jMM := (RX11, cX11_told, 8, (some .int))
abbrev MX11_version : jMM := (RX11, cX11_version, 12, (some .int))
abbrev MX11_which : jMM := (RX11, cX11_which, 7, (some .int))
abbrev MX11_whose : jMM := (RX11, cX11_whose, 3, (some .int))
abbrev MX11_within : jMM := (RX11, cX11_within, 6, (some .boolean))
abbrev MX11_words : jMM := (RX11, cX11_words, 7, (some .long))
abbrev MX11_world : jMM := (RX11, cX11_world, 2, (some .int))
abbrev MX11_write : jMM := (RX11, cX11_write, 5, (some .long))
abbrev MX11_year : jMM := (RX11, cX11_year, 4, (some .int))
abbrev MX12_added : jMM := (RX12, cX12_added, 4, (some .int))
abbrev MX12_adds : jMM := (RX12, cX12_adds, 3, (some .int))
abbrev MX12_addsBy : jMM := (RX12, cX12_addsBy, 10, (some .int))
abbrev MX12_answer : jMM := (RX12, cX12_answer, 8, (some .int))
abbrev MX12_answers : jMM := (RX12, cX12_answers, 9, none)
abbrev MX12_ask : jMM := (RX12, cX12_ask, 7, (some .int))
abbrev MX12_back : jMM := (RX12, cX12_back, 2, (some .int))
abbrev MX12_backOdds : jMM := (RX12, cX12_backOdds, 5, (some .int))
abbrev MX12_best : jMM := (RX12, cX12_best, 8, none)
abbrev MX12_bounds : jMM := (RX12, cX12_bounds, 3, (some .int))
abbrev MX12_chance : jMM := (RX12, cX12_chance, 3, (some .int))
abbrev MX12_common : jMM := (RX12, cX12_common, 10, (some .long))
abbrev MX12_copies : jMM := (RX12, cX12_copies, 4, none)
abbrev MX12_costBy : jMM := (RX12, cX12_costBy, 6, (some .int))
abbrev MX12_count : jMM := (RX12, cX12_count, 2, (some .int))
abbrev MX12_counts : jMM := (RX12, cX12_counts, 2, none)
abbrev MX12_cut : jMM := (RX12, cX12_cut, 3, (some .long))
abbrev MX12_does : jMM := (RX12, cX12_does, 9, (some .boolean))
abbrev MX12_draw : jMM := (RX12, cX12_draw, 1, (some .int))
abbrev MX12_eats : jMM := (RX12, cX12_eats, 2, (some .boolean))
abbrev MX12_emit : jMM := (RX12, cX12_emit, 3, none)
abbrev MX12_fact : jMM := (RX12, cX12_fact, 3, none)
abbrev MX12_fails : jMM := (RX12, cX12_fails, 2, none)
abbrev MX12_fault : jMM := (RX12, cX12_fault, 2, (some .int))
abbrev MX12_feed : jMM := (RX12, cX12_feed, 8, (some .int))
abbrev MX12_free : jMM := (RX12, cX12_free, 3, (some .int))
abbrev MX12_freeUpTo : jMM := (RX12, cX12_freeUpTo, 4, (some .int))
abbrev MX12_glen : jMM := (RX12, cX12_glen, 6, (some .int))
abbrev MX12_hasWord : jMM := (RX12, cX12_hasWord, 4, (some .boolean))
abbrev MX12_holds : jMM := (RX12, cX12_holds, 7, (some .boolean))
abbrev MX12_image : jMM := (RX12, cX12_image, 2, (some .int))
abbrev MX12_is : jMM := (RX12, cX12_is, 2, (some .boolean))
abbrev MX12_isAnswer : jMM := (RX12, cX12_isAnswer, 10, (some .boolean))
abbrev MX12_isAnyEarly : jMM := (RX12, cX12_isAnyEarly, 3, (some .boolean))
abbrev MX12_isBack : jMM := (RX12, cX12_isBack, 4, (some .boolean))
abbrev MX12_isBehind : jMM := (RX12, cX12_isBehind, 2, (some .boolean))
abbrev MX12_isDigit : jMM := (RX12, cX12_isDigit, 1, (some .boolean))
abbrev MX12_isEarly : jMM := (RX12, cX12_isEarly, 2, (some .boolean))
abbrev MX12_isFree : jMM := (RX12, cX12_isFree, 4, (some .boolean))
abbrev MX12_isLine : jMM := (RX12, cX12_isLine, 4, (some .boolean))
abbrev MX12_isMuddled : jMM := (RX12, cX12_isMuddled, 4, (some .boolean))
abbrev MX12_isSmall : jMM := (RX12, cX12_isSmall, 1, (some .boolean))
abbrev MX12_isThere : jMM := (RX12, cX12_isThere, 2, (some .boolean))
abbrev MX12_keyAt : jMM := (RX12, cX12_keyAt, 4, (some .int))
abbrev MX12_late : jMM := (RX12, cX12_late, 5, (some .int))
abbrev MX12_lengthOf : jMM := (RX12, cX12_lengthOf, 3, (some .int))
abbrev MX12_like : jMM := (RX12, cX12_like, 5, (some .int))
abbrev MX12_likeOf : jMM := (RX12, cX12_likeOf, 10, (some .int))
abbrev MX12_line : jMM := (RX12, cX12_line, 7, (some .int))
abbrev MX12_looks : jMM := (RX12, cX12_looks, 7, none)
abbrev MX12_matches : jMM := (RX12, cX12_matches, 3, (some .int))
abbrev MX12_matchesOf : jMM := (RX12, cX12_matchesOf, 7, (some .int))
abbrev MX12_meets : jMM := (RX12, cX12_meets, 8, none)
abbrev MX12_minister : jMM := (RX12, cX12_minister, 5, (some .int))
abbrev MX12_more : jMM := (RX12, cX12_more, 6, (some .int))
abbrev MX12_most : jMM := (RX12, cX12_most, 8, (some .int))
abbrev MX12_mostOfPrint : jMM := (RX12, cX12_mostOfPrint, 6, (some .int))
abbrev MX12_mostOfSongs : jMM := (RX12, cX12_mostOfSongs, 8, (some .int))
abbrev MX12_muddled : jMM := (RX12, cX12_muddled, 4, (some .int))
abbrev MX12_needs : jMM := (RX12, cX12_needs, 2, none)
abbrev MX12_next : jMM := (RX12, cX12_next, 1, none)
abbrev MX12_no : jMM := (RX12, cX12_no, 2, (some .int))
abbrev MX12_odds : jMM := (RX12, cX12_odds, 7, (some .long))
abbrev MX12_open : jMM := (RX12, cX12_open, 5, (some .int))
abbrev MX12_opens : jMM := (RX12, cX12_opens, 5, (some .int))
abbrev MX12_pages : jMM := (RX12, cX12_pages, 3, (some .int))
abbrev MX12_pagesIn : jMM := (RX12, cX12_pagesIn, 5, (some .int))
abbrev MX12_paid : jMM := (RX12, cX12_paid, 3, (some .int))
abbrev MX12_part : jMM := (RX12, cX12_part, 7, (some .long))
abbrev MX12_parted : jMM := (RX12, cX12_parted, 6, (some .int))
abbrev MX12_parts : jMM := (RX12, cX12_parts, 1, none)
abbrev MX12_plain : jMM := (RX12, cX12_plain, 6, (some .long))
abbrev MX12_print : jMM := (RX12, cX12_print, 3, (some .int))
abbrev MX12_rate : jMM := (RX12, cX12_rate, 6, (some .int))
abbrev MX12_readRule : jMM := (RX12, cX12_readRule, 6, none)
abbrev MX12_readWay : jMM := (RX12, cX12_readWay, 5, none)
abbrev MX12_reads : jMM := (RX12, cX12_reads, 5, (some .int))
abbrev MX12_restore : jMM := (RX12, cX12_restore, 2, (some .int))
abbrev MX12_row : jMM := (RX12, cX12_row, 5, (some .int))
abbrev MX12_said : jMM := (RX12, cX12_said, 10, (some .long))
abbrev MX12_say : jMM := (RX12, cX12_say, 3, (some .int))
abbrev MX12_saying : jMM := (RX12, cX12_saying, 6, (some .int))
abbrev MX12_says : jMM := (RX12, cX12_says, 5, (some .int))
abbrev MX12_see : jMM := (RX12, cX12_see, 2, (some .int))
abbrev MX12_share : jMM := (RX12, cX12_share, 3, (some .int))
abbrev MX12_side : jMM := (RX12, cX12_side, 6, (some .int))
abbrev MX12_smooth : jMM := (RX12, cX12_smooth, 8, (some .long))
abbrev MX12_smoothed : jMM := (RX12, cX12_smoothed, 4, (some .long))
abbrev MX12_smooths : jMM := (RX12, cX12_smooths, 3, none)
abbrev MX12_span : jMM := (RX12, cX12_span, 2, (some .int))
abbrev MX12_stands : jMM := (RX12, cX12_stands, 5, (some .int))
abbrev MX12_status : jMM := (RX12, cX12_status, 2, (some .int))
abbrev MX12_test : jMM := (RX12, cX12_test, 1, none)
abbrev MX12_text : jMM := (RX12, cX12_text, 4, (some .int))
abbrev MX12_told : jMM := (RX12, cX12_told, 9, (some .int))
abbrev MX12_version : jMM := (RX12, cX12_version, 8, (some .int))
abbrev MX12_weightOf : jMM := (RX12, cX12_weightOf, 4, (some .int))
abbrev MX12_which : jMM := (RX12, cX12_which, 7, (some .int))
abbrev MX12_whose : jMM := (RX12, cX12_whose, 4, (some .int))
abbrev MX12_whoseIs : jMM := (RX12, cX12_whoseIs, 4, (some .int))
abbrev MX12_within : jMM := (RX12, cX12_within, 6, (some .boolean))
abbrev MX12_wordAt : jMM := (RX12, cX12_wordAt, 3, (some .int))
abbrev MX12_words : jMM := (RX12, cX12_words, 4, (some .long))
abbrev MX12_world : jMM := (RX12, cX12_world, 3, (some .int))
abbrev MX12_write : jMM := (RX12, cX12_write, 5, (some .long))
abbrev MX12_year : jMM := (RX12, cX12_year, 4, (some .int))
abbrev MX1_clear : jMM := (RX1, cX1_clear, 1, none)
abbrev MX1_copy : jMM := (RX1, cX1_copy, 2, none)
abbrev MX1_emit : jMM := (RX1, cX1_emit, 3, none)
abbrev MX1_holds : jMM := (RX1, cX1_holds, 8, (some .boolean))
abbrev MX1_put : jMM := (RX1, cX1_put, 6, none)
abbrev MX1_replaced : jMM := (RX1, cX1_replaced, 10, (some .long))
abbrev MX1_smooth : jMM := (RX1, cX1_smooth, 9, (some .long))
abbrev MX1_step : jMM := (RX1, cX1_step, 7, (some .long))
abbrev MX1_taken : jMM := (RX1, cX1_taken, 7, (some .long))
abbrev MX2_addsOf : jMM := (RX2, cX2_addsOf, 6, (some .int))
abbrev MX2_bookHasLike : jMM := (RX2, cX2_bookHasLike, 6, (some .boolean))
abbrev MX2_countKinds : jMM := (RX2, cX2_countKinds, 2, none)
abbrev MX2_fraction : jMM := (RX2, cX2_fraction, 7, (some .long))
abbrev MX2_greatestCommon : jMM := (RX2, cX2_greatestCommon, 11, (some .long))
abbrev MX2_isAmong : jMM := (RX2, cX2_isAmong, 4, (some .boolean))
abbrev MX2_isBack : jMM := (RX2, cX2_isBack, 4, (some .boolean))
abbrev MX2_isCounted : jMM := (RX2, cX2_isCounted, 3, (some .boolean))
abbrev MX2_isMuddled : jMM := (RX2, cX2_isMuddled, 4, (some .boolean))
abbrev MX2_look : jMM := (RX2, cX2_look, 8, none)
abbrev MX2_matchesOf : jMM := (RX2, cX2_matchesOf, 5, (some .int))
abbrev MX2_muddledAt : jMM := (RX2, cX2_muddledAt, 4, (some .int))
abbrev MX2_nearest : jMM := (RX2, cX2_nearest, 11, (some .int))
abbrev MX2_pairs : jMM := (RX2, cX2_pairs, 5, (some .int))
abbrev MX2_pairsBy : jMM := (RX2, cX2_pairsBy, 7, (some .int))
abbrev MX2_partedBy : jMM := (RX2, cX2_partedBy, 5, (some .int))
abbrev MX2_pileOf : jMM := (RX2, cX2_pileOf, 2, (some (.object "NobodysBard$Pile")))
abbrev MX2_printedLike : jMM := (RX2, cX2_printedLike, 6, (some .int))
abbrev MX2_wouldBeTheirs : jMM := (RX2, cX2_wouldBeTheirs, 5, (some .boolean))
abbrev MX3_clear : jMM := (RX3, cX3_clear, 1, none)
abbrev MX3_copy : jMM := (RX3, cX3_copy, 2, none)
abbrev MX3_drawn : jMM := (RX3, cX3_drawn, 1, (some .int))
abbrev MX3_next : jMM := (RX3, cX3_next, 1, (some .int))
abbrev MX3_putChance : jMM := (RX3, cX3_putChance, 3, none)
abbrev MX3_putSaying : jMM := (RX3, cX3_putSaying, 3, none)
abbrev MX3_respoken : jMM := (RX3, cX3_respoken, 8, (some .long))
abbrev MX4_alike : jMM := (RX4, cX4_alike, 5, (some .int))
abbrev MX4_behind : jMM := (RX4, cX4_behind, 3, (some .long))
abbrev MX4_clean : jMM := (RX4, cX4_clean, 2, (some .long))
abbrev MX4_common : jMM := (RX4, cX4_common, 9, (some .int))
abbrev MX4_head : jMM := (RX4, cX4_head, 3, (some .long))
abbrev MX4_length : jMM := (RX4, cX4_length, 3, (some .int))
abbrev MX4_places : jMM := (RX4, cX4_places, 7, (some .int))
abbrev MX4_without : jMM := (RX4, cX4_without, 3, (some .long))
abbrev MX4_word : jMM := (RX4, cX4_word, 3, (some .int))
abbrev MX5_at : jMM := (RX5, cX5_at, 3, (some .long))
abbrev MX5_copy : jMM := (RX5, cX5_copy, 2, none)
abbrev MX5_has : jMM := (RX5, cX5_has, 2, (some .boolean))
abbrev MX5_has_ : jMM := (RX5, cX5_has_, 3, (some .boolean))
abbrev MX5_isFull : jMM := (RX5, cX5_isFull, 1, (some .boolean))
abbrev MX5_isFull_ : jMM := (RX5, cX5_isFull_, 2, (some .boolean))
abbrev MX5_put : jMM := (RX5, cX5_put, 6, (some .int))
abbrev MX5_start : jMM := (RX5, cX5_start, 4, (some .int))
abbrev MX6_blame : jMM := (RX6, cX6_blame, 2, none)
abbrev MX6_endOfToken : jMM := (RX6, cX6_endOfToken, 5, (some .int))
abbrev MX6_isAt : jMM := (RX6, cX6_isAt, 2, (some .boolean))
abbrev MX6_isDigit : jMM := (RX6, cX6_isDigit, 1, (some .boolean))
abbrev MX6_isLetter : jMM := (RX6, cX6_isLetter, 1, (some .boolean))
abbrev MX6_kindOf : jMM := (RX6, cX6_kindOf, 4, (some .int))
abbrev MX6_numberOf : jMM := (RX6, cX6_numberOf, 5, (some .int))
abbrev MX6_putToken : jMM := (RX6, cX6_putToken, 4, none)
abbrev MX6_readFact : jMM := (RX6, cX6_readFact, 2, none)
abbrev MX6_readFashion : jMM := (RX6, cX6_readFashion, 2, none)
abbrev MX6_readLaw : jMM := (RX6, cX6_readLaw, 2, none)
abbrev MX6_readNumber : jMM := (RX6, cX6_readNumber, 5, (some .int))
abbrev MX6_readPlainFact : jMM := (RX6, cX6_readPlainFact, 4, none)
abbrev MX6_readRule : jMM := (RX6, cX6_readRule, 6, none)
abbrev MX6_readSide : jMM := (RX6, cX6_readSide, 6, (some .long))
abbrev MX6_readTest : jMM := (RX6, cX6_readTest, 4, none)
abbrev MX6_readWay : jMM := (RX6, cX6_readWay, 3, none)
abbrev MX6_scan : jMM := (RX6, cX6_scan, 6, none)
abbrev MX6_spells : jMM := (RX6, cX6_spells, 5, (some .boolean))
abbrev MX6_take : jMM := (RX6, cX6_take, 2, none)
abbrev MX6_wordKind : jMM := (RX6, cX6_wordKind, 3, (some .int))
abbrev MX7_at : jMM := (RX7, cX7_at, 3, (some .long))
abbrev MX7_canBe : jMM := (RX7, cX7_canBe, 2, (some .boolean))
abbrev MX7_cut : jMM := (RX7, cX7_cut, 3, (some .long))
abbrev MX7_lay : jMM := (RX7, cX7_lay, 4, none)
abbrev MX7_put : jMM := (RX7, cX7_put, 7, (some .long))
abbrev MX8_copy : jMM := (RX8, cX8_copy, 2, none)
abbrev MX8_follow : jMM := (RX8, cX8_follow, 4, none)
abbrev MX8_hasEarly : jMM := (RX8, cX8_hasEarly, 2, (some .boolean))
abbrev MX8_hasWordAfter : jMM := (RX8, cX8_hasWordAfter, 5, (some .boolean))
abbrev MX8_isEarly : jMM := (RX8, cX8_isEarly, 2, (some .boolean))
abbrev MX8_moveAbout : jMM := (RX8, cX8_moveAbout, 8, none)
abbrev MX8_pile : jMM := (RX8, cX8_pile, 2, (some (.object "NobodysBard$Pile")))
abbrev MX8_putIntoSong : jMM := (RX8, cX8_putIntoSong, 5, (some .int))
abbrev MX8_tellOn : jMM := (RX8, cX8_tellOn, 9, (some .int))
abbrev MX9_allPaid : jMM := (RX9, cX9_allPaid, 3, (some .int))
abbrev MX9_copy : jMM := (RX9, cX9_copy, 2, none)
abbrev MX9_fill : jMM := (RX9, cX9_fill, 3, (some .int))
abbrev MX9_firstSpanEndingFrom : jMM := (RX9, cX9_firstSpanEndingFrom, 4, (some .int))
abbrev MX9_freeUpTo : jMM := (RX9, cX9_freeUpTo, 8, (some .int))
abbrev MX9_leastRate : jMM := (RX9, cX9_leastRate, 5, (some .int))
abbrev MX9_leave : jMM := (RX9, cX9_leave, 3, (some .int))
abbrev MX9_moreBy : jMM := (RX9, cX9_moreBy, 5, (some .int))
abbrev MX9_pagesOf : jMM := (RX9, cX9_pagesOf, 5, (some .int))
abbrev MX9_pay : jMM := (RX9, cX9_pay, 3, (some .int))
theorem pl_X11 : plainName RX11 = true := by decide +kernel
theorem wIN_X11 : Cond.initialized RX11 ∈ jT := jT_t1 (i := 1) (by decide +kernel) (by decide +kernel)
theorem pl_X0 : plainName RX0 = true := by decide +kernel
theorem wIN_X0 : Cond.initialized RX0 ∈ jT := jT_t1 (i := 7) (by decide +kernel) (by decide +kernel)
theorem pl_X1 : plainName RX1 = true := by decide +kernel
theorem wIN_X1 : Cond.initialized RX1 ∈ jT := jT_t1 (i := 5) (by decide +kernel) (by decide +kernel)
theorem pl_X2 : plainName RX2 = true := by decide +kernel
theorem wIN_X2 : Cond.initialized RX2 ∈ jT := jT_t1 (i := 10) (by decide +kernel) (by decide +kernel)
theorem pl_X3 : plainName RX3 = true := by decide +kernel
theorem wIN_X3 : Cond.initialized RX3 ∈ jT := jT_t1 (i := 6) (by decide +kernel) (by decide +kernel)
theorem pl_X4 : plainName RX4 = true := by decide +kernel
theorem wIN_X4 : Cond.initialized RX4 ∈ jT := jT_t1 (i := 15) (by decide +kernel) (by decide +kernel)
theorem pl_X5 : plainName RX5 = true := by decide +kernel
theorem wIN_X5 : Cond.initialized RX5 ∈ jT := jT_t1 (i := 3) (by decide +kernel) (by decide +kernel)
theorem pl_X6 : plainName RX6 = true := by decide +kernel
theorem wIN_X6 : Cond.initialized RX6 ∈ jT := jT_t1 (i := 13) (by decide +kernel) (by decide +kernel)
theorem pl_X7 : plainName RX7 = true := by decide +kernel
theorem wIN_X7 : Cond.initialized RX7 ∈ jT := jT_t1 (i := 11) (by decide +kernel) (by decide +kernel)
theorem pl_X8 : plainName RX8 = true := by decide +kernel
theorem wIN_X8 : Cond.initialized RX8 ∈ jT := jT_t1 (i := 2) (by decide +kernel) (by decide +kernel)
theorem pl_X9 : plainName RX9 = true := by decide +kernel
theorem wIN_X9 : Cond.initialized RX9 ∈ jT := jT_t1 (i := 8) (by decide +kernel) (by decide +kernel)
theorem pl_X10 : plainName RX10 = true := by decide +kernel
theorem wIN_X10 : Cond.initialized RX10 ∈ jT := jT_t1 (i := 9) (by decide +kernel) (by decide +kernel)
theorem pl_X12 : plainName RX12 = true := by decide +kernel
theorem wIN_X12 : Cond.initialized RX12 ∈ jT := jT_t1 (i := 14) (by decide +kernel) (by decide +kernel)
theorem pl_J6 : plainName RJ6 = true := by decide +kernel
theorem wIN_J6 : Cond.initialized RJ6 ∈ jT := jT_t1 (i := 16) (by decide +kernel) (by decide +kernel)
theorem wIN_J9 : Cond.initialized RJ9 ∈ jT := jT_t1 (i := 4) (by decide +kernel) (by decide +kernel)
theorem pl_J0 : plainName RJ0 = true := by decide +kernel
theorem wIN_J0 : Cond.initialized RJ0 ∈ jT := jT_t1 (i := 17) (by decide +kernel) (by decide +kernel)
theorem pl_J1 : plainName RJ1 = true := by decide +kernel
theorem wIN_J1 : Cond.initialized RJ1 ∈ jT := jT_t1 (i := 18) (by decide +kernel) (by decide +kernel)
theorem pl_J7 : plainName RJ7 = true := by decide +kernel
theorem wIN_J7 : Cond.initialized RJ7 ∈ jT := jT_t1 (i := 12) (by decide +kernel) (by decide +kernel)
theorem pl_J3 : plainName RJ3 = true := by decide +kernel
theorem wIN_J3 : Cond.initialized RJ3 ∈ jT := jT_t1 (i := 19) (by decide +kernel) (by decide +kernel)
theorem wCD_J0_charAt_5068e : Cond.code yJ0_charAt_5068e cJ0_charAt_5068e 2 (some .char) ∈ jT := jT_t3 (i := 155) rfl rfl
theorem wCD_J0_checkIndex_df160 : Cond.code yJ0_checkIndex_df160 cJ0_checkIndex_df160 2 none ∈ jT := jT_t3 (i := 165) rfl rfl
theorem wCD_J0_coder_7d493 : Cond.code yJ0_coder_7d493 cJ0_coder_7d493 1 (some .byte) ∈ jT := jT_t3 (i := 149) rfl rfl
theorem wCD_J0_isLatin1_aae02 : Cond.code yJ0_isLatin1_aae02 cJ0_isLatin1_aae02 1 (some .boolean) ∈ jT := jT_t3 (i := 159) rfl rfl
theorem wCD_J0_length_8abf5 : Cond.code yJ0_length_8abf5 cJ0_length_8abf5 1 (some .int) ∈ jT := jT_t3 (i := 145) rfl rfl
theorem wCD_J1_charAt_3b067 : Cond.code yJ1_charAt_3b067 cJ1_charAt_3b067 2 (some .char) ∈ jT := jT_t3 (i := 162) rfl rfl
theorem wCD_J3_checkIndex_8e157 : Cond.code yJ3_checkIndex_8e157 cJ3_checkIndex_8e157 3 (some .int) ∈ jT := jT_t3 (i := 170) rfl rfl
theorem wCD_J6_bitCount_0f7a4 : Cond.code yJ6_bitCount_0f7a4 cJ6_bitCount_0f7a4 1 (some .int) ∈ jT := jT_t3 (i := 99) rfl rfl
theorem wCD_J7_fill_53178 : Cond.code yJ7_fill_53178 cJ7_fill_53178 4 none ∈ jT := jT_t2 (i := 119) rfl rfl
theorem wCD_J7_fill_bad5a : Cond.code yJ7_fill_bad5a cJ7_fill_bad5a 6 none ∈ jT := jT_t5 (i := 184) rfl rfl
theorem wCD_J7_rangeCheck_23922 : Cond.code yJ7_rangeCheck_23922 cJ7_rangeCheck_23922 3 none ∈ jT := jT_t5 (i := 187) rfl rfl
theorem wCD_J9_max_7cf53 : Cond.code yJ9_max_7cf53 cJ9_max_7cf53 2 (some .int) ∈ jT := jT_t1 (i := 44) rfl rfl
theorem wCD_J9_max_f86c9 : Cond.code yJ9_max_f86c9 cJ9_max_f86c9 4 (some .long) ∈ jT := jT_t4 (i := 172) rfl rfl
theorem wCD_J9_min_7cf53 : Cond.code yJ9_min_7cf53 cJ9_min_7cf53 2 (some .int) ∈ jT := jT_t3 (i := 121) rfl rfl
theorem wCD_X0_copy : Cond.code yX0_copy cX0_copy 2 none ∈ jT := jT_t6 (i := 1) rfl rfl
theorem wCD_X0_greatest : Cond.code yX0_greatest cX0_greatest 1 (some .int) ∈ jT := jT_t5 (i := 209) rfl rfl
theorem wCD_X0_has : Cond.code yX0_has cX0_has 2 (some .boolean) ∈ jT := jT_t5 (i := 8) rfl rfl
theorem wCD_X0_hear : Cond.code yX0_hear cX0_hear 6 none ∈ jT := jT_t5 (i := 4) rfl rfl
theorem wCD_X0_heard : Cond.code yX0_heard cX0_heard 3 (some .int) ∈ jT := jT_t5 (i := 34) rfl rfl
theorem wCD_X0_room : Cond.code yX0_room cX0_room 1 (some .int) ∈ jT := jT_t4 (i := 236) rfl rfl
theorem wCD_X0_start : Cond.code yX0_start cX0_start 4 (some .int) ∈ jT := jT_t5 (i := 0) rfl rfl
theorem wCD_X10_copy : Cond.code yX10_copy cX10_copy 2 none ∈ jT := jT_t6 (i := 11) rfl rfl
theorem wCD_X10_costOfParts : Cond.code yX10_costOfParts cX10_costOfParts 6 (some .int) ∈ jT := jT_t5 (i := 167) rfl rfl
theorem wCD_X10_gatherSayings : Cond.code yX10_gatherSayings cX10_gatherSayings 4 none ∈ jT := jT_t5 (i := 154) rfl rfl
theorem wCD_X10_has : Cond.code yX10_has cX10_has 2 (some .boolean) ∈ jT := jT_t5 (i := 132) rfl rfl
theorem wCD_X10_hasAll : Cond.code yX10_hasAll cX10_hasAll 2 (some .boolean) ∈ jT := jT_t5 (i := 145) rfl rfl
theorem wCD_X10_start : Cond.code yX10_start cX10_start 2 (some .int) ∈ jT := jT_t5 (i := 124) rfl rfl
theorem wCD_X10_tell : Cond.code yX10_tell cX10_tell 6 (some .int) ∈ jT := jT_t5 (i := 136) rfl rfl
theorem wCD_X10_weigh : Cond.code yX10_weigh cX10_weigh 3 none ∈ jT := jT_t5 (i := 149) rfl rfl
theorem wCD_X10_weighOne : Cond.code yX10_weighOne cX10_weighOne 5 none ∈ jT := jT_t5 (i := 159) rfl rfl
theorem wCD_X10_weightOf : Cond.code yX10_weightOf cX10_weightOf 4 (some .int) ∈ jT := jT_t5 (i := 163) rfl rfl
theorem wCD_X11_added : Cond.code yX11_added cX11_added 4 (some .int) ∈ jT := jT_t4 (i := 209) rfl rfl
theorem wCD_X11_adds : Cond.code yX11_adds cX11_adds 3 (some .int) ∈ jT := jT_t4 (i := 196) rfl rfl
theorem wCD_X11_answer : Cond.code yX11_answer cX11_answer 11 (some .int) ∈ jT := jT_t4 (i := 232) rfl rfl
theorem wCD_X11_ask : Cond.code yX11_ask cX11_ask 3 (some .int) ∈ jT := jT_t5 (i := 141) rfl rfl
theorem wCD_X11_back : Cond.code yX11_back cX11_back 2 (some .int) ∈ jT := jT_t5 (i := 12) rfl rfl
theorem wCD_X11_backOdds : Cond.code yX11_backOdds cX11_backOdds 7 (some .int) ∈ jT := jT_t5 (i := 22) rfl rfl
theorem wCD_X11_bounds : Cond.code yX11_bounds cX11_bounds 3 (some .int) ∈ jT := jT_t3 (i := 69) rfl rfl
theorem wCD_X11_chance : Cond.code yX11_chance cX11_chance 3 (some .int) ∈ jT := jT_t4 (i := 148) rfl rfl
theorem wCD_X11_count : Cond.code yX11_count cX11_count 2 (some .int) ∈ jT := jT_t6 (i := 25) rfl rfl
theorem wCD_X11_fault : Cond.code yX11_fault cX11_fault 2 (some .int) ∈ jT := jT_t4 (i := 63) rfl rfl
theorem wCD_X11_feed : Cond.code yX11_feed cX11_feed 6 (some .int) ∈ jT := jT_t3 (i := 106) rfl rfl
theorem wCD_X11_feedInt : Cond.code yX11_feedInt cX11_feedInt 3 none ∈ jT := jT_t3 (i := 110) rfl rfl
theorem wCD_X11_free : Cond.code yX11_free cX11_free 3 (some .int) ∈ jT := jT_t5 (i := 94) rfl rfl
theorem wCD_X11_glen : Cond.code yX11_glen cX11_glen 5 (some .int) ∈ jT := jT_t5 (i := 51) rfl rfl
theorem wCD_X11_image : Cond.code yX11_image cX11_image 2 (some .int) ∈ jT := jT_t5 (i := 222) rfl rfl
theorem wCD_X11_imageAt : Cond.code yX11_imageAt cX11_imageAt 2 (some (.object "NobodysBard$State")) ∈ jT := jT_t5 (i := 226) rfl rfl
theorem wCD_X11_isBound : Cond.code yX11_isBound cX11_isBound 1 (some .boolean) ∈ jT := jT_t4 (i := 151) rfl rfl
theorem wCD_X11_isGlenAndDay : Cond.code yX11_isGlenAndDay cX11_isGlenAndDay 2 (some .boolean) ∈ jT := jT_t2 (i := 223) rfl rfl
theorem wCD_X11_isHalf : Cond.code yX11_isHalf cX11_isHalf 1 (some .boolean) ∈ jT := jT_t4 (i := 99) rfl rfl
theorem wCD_X11_late : Cond.code yX11_late cX11_late 5 (some .int) ∈ jT := jT_t4 (i := 128) rfl rfl
theorem wCD_X11_like : Cond.code yX11_like cX11_like 9 (some .int) ∈ jT := jT_t3 (i := 88) rfl rfl
theorem wCD_X11_line : Cond.code yX11_line cX11_line 10 (some .int) ∈ jT := jT_t2 (i := 235) rfl rfl
theorem wCD_X11_linesOf : Cond.code yX11_linesOf cX11_linesOf 2 (some .int) ∈ jT := jT_t6 (i := 29) rfl rfl
theorem wCD_X11_matches : Cond.code yX11_matches cX11_matches 3 (some .int) ∈ jT := jT_t4 (i := 180) rfl rfl
theorem wCD_X11_minister : Cond.code yX11_minister cX11_minister 7 (some .int) ∈ jT := jT_t5 (i := 202) rfl rfl
theorem wCD_X11_more : Cond.code yX11_more cX11_more 3 (some .int) ∈ jT := jT_t5 (i := 78) rfl rfl
theorem wCD_X11_most : Cond.code yX11_most cX11_most 9 (some .int) ∈ jT := jT_t4 (i := 192) rfl rfl
theorem wCD_X11_muddled : Cond.code yX11_muddled cX11_muddled 2 (some .int) ∈ jT := jT_t5 (i := 39) rfl rfl
theorem wCD_X11_odds : Cond.code yX11_odds cX11_odds 7 (some .long) ∈ jT := jT_t4 (i := 176) rfl rfl
theorem wCD_X11_open : Cond.code yX11_open cX11_open 6 (some .int) ∈ jT := jT_t2 (i := 211) rfl rfl
theorem wCD_X11_pages : Cond.code yX11_pages cX11_pages 3 (some .int) ∈ jT := jT_t5 (i := 69) rfl rfl
theorem wCD_X11_paid : Cond.code yX11_paid cX11_paid 3 (some .int) ∈ jT := jT_t5 (i := 60) rfl rfl
theorem wCD_X11_parted : Cond.code yX11_parted cX11_parted 3 (some .int) ∈ jT := jT_t5 (i := 26) rfl rfl
theorem wCD_X11_print : Cond.code yX11_print cX11_print 3 (some .int) ∈ jT := jT_t3 (i := 65) rfl rfl
theorem wCD_X11_rate : Cond.code yX11_rate cX11_rate 1 (some .int) ∈ jT := jT_t5 (i := 102) rfl rfl
theorem wCD_X11_refuse : Cond.code yX11_refuse cX11_refuse 3 (some .int) ∈ jT := jT_t2 (i := 215) rfl rfl
theorem wCD_X11_restore : Cond.code yX11_restore cX11_restore 2 (some .int) ∈ jT := jT_t6 (i := 16) rfl rfl
theorem wCD_X11_row : Cond.code yX11_row cX11_row 4 (some .int) ∈ jT := jT_t5 (i := 171) rfl rfl
theorem wCD_X11_say : Cond.code yX11_say cX11_say 2 (some .int) ∈ jT := jT_t5 (i := 213) rfl rfl
theorem wCD_X11_says : Cond.code yX11_says cX11_says 4 (some .int) ∈ jT := jT_t5 (i := 128) rfl rfl
theorem wCD_X11_share : Cond.code yX11_share cX11_share 5 (some .int) ∈ jT := jT_t4 (i := 134) rfl rfl
theorem wCD_X11_smoothed : Cond.code yX11_smoothed cX11_smoothed 6 (some .long) ∈ jT := jT_t4 (i := 67) rfl rfl
theorem wCD_X11_span : Cond.code yX11_span cX11_span 4 (some .int) ∈ jT := jT_t4 (i := 144) rfl rfl
theorem wCD_X11_status : Cond.code yX11_status cX11_status 2 (some .int) ∈ jT := jT_t6 (i := 20) rfl rfl
theorem wCD_X11_text : Cond.code yX11_text cX11_text 3 (some .int) ∈ jT := jT_t3 (i := 114) rfl rfl
theorem wCD_X11_told : Cond.code yX11_told cX11_told 8 (some .int) ∈ jT := jT_t4 (i := 72) rfl rfl
theorem wCD_X11_version : Cond.code yX11_version cX11_version 12 (some .int) ∈ jT := jT_t4 (i := 218) rfl rfl
theorem wCD_X11_which : Cond.code yX11_which cX11_which 7 (some .int) ∈ jT := jT_t4 (i := 222) rfl rfl
theorem wCD_X11_whose : Cond.code yX11_whose cX11_whose 3 (some .int) ∈ jT := jT_t4 (i := 96) rfl rfl
theorem wCD_X11_within : Cond.code yX11_within cX11_within 6 (some .boolean) ∈ jT := jT_t2 (i := 220) rfl rfl
theorem wCD_X11_words : Cond.code yX11_words cX11_words 7 (some .long) ∈ jT := jT_t3 (i := 74) rfl rfl
theorem wCD_X11_world : Cond.code yX11_world cX11_world 2 (some .int) ∈ jT := jT_t5 (i := 120) rfl rfl
theorem wCD_X11_write : Cond.code yX11_write cX11_write 5 (some .long) ∈ jT := jT_t5 (i := 191) rfl rfl
theorem wCD_X11_year : Cond.code yX11_year cX11_year 4 (some .int) ∈ jT := jT_t4 (i := 213) rfl rfl
theorem wCD_X12_added : Cond.code yX12_added cX12_added 4 (some .int) ∈ jT := jT_t7 (i := 178) rfl rfl
theorem wCD_X12_adds : Cond.code yX12_adds cX12_adds 3 (some .int) ∈ jT := jT_t7 (i := 170) rfl rfl
theorem wCD_X12_addsBy : Cond.code yX12_addsBy cX12_addsBy 10 (some .int) ∈ jT := jT_t7 (i := 174) rfl rfl
theorem wCD_X12_answer : Cond.code yX12_answer cX12_answer 8 (some .int) ∈ jT := jT_t7 (i := 195) rfl rfl
theorem wCD_X12_answers : Cond.code yX12_answers cX12_answers 9 none ∈ jT := jT_t7 (i := 202) rfl rfl
theorem wCD_X12_ask : Cond.code yX12_ask cX12_ask 7 (some .int) ∈ jT := jT_t8 (i := 46) rfl rfl
theorem wCD_X12_back : Cond.code yX12_back cX12_back 2 (some .int) ∈ jT := jT_t7 (i := 206) rfl rfl
theorem wCD_X12_backOdds : Cond.code yX12_backOdds cX12_backOdds 5 (some .int) ∈ jT := jT_t7 (i := 222) rfl rfl
theorem wCD_X12_best : Cond.code yX12_best cX12_best 8 none ∈ jT := jT_t7 (i := 107) rfl rfl
theorem wCD_X12_bounds : Cond.code yX12_bounds cX12_bounds 3 (some .int) ∈ jT := jT_t6 (i := 190) rfl rfl
theorem wCD_X12_chance : Cond.code yX12_chance cX12_chance 3 (some .int) ∈ jT := jT_t7 (i := 139) rfl rfl
theorem wCD_X12_common : Cond.code yX12_common cX12_common 10 (some .long) ∈ jT := jT_t7 (i := 149) rfl rfl
theorem wCD_X12_copies : Cond.code yX12_copies cX12_copies 4 none ∈ jT := jT_t8 (i := 90) rfl rfl
theorem wCD_X12_costBy : Cond.code yX12_costBy cX12_costBy 6 (some .int) ∈ jT := jT_t8 (i := 50) rfl rfl
theorem wCD_X12_count : Cond.code yX12_count cX12_count 2 (some .int) ∈ jT := jT_t8 (i := 103) rfl rfl
theorem wCD_X12_counts : Cond.code yX12_counts cX12_counts 2 none ∈ jT := jT_t7 (i := 131) rfl rfl
theorem wCD_X12_cut : Cond.code yX12_cut cX12_cut 3 (some .long) ∈ jT := jT_t8 (i := 70) rfl rfl
theorem wCD_X12_does : Cond.code yX12_does cX12_does 9 (some .boolean) ∈ jT := jT_t7 (i := 62) rfl rfl
theorem wCD_X12_draw : Cond.code yX12_draw cX12_draw 1 (some .int) ∈ jT := jT_t7 (i := 82) rfl rfl
theorem wCD_X12_eats : Cond.code yX12_eats cX12_eats 2 (some .boolean) ∈ jT := jT_t7 (i := 24) rfl rfl
theorem wCD_X12_emit : Cond.code yX12_emit cX12_emit 3 none ∈ jT := jT_t7 (i := 40) rfl rfl
theorem wCD_X12_fact : Cond.code yX12_fact cX12_fact 3 none ∈ jT := jT_t7 (i := 36) rfl rfl
theorem wCD_X12_fails : Cond.code yX12_fails cX12_fails 2 none ∈ jT := jT_t7 (i := 16) rfl rfl
theorem wCD_X12_fault : Cond.code yX12_fault cX12_fault 2 (some .int) ∈ jT := jT_t7 (i := 50) rfl rfl
theorem wCD_X12_feed : Cond.code yX12_feed cX12_feed 8 (some .int) ∈ jT := jT_t6 (i := 211) rfl rfl
theorem wCD_X12_free : Cond.code yX12_free cX12_free 3 (some .int) ∈ jT := jT_t8 (i := 22) rfl rfl
theorem wCD_X12_freeUpTo : Cond.code yX12_freeUpTo cX12_freeUpTo 4 (some .int) ∈ jT := jT_t8 (i := 30) rfl rfl
theorem wCD_X12_glen : Cond.code yX12_glen cX12_glen 6 (some .int) ∈ jT := jT_t7 (i := 239) rfl rfl
theorem wCD_X12_hasWord : Cond.code yX12_hasWord cX12_hasWord 4 (some .boolean) ∈ jT := jT_t7 (i := 70) rfl rfl
theorem wCD_X12_holds : Cond.code yX12_holds cX12_holds 7 (some .boolean) ∈ jT := jT_t7 (i := 66) rfl rfl
theorem wCD_X12_image : Cond.code yX12_image cX12_image 2 (some .int) ∈ jT := jT_t8 (i := 86) rfl rfl
theorem wCD_X12_is : Cond.code yX12_is cX12_is 2 (some .boolean) ∈ jT := jT_t7 (i := 12) rfl rfl
theorem wCD_X12_isAnswer : Cond.code yX12_isAnswer cX12_isAnswer 10 (some .boolean) ∈ jT := jT_t7 (i := 198) rfl rfl
theorem wCD_X12_isAnyEarly : Cond.code yX12_isAnyEarly cX12_isAnyEarly 3 (some .boolean) ∈ jT := jT_t8 (i := 82) rfl rfl
theorem wCD_X12_isBack : Cond.code yX12_isBack cX12_isBack 4 (some .boolean) ∈ jT := jT_t7 (i := 214) rfl rfl
theorem wCD_X12_isBehind : Cond.code yX12_isBehind cX12_isBehind 2 (some .boolean) ∈ jT := jT_t7 (i := 218) rfl rfl
theorem wCD_X12_isDigit : Cond.code yX12_isDigit cX12_isDigit 1 (some .boolean) ∈ jT := jT_t6 (i := 236) rfl rfl
theorem wCD_X12_isEarly : Cond.code yX12_isEarly cX12_isEarly 2 (some .boolean) ∈ jT := jT_t7 (i := 99) rfl rfl
theorem wCD_X12_isFree : Cond.code yX12_isFree cX12_isFree 4 (some .boolean) ∈ jT := jT_t8 (i := 34) rfl rfl
theorem wCD_X12_isLine : Cond.code yX12_isLine cX12_isLine 4 (some .boolean) ∈ jT := jT_t6 (i := 199) rfl rfl
theorem wCD_X12_isMuddled : Cond.code yX12_isMuddled cX12_isMuddled 4 (some .boolean) ∈ jT := jT_t7 (i := 235) rfl rfl
theorem wCD_X12_isSmall : Cond.code yX12_isSmall cX12_isSmall 1 (some .boolean) ∈ jT := jT_t6 (i := 226) rfl rfl
theorem wCD_X12_isThere : Cond.code yX12_isThere cX12_isThere 2 (some .boolean) ∈ jT := jT_t7 (i := 210) rfl rfl
theorem wCD_X12_keyAt : Cond.code yX12_keyAt cX12_keyAt 4 (some .int) ∈ jT := jT_t6 (i := 230) rfl rfl
theorem wCD_X12_late : Cond.code yX12_late cX12_late 5 (some .int) ∈ jT := jT_t7 (i := 115) rfl rfl
theorem wCD_X12_lengthOf : Cond.code yX12_lengthOf cX12_lengthOf 3 (some .int) ∈ jT := jT_t6 (i := 176) rfl rfl
theorem wCD_X12_like : Cond.code yX12_like cX12_like 5 (some .int) ∈ jT := jT_t6 (i := 203) rfl rfl
theorem wCD_X12_likeOf : Cond.code yX12_likeOf cX12_likeOf 10 (some .int) ∈ jT := jT_t6 (i := 207) rfl rfl
theorem wCD_X12_line : Cond.code yX12_line cX12_line 7 (some .int) ∈ jT := jT_t6 (i := 173) rfl rfl
theorem wCD_X12_looks : Cond.code yX12_looks cX12_looks 7 none ∈ jT := jT_t7 (i := 111) rfl rfl
theorem wCD_X12_matches : Cond.code yX12_matches cX12_matches 3 (some .int) ∈ jT := jT_t7 (i := 157) rfl rfl
theorem wCD_X12_matchesOf : Cond.code yX12_matchesOf cX12_matchesOf 7 (some .int) ∈ jT := jT_t7 (i := 161) rfl rfl
theorem wCD_X12_meets : Cond.code yX12_meets cX12_meets 8 none ∈ jT := jT_t7 (i := 143) rfl rfl
theorem wCD_X12_minister : Cond.code yX12_minister cX12_minister 5 (some .int) ∈ jT := jT_t8 (i := 74) rfl rfl
theorem wCD_X12_more : Cond.code yX12_more cX12_more 6 (some .int) ∈ jT := jT_t8 (i := 14) rfl rfl
theorem wCD_X12_most : Cond.code yX12_most cX12_most 8 (some .int) ∈ jT := jT_t7 (i := 165) rfl rfl
theorem wCD_X12_mostOfPrint : Cond.code yX12_mostOfPrint cX12_mostOfPrint 6 (some .int) ∈ jT := jT_t7 (i := 123) rfl rfl
theorem wCD_X12_mostOfSongs : Cond.code yX12_mostOfSongs cX12_mostOfSongs 8 (some .int) ∈ jT := jT_t7 (i := 119) rfl rfl
theorem wCD_X12_muddled : Cond.code yX12_muddled cX12_muddled 4 (some .int) ∈ jT := jT_t7 (i := 231) rfl rfl
theorem wCD_X12_needs : Cond.code yX12_needs cX12_needs 2 none ∈ jT := jT_t7 (i := 20) rfl rfl
theorem wCD_X12_next : Cond.code yX12_next cX12_next 1 none ∈ jT := jT_t6 (i := 219) rfl rfl
theorem wCD_X12_no : Cond.code yX12_no cX12_no 2 (some .int) ∈ jT := jT_t6 (i := 161) rfl rfl
theorem wCD_X12_odds : Cond.code yX12_odds cX12_odds 7 (some .long) ∈ jT := jT_t7 (i := 153) rfl rfl
theorem wCD_X12_open : Cond.code yX12_open cX12_open 5 (some .int) ∈ jT := jT_t6 (i := 154) rfl rfl
theorem wCD_X12_opens : Cond.code yX12_opens cX12_opens 5 (some .int) ∈ jT := jT_t6 (i := 169) rfl rfl
theorem wCD_X12_pages : Cond.code yX12_pages cX12_pages 3 (some .int) ∈ jT := jT_t8 (i := 9) rfl rfl
theorem wCD_X12_pagesIn : Cond.code yX12_pagesIn cX12_pagesIn 5 (some .int) ∈ jT := jT_t8 (i := 18) rfl rfl
theorem wCD_X12_paid : Cond.code yX12_paid cX12_paid 3 (some .int) ∈ jT := jT_t8 (i := 4) rfl rfl
theorem wCD_X12_part : Cond.code yX12_part cX12_part 7 (some .long) ∈ jT := jT_t7 (i := 146) rfl rfl
theorem wCD_X12_parted : Cond.code yX12_parted cX12_parted 6 (some .int) ∈ jT := jT_t7 (i := 227) rfl rfl
theorem wCD_X12_parts : Cond.code yX12_parts cX12_parts 1 none ∈ jT := jT_t7 (i := 32) rfl rfl
theorem wCD_X12_plain : Cond.code yX12_plain cX12_plain 6 (some .long) ∈ jT := jT_t6 (i := 182) rfl rfl
theorem wCD_X12_print : Cond.code yX12_print cX12_print 3 (some .int) ∈ jT := jT_t6 (i := 186) rfl rfl
theorem wCD_X12_rate : Cond.code yX12_rate cX12_rate 6 (some .int) ∈ jT := jT_t8 (i := 26) rfl rfl
theorem wCD_X12_readRule : Cond.code yX12_readRule cX12_readRule 6 none ∈ jT := jT_t7 (i := 0) rfl rfl
theorem wCD_X12_readWay : Cond.code yX12_readWay cX12_readWay 5 none ∈ jT := jT_t7 (i := 44) rfl rfl
theorem wCD_X12_reads : Cond.code yX12_reads cX12_reads 5 (some .int) ∈ jT := jT_t7 (i := 8) rfl rfl
theorem wCD_X12_restore : Cond.code yX12_restore cX12_restore 2 (some .int) ∈ jT := jT_t8 (i := 94) rfl rfl
theorem wCD_X12_row : Cond.code yX12_row cX12_row 5 (some .int) ∈ jT := jT_t8 (i := 62) rfl rfl
theorem wCD_X12_said : Cond.code yX12_said cX12_said 10 (some .long) ∈ jT := jT_t7 (i := 87) rfl rfl
theorem wCD_X12_say : Cond.code yX12_say cX12_say 3 (some .int) ∈ jT := jT_t8 (i := 78) rfl rfl
theorem wCD_X12_saying : Cond.code yX12_saying cX12_saying 6 (some .int) ∈ jT := jT_t8 (i := 58) rfl rfl
theorem wCD_X12_says : Cond.code yX12_says cX12_says 5 (some .int) ∈ jT := jT_t8 (i := 42) rfl rfl
theorem wCD_X12_see : Cond.code yX12_see cX12_see 2 (some .int) ∈ jT := jT_t6 (i := 223) rfl rfl
theorem wCD_X12_share : Cond.code yX12_share cX12_share 3 (some .int) ∈ jT := jT_t7 (i := 127) rfl rfl
theorem wCD_X12_side : Cond.code yX12_side cX12_side 6 (some .int) ∈ jT := jT_t7 (i := 4) rfl rfl
theorem wCD_X12_smooth : Cond.code yX12_smooth cX12_smooth 8 (some .long) ∈ jT := jT_t7 (i := 58) rfl rfl
theorem wCD_X12_smoothed : Cond.code yX12_smoothed cX12_smoothed 4 (some .long) ∈ jT := jT_t7 (i := 54) rfl rfl
theorem wCD_X12_smooths : Cond.code yX12_smooths cX12_smooths 3 none ∈ jT := jT_t7 (i := 95) rfl rfl
theorem wCD_X12_span : Cond.code yX12_span cX12_span 2 (some .int) ∈ jT := jT_t7 (i := 135) rfl rfl
theorem wCD_X12_stands : Cond.code yX12_stands cX12_stands 5 (some .int) ∈ jT := jT_t7 (i := 74) rfl rfl
theorem wCD_X12_status : Cond.code yX12_status cX12_status 2 (some .int) ∈ jT := jT_t8 (i := 98) rfl rfl
theorem wCD_X12_test : Cond.code yX12_test cX12_test 1 none ∈ jT := jT_t7 (i := 28) rfl rfl
theorem wCD_X12_text : Cond.code yX12_text cX12_text 4 (some .int) ∈ jT := jT_t6 (i := 215) rfl rfl
theorem wCD_X12_told : Cond.code yX12_told cX12_told 9 (some .int) ∈ jT := jT_t7 (i := 78) rfl rfl
theorem wCD_X12_version : Cond.code yX12_version cX12_version 8 (some .int) ∈ jT := jT_t7 (i := 187) rfl rfl
theorem wCD_X12_weightOf : Cond.code yX12_weightOf cX12_weightOf 4 (some .int) ∈ jT := jT_t8 (i := 54) rfl rfl
theorem wCD_X12_which : Cond.code yX12_which cX12_which 7 (some .int) ∈ jT := jT_t7 (i := 191) rfl rfl
theorem wCD_X12_whose : Cond.code yX12_whose cX12_whose 4 (some .int) ∈ jT := jT_t7 (i := 91) rfl rfl
theorem wCD_X12_whoseIs : Cond.code yX12_whoseIs cX12_whoseIs 4 (some .int) ∈ jT := jT_t7 (i := 103) rfl rfl
theorem wCD_X12_within : Cond.code yX12_within cX12_within 6 (some .boolean) ∈ jT := jT_t6 (i := 157) rfl rfl
theorem wCD_X12_wordAt : Cond.code yX12_wordAt cX12_wordAt 3 (some .int) ∈ jT := jT_t6 (i := 179) rfl rfl
theorem wCD_X12_words : Cond.code yX12_words cX12_words 4 (some .long) ∈ jT := jT_t6 (i := 195) rfl rfl
theorem wCD_X12_world : Cond.code yX12_world cX12_world 3 (some .int) ∈ jT := jT_t8 (i := 38) rfl rfl
theorem wCD_X12_write : Cond.code yX12_write cX12_write 5 (some .long) ∈ jT := jT_t8 (i := 67) rfl rfl
theorem wCD_X12_year : Cond.code yX12_year cX12_year 4 (some .int) ∈ jT := jT_t7 (i := 182) rfl rfl
theorem wCD_X1_clear : Cond.code yX1_clear cX1_clear 1 none ∈ jT := jT_t3 (i := 216) rfl rfl
theorem wCD_X1_copy : Cond.code yX1_copy cX1_copy 2 none ∈ jT := jT_t4 (i := 50) rfl rfl
theorem wCD_X1_emit : Cond.code yX1_emit cX1_emit 3 none ∈ jT := jT_t4 (i := 17) rfl rfl
theorem wCD_X1_holds : Cond.code yX1_holds cX1_holds 8 (some .boolean) ∈ jT := jT_t3 (i := 40) rfl rfl
theorem wCD_X1_put : Cond.code yX1_put cX1_put 6 none ∈ jT := jT_t4 (i := 21) rfl rfl
theorem wCD_X1_replaced : Cond.code yX1_replaced cX1_replaced 10 (some .long) ∈ jT := jT_t3 (i := 53) rfl rfl
theorem wCD_X1_smooth : Cond.code yX1_smooth cX1_smooth 9 (some .long) ∈ jT := jT_t3 (i := 32) rfl rfl
theorem wCD_X1_step : Cond.code yX1_step cX1_step 7 (some .long) ∈ jT := jT_t3 (i := 36) rfl rfl
theorem wCD_X1_taken : Cond.code yX1_taken cX1_taken 7 (some .long) ∈ jT := jT_t3 (i := 44) rfl rfl
theorem wCD_X2_addsOf : Cond.code yX2_addsOf cX2_addsOf 6 (some .int) ∈ jT := jT_t4 (i := 200) rfl rfl
theorem wCD_X2_bookHasLike : Cond.code yX2_bookHasLike cX2_bookHasLike 6 (some .boolean) ∈ jT := jT_t4 (i := 188) rfl rfl
theorem wCD_X2_countKinds : Cond.code yX2_countKinds cX2_countKinds 2 none ∈ jT := jT_t4 (i := 138) rfl rfl
theorem wCD_X2_fraction : Cond.code yX2_fraction cX2_fraction 7 (some .long) ∈ jT := jT_t4 (i := 166) rfl rfl
theorem wCD_X2_greatestCommon : Cond.code yX2_greatestCommon cX2_greatestCommon 11 (some .long) ∈ jT := jT_t4 (i := 169) rfl rfl
theorem wCD_X2_isAmong : Cond.code yX2_isAmong cX2_isAmong 4 (some .boolean) ∈ jT := jT_t4 (i := 117) rfl rfl
theorem wCD_X2_isBack : Cond.code yX2_isBack cX2_isBack 4 (some .boolean) ∈ jT := jT_t5 (i := 17) rfl rfl
theorem wCD_X2_isCounted : Cond.code yX2_isCounted cX2_isCounted 3 (some .boolean) ∈ jT := jT_t5 (i := 56) rfl rfl
theorem wCD_X2_isMuddled : Cond.code yX2_isMuddled cX2_isMuddled 4 (some .boolean) ∈ jT := jT_t5 (i := 47) rfl rfl
theorem wCD_X2_look : Cond.code yX2_look cX2_look 8 none ∈ jT := jT_t4 (i := 103) rfl rfl
theorem wCD_X2_matchesOf : Cond.code yX2_matchesOf cX2_matchesOf 5 (some .int) ∈ jT := jT_t4 (i := 184) rfl rfl
theorem wCD_X2_muddledAt : Cond.code yX2_muddledAt cX2_muddledAt 4 (some .int) ∈ jT := jT_t5 (i := 43) rfl rfl
theorem wCD_X2_nearest : Cond.code yX2_nearest cX2_nearest 11 (some .int) ∈ jT := jT_t4 (i := 109) rfl rfl
theorem wCD_X2_pairs : Cond.code yX2_pairs cX2_pairs 5 (some .int) ∈ jT := jT_t4 (i := 163) rfl rfl
theorem wCD_X2_pairsBy : Cond.code yX2_pairsBy cX2_pairsBy 7 (some .int) ∈ jT := jT_t4 (i := 155) rfl rfl
theorem wCD_X2_partedBy : Cond.code yX2_partedBy cX2_partedBy 5 (some .int) ∈ jT := jT_t5 (i := 30) rfl rfl
theorem wCD_X2_pileOf : Cond.code yX2_pileOf cX2_pileOf 2 (some (.object "NobodysBard$Pile")) ∈ jT := jT_t4 (i := 113) rfl rfl
theorem wCD_X2_printedLike : Cond.code yX2_printedLike cX2_printedLike 6 (some .int) ∈ jT := jT_t4 (i := 159) rfl rfl
theorem wCD_X2_wouldBeTheirs : Cond.code yX2_wouldBeTheirs cX2_wouldBeTheirs 5 (some .boolean) ∈ jT := jT_t4 (i := 205) rfl rfl
theorem wCD_X3_clear : Cond.code yX3_clear cX3_clear 1 none ∈ jT := jT_t4 (i := 29) rfl rfl
theorem wCD_X3_copy : Cond.code yX3_copy cX3_copy 2 none ∈ jT := jT_t4 (i := 58) rfl rfl
theorem wCD_X3_drawn : Cond.code yX3_drawn cX3_drawn 1 (some .int) ∈ jT := jT_t4 (i := 83) rfl rfl
theorem wCD_X3_next : Cond.code yX3_next cX3_next 1 (some .int) ∈ jT := jT_t4 (i := 79) rfl rfl
theorem wCD_X3_putChance : Cond.code yX3_putChance cX3_putChance 3 none ∈ jT := jT_t4 (i := 42) rfl rfl
theorem wCD_X3_putSaying : Cond.code yX3_putSaying cX3_putSaying 3 none ∈ jT := jT_t4 (i := 38) rfl rfl
theorem wCD_X3_respoken : Cond.code yX3_respoken cX3_respoken 8 (some .long) ∈ jT := jT_t4 (i := 87) rfl rfl
theorem wCD_X4_alike : Cond.code yX4_alike cX4_alike 5 (some .int) ∈ jT := jT_t3 (i := 91) rfl rfl
theorem wCD_X4_behind : Cond.code yX4_behind cX4_behind 3 (some .long) ∈ jT := jT_t3 (i := 60) rfl rfl
theorem wCD_X4_clean : Cond.code yX4_clean cX4_clean 2 (some .long) ∈ jT := jT_t3 (i := 3) rfl rfl
theorem wCD_X4_common : Cond.code yX4_common cX4_common 9 (some .int) ∈ jT := jT_t3 (i := 95) rfl rfl
theorem wCD_X4_head : Cond.code yX4_head cX4_head 3 (some .long) ∈ jT := jT_t3 (i := 12) rfl rfl
theorem wCD_X4_length : Cond.code yX4_length cX4_length 3 (some .int) ∈ jT := jT_t3 (i := 6) rfl rfl
theorem wCD_X4_places : Cond.code yX4_places cX4_places 7 (some .int) ∈ jT := jT_t3 (i := 48) rfl rfl
theorem wCD_X4_without : Cond.code yX4_without cX4_without 3 (some .long) ∈ jT := jT_t3 (i := 56) rfl rfl
theorem wCD_X4_word : Cond.code yX4_word cX4_word 3 (some .int) ∈ jT := jT_t3 (i := 9) rfl rfl
theorem wCD_X5_at : Cond.code yX5_at cX5_at 3 (some .long) ∈ jT := jT_t3 (i := 83) rfl rfl
theorem wCD_X5_copy : Cond.code yX5_copy cX5_copy 2 none ∈ jT := jT_t5 (i := 234) rfl rfl
theorem wCD_X5_has : Cond.code yX5_has cX5_has 2 (some .boolean) ∈ jT := jT_t3 (i := 0) rfl rfl
theorem wCD_X5_has_ : Cond.code yX5_has_ cX5_has_ 3 (some .boolean) ∈ jT := jT_t3 (i := 79) rfl rfl
theorem wCD_X5_isFull : Cond.code yX5_isFull cX5_isFull 1 (some .boolean) ∈ jT := jT_t2 (i := 21) rfl rfl
theorem wCD_X5_isFull_ : Cond.code yX5_isFull_ cX5_isFull_ 2 (some .boolean) ∈ jT := jT_t3 (i := 17) rfl rfl
theorem wCD_X5_put : Cond.code yX5_put cX5_put 6 (some .int) ∈ jT := jT_t3 (i := 27) rfl rfl
theorem wCD_X5_start : Cond.code yX5_start cX5_start 4 (some .int) ∈ jT := jT_t2 (i := 17) rfl rfl
theorem wCD_X6_blame : Cond.code yX6_blame cX6_blame 2 none ∈ jT := jT_t3 (i := 236) rfl rfl
theorem wCD_X6_endOfToken : Cond.code yX6_endOfToken cX6_endOfToken 5 (some .int) ∈ jT := jT_t3 (i := 124) rfl rfl
theorem wCD_X6_isAt : Cond.code yX6_isAt cX6_isAt 2 (some .boolean) ∈ jT := jT_t3 (i := 220) rfl rfl
theorem wCD_X6_isDigit : Cond.code yX6_isDigit cX6_isDigit 1 (some .boolean) ∈ jT := jT_t3 (i := 130) rfl rfl
theorem wCD_X6_isLetter : Cond.code yX6_isLetter cX6_isLetter 1 (some .boolean) ∈ jT := jT_t3 (i := 127) rfl rfl
theorem wCD_X6_kindOf : Cond.code yX6_kindOf cX6_kindOf 4 (some .int) ∈ jT := jT_t3 (i := 134) rfl rfl
theorem wCD_X6_numberOf : Cond.code yX6_numberOf cX6_numberOf 5 (some .int) ∈ jT := jT_t3 (i := 204) rfl rfl
theorem wCD_X6_putToken : Cond.code yX6_putToken cX6_putToken 4 none ∈ jT := jT_t3 (i := 208) rfl rfl
theorem wCD_X6_readFact : Cond.code yX6_readFact cX6_readFact 2 none ∈ jT := jT_t4 (i := 9) rfl rfl
theorem wCD_X6_readFashion : Cond.code yX6_readFashion cX6_readFashion 2 none ∈ jT := jT_t3 (i := 212) rfl rfl
theorem wCD_X6_readLaw : Cond.code yX6_readLaw cX6_readLaw 2 none ∈ jT := jT_t4 (i := 25) rfl rfl
theorem wCD_X6_readNumber : Cond.code yX6_readNumber cX6_readNumber 5 (some .int) ∈ jT := jT_t3 (i := 232) rfl rfl
theorem wCD_X6_readPlainFact : Cond.code yX6_readPlainFact cX6_readPlainFact 4 none ∈ jT := jT_t4 (i := 13) rfl rfl
theorem wCD_X6_readRule : Cond.code yX6_readRule cX6_readRule 6 none ∈ jT := jT_t3 (i := 224) rfl rfl
theorem wCD_X6_readSide : Cond.code yX6_readSide cX6_readSide 6 (some .long) ∈ jT := jT_t3 (i := 228) rfl rfl
theorem wCD_X6_readTest : Cond.code yX6_readTest cX6_readTest 4 none ∈ jT := jT_t4 (i := 5) rfl rfl
theorem wCD_X6_readWay : Cond.code yX6_readWay cX6_readWay 3 none ∈ jT := jT_t4 (i := 34) rfl rfl
theorem wCD_X6_scan : Cond.code yX6_scan cX6_scan 6 none ∈ jT := jT_t3 (i := 118) rfl rfl
theorem wCD_X6_spells : Cond.code yX6_spells cX6_spells 5 (some .boolean) ∈ jT := jT_t3 (i := 141) rfl rfl
theorem wCD_X6_take : Cond.code yX6_take cX6_take 2 none ∈ jT := jT_t4 (i := 1) rfl rfl
theorem wCD_X6_wordKind : Cond.code yX6_wordKind cX6_wordKind 3 (some .int) ∈ jT := jT_t3 (i := 137) rfl rfl
theorem wCD_X7_at : Cond.code yX7_at cX7_at 3 (some .long) ∈ jT := jT_t5 (i := 206) rfl rfl
theorem wCD_X7_canBe : Cond.code yX7_canBe cX7_canBe 2 (some .boolean) ∈ jT := jT_t5 (i := 175) rfl rfl
theorem wCD_X7_cut : Cond.code yX7_cut cX7_cut 3 (some .long) ∈ jT := jT_t5 (i := 198) rfl rfl
theorem wCD_X7_lay : Cond.code yX7_lay cX7_lay 4 none ∈ jT := jT_t5 (i := 180) rfl rfl
theorem wCD_X7_put : Cond.code yX7_put cX7_put 7 (some .long) ∈ jT := jT_t5 (i := 195) rfl rfl
theorem wCD_X8_copy : Cond.code yX8_copy cX8_copy 2 none ∈ jT := jT_t5 (i := 230) rfl rfl
theorem wCD_X8_follow : Cond.code yX8_follow cX8_follow 4 none ∈ jT := jT_t4 (i := 46) rfl rfl
theorem wCD_X8_hasEarly : Cond.code yX8_hasEarly cX8_hasEarly 2 (some .boolean) ∈ jT := jT_t5 (i := 217) rfl rfl
theorem wCD_X8_hasWordAfter : Cond.code yX8_hasWordAfter cX8_hasWordAfter 5 (some .boolean) ∈ jT := jT_t4 (i := 226) rfl rfl
theorem wCD_X8_isEarly : Cond.code yX8_isEarly cX8_isEarly 2 (some .boolean) ∈ jT := jT_t4 (i := 121) rfl rfl
theorem wCD_X8_moveAbout : Cond.code yX8_moveAbout cX8_moveAbout 8 none ∈ jT := jT_t4 (i := 92) rfl rfl
theorem wCD_X8_pile : Cond.code yX8_pile cX8_pile 2 (some (.object "NobodysBard$Pile")) ∈ jT := jT_t2 (i := 229) rfl rfl
theorem wCD_X8_putIntoSong : Cond.code yX8_putIntoSong cX8_putIntoSong 5 (some .int) ∈ jT := jT_t3 (i := 22) rfl rfl
theorem wCD_X8_tellOn : Cond.code yX8_tellOn cX8_tellOn 9 (some .int) ∈ jT := jT_t4 (i := 76) rfl rfl
theorem wCD_X9_allPaid : Cond.code yX9_allPaid cX9_allPaid 3 (some .int) ∈ jT := jT_t5 (i := 82) rfl rfl
theorem wCD_X9_copy : Cond.code yX9_copy cX9_copy 2 none ∈ jT := jT_t6 (i := 6) rfl rfl
theorem wCD_X9_fill : Cond.code yX9_fill cX9_fill 3 (some .int) ∈ jT := jT_t5 (i := 74) rfl rfl
theorem wCD_X9_firstSpanEndingFrom : Cond.code yX9_firstSpanEndingFrom cX9_firstSpanEndingFrom 4 (some .int) ∈ jT := jT_t5 (i := 114) rfl rfl
theorem wCD_X9_freeUpTo : Cond.code yX9_freeUpTo cX9_freeUpTo 8 (some .int) ∈ jT := jT_t5 (i := 110) rfl rfl
theorem wCD_X9_leastRate : Cond.code yX9_leastRate cX9_leastRate 5 (some .int) ∈ jT := jT_t5 (i := 106) rfl rfl
theorem wCD_X9_leave : Cond.code yX9_leave cX9_leave 3 (some .int) ∈ jT := jT_t5 (i := 98) rfl rfl
theorem wCD_X9_moreBy : Cond.code yX9_moreBy cX9_moreBy 5 (some .int) ∈ jT := jT_t5 (i := 86) rfl rfl
theorem wCD_X9_pagesOf : Cond.code yX9_pagesOf cX9_pagesOf 5 (some .int) ∈ jT := jT_t5 (i := 90) rfl rfl
theorem wCD_X9_pay : Cond.code yX9_pay cX9_pay 3 (some .int) ∈ jT := jT_t5 (i := 65) rfl rfl
theorem wST_J0_checkIndex_df160 : Cond.static yJ0_checkIndex_df160 ∈ jT := jT_t3 (i := 164) (by decide +kernel) (by decide +kernel)
theorem wST_J1_charAt_3b067 : Cond.static yJ1_charAt_3b067 ∈ jT := jT_t3 (i := 161) (by decide +kernel) (by decide +kernel)
theorem wST_J3_checkIndex_8e157 : Cond.static yJ3_checkIndex_8e157 ∈ jT := jT_t3 (i := 169) (by decide +kernel) (by decide +kernel)
theorem wST_J6_bitCount_0f7a4 : Cond.static yJ6_bitCount_0f7a4 ∈ jT := jT_t3 (i := 98) (by decide +kernel) (by decide +kernel)
theorem wST_J7_fill_53178 : Cond.static yJ7_fill_53178 ∈ jT := jT_t2 (i := 118) (by decide +kernel) (by decide +kernel)
theorem wST_J7_fill_bad5a : Cond.static yJ7_fill_bad5a ∈ jT := jT_t5 (i := 183) (by decide +kernel) (by decide +kernel)
theorem wST_J7_rangeCheck_23922 : Cond.static yJ7_rangeCheck_23922 ∈ jT := jT_t5 (i := 186) (by decide +kernel) (by decide +kernel)
theorem wST_X0_greatest : Cond.static yX0_greatest ∈ jT := jT_t5 (i := 208) (by decide +kernel) (by decide +kernel)
theorem wST_X11_isBound : Cond.static yX11_isBound ∈ jT := jT_t4 (i := 150) (by decide +kernel) (by decide +kernel)
theorem wST_X11_isGlenAndDay : Cond.static yX11_isGlenAndDay ∈ jT := jT_t2 (i := 222) (by decide +kernel) (by decide +kernel)
theorem wST_X11_isHalf : Cond.static yX11_isHalf ∈ jT := jT_t4 (i := 98) (by decide +kernel) (by decide +kernel)
theorem wST_X11_linesOf : Cond.static yX11_linesOf ∈ jT := jT_t6 (i := 28) (by decide +kernel) (by decide +kernel)
theorem wST_X11_within : Cond.static yX11_within ∈ jT := jT_t2 (i := 219) (by decide +kernel) (by decide +kernel)
theorem wST_X12_common : Cond.static yX12_common ∈ jT := jT_t7 (i := 148) (by decide +kernel) (by decide +kernel)
theorem wST_X12_cut : Cond.static yX12_cut ∈ jT := jT_t8 (i := 69) (by decide +kernel) (by decide +kernel)
theorem wST_X12_isAnswer : Cond.static yX12_isAnswer ∈ jT := jT_t7 (i := 197) (by decide +kernel) (by decide +kernel)
theorem wST_X12_isDigit : Cond.static yX12_isDigit ∈ jT := jT_t6 (i := 235) (by decide +kernel) (by decide +kernel)
theorem wST_X12_isSmall : Cond.static yX12_isSmall ∈ jT := jT_t6 (i := 225) (by decide +kernel) (by decide +kernel)
theorem wST_X12_lengthOf : Cond.static yX12_lengthOf ∈ jT := jT_t6 (i := 175) (by decide +kernel) (by decide +kernel)
theorem wST_X12_part : Cond.static yX12_part ∈ jT := jT_t7 (i := 145) (by decide +kernel) (by decide +kernel)
theorem wST_X12_plain : Cond.static yX12_plain ∈ jT := jT_t6 (i := 181) (by decide +kernel) (by decide +kernel)
theorem wST_X12_within : Cond.static yX12_within ∈ jT := jT_t6 (i := 156) (by decide +kernel) (by decide +kernel)
theorem wST_X12_wordAt : Cond.static yX12_wordAt ∈ jT := jT_t6 (i := 178) (by decide +kernel) (by decide +kernel)
theorem wST_X2_fraction : Cond.static yX2_fraction ∈ jT := jT_t4 (i := 165) (by decide +kernel) (by decide +kernel)
theorem wST_X2_greatestCommon : Cond.static yX2_greatestCommon ∈ jT := jT_t4 (i := 168) (by decide +kernel) (by decide +kernel)
theorem wST_X3_drawn : Cond.static yX3_drawn ∈ jT := jT_t4 (i := 82) (by decide +kernel) (by decide +kernel)
theorem wST_X3_next : Cond.static yX3_next ∈ jT := jT_t4 (i := 78) (by decide +kernel) (by decide +kernel)
theorem wST_X4_alike : Cond.static yX4_alike ∈ jT := jT_t3 (i := 90) (by decide +kernel) (by decide +kernel)
theorem wST_X4_behind : Cond.static yX4_behind ∈ jT := jT_t3 (i := 59) (by decide +kernel) (by decide +kernel)
theorem wST_X4_clean : Cond.static yX4_clean ∈ jT := jT_t3 (i := 2) (by decide +kernel) (by decide +kernel)
theorem wST_X4_common : Cond.static yX4_common ∈ jT := jT_t3 (i := 94) (by decide +kernel) (by decide +kernel)
theorem wST_X4_head : Cond.static yX4_head ∈ jT := jT_t3 (i := 11) (by decide +kernel) (by decide +kernel)
theorem wST_X4_length : Cond.static yX4_length ∈ jT := jT_t3 (i := 5) (by decide +kernel) (by decide +kernel)
theorem wST_X4_places : Cond.static yX4_places ∈ jT := jT_t3 (i := 47) (by decide +kernel) (by decide +kernel)
theorem wST_X4_without : Cond.static yX4_without ∈ jT := jT_t3 (i := 55) (by decide +kernel) (by decide +kernel)
theorem wST_X4_word : Cond.static yX4_word ∈ jT := jT_t3 (i := 8) (by decide +kernel) (by decide +kernel)
theorem wST_X6_endOfToken : Cond.static yX6_endOfToken ∈ jT := jT_t3 (i := 123) (by decide +kernel) (by decide +kernel)
theorem wST_X6_isDigit : Cond.static yX6_isDigit ∈ jT := jT_t3 (i := 129) (by decide +kernel) (by decide +kernel)
theorem wST_X6_isLetter : Cond.static yX6_isLetter ∈ jT := jT_t3 (i := 126) (by decide +kernel) (by decide +kernel)
theorem wST_X6_kindOf : Cond.static yX6_kindOf ∈ jT := jT_t3 (i := 133) (by decide +kernel) (by decide +kernel)
theorem wST_X6_numberOf : Cond.static yX6_numberOf ∈ jT := jT_t3 (i := 203) (by decide +kernel) (by decide +kernel)
theorem wST_X6_spells : Cond.static yX6_spells ∈ jT := jT_t3 (i := 140) (by decide +kernel) (by decide +kernel)
theorem wST_X6_wordKind : Cond.static yX6_wordKind ∈ jT := jT_t3 (i := 136) (by decide +kernel) (by decide +kernel)
theorem wST_X7_cut : Cond.static yX7_cut ∈ jT := jT_t5 (i := 197) (by decide +kernel) (by decide +kernel)
theorem wIM_J0_charAt_5068e : Cond.instanceMethod yJ0_charAt_5068e ∈ jT := jT_t3 (i := 153) (by decide +kernel) (by decide +kernel)
theorem wSE_J0_charAt_5068e : Cond.selects yJ0_charAt_5068e.cls yJ0_charAt_5068e yJ0_charAt_5068e ∈ jT := jT_t3 (i := 154) (by decide +kernel) (by decide +kernel)
theorem wIM_J0_coder_7d493 : Cond.instanceMethod yJ0_coder_7d493 ∈ jT := jT_t3 (i := 147) (by decide +kernel) (by decide +kernel)
theorem wSE_J0_coder_7d493 : Cond.selects yJ0_coder_7d493.cls yJ0_coder_7d493 yJ0_coder_7d493 ∈ jT := jT_t3 (i := 148) (by decide +kernel) (by decide +kernel)
theorem wIM_J0_isLatin1_aae02 : Cond.instanceMethod yJ0_isLatin1_aae02 ∈ jT := jT_t3 (i := 157) (by decide +kernel) (by decide +kernel)
theorem wSE_J0_isLatin1_aae02 : Cond.selects yJ0_isLatin1_aae02.cls yJ0_isLatin1_aae02 yJ0_isLatin1_aae02 ∈ jT := jT_t3 (i := 158) (by decide +kernel) (by decide +kernel)
theorem wIM_J0_length_8abf5 : Cond.instanceMethod yJ0_length_8abf5 ∈ jT := jT_t3 (i := 143) (by decide +kernel) (by decide +kernel)
theorem wSE_J0_length_8abf5 : Cond.selects yJ0_length_8abf5.cls yJ0_length_8abf5 yJ0_length_8abf5 ∈ jT := jT_t3 (i := 144) (by decide +kernel) (by decide +kernel)
theorem wIM_X0_copy : Cond.instanceMethod yX0_copy ∈ jT := jT_t5 (i := 239) (by decide +kernel) (by decide +kernel)
theorem wSE_X0_copy : Cond.selects yX0_copy.cls yX0_copy yX0_copy ∈ jT := jT_t6 (i := 0) (by decide +kernel) (by decide +kernel)
theorem wIM_X0_has : Cond.instanceMethod yX0_has ∈ jT := jT_t5 (i := 6) (by decide +kernel) (by decide +kernel)
theorem wSE_X0_has : Cond.selects yX0_has.cls yX0_has yX0_has ∈ jT := jT_t5 (i := 7) (by decide +kernel) (by decide +kernel)
theorem wIM_X0_hear : Cond.instanceMethod yX0_hear ∈ jT := jT_t5 (i := 2) (by decide +kernel) (by decide +kernel)
theorem wSE_X0_hear : Cond.selects yX0_hear.cls yX0_hear yX0_hear ∈ jT := jT_t5 (i := 3) (by decide +kernel) (by decide +kernel)
theorem wIM_X0_heard : Cond.instanceMethod yX0_heard ∈ jT := jT_t5 (i := 32) (by decide +kernel) (by decide +kernel)
theorem wSE_X0_heard : Cond.selects yX0_heard.cls yX0_heard yX0_heard ∈ jT := jT_t5 (i := 33) (by decide +kernel) (by decide +kernel)
theorem wIM_X0_room : Cond.instanceMethod yX0_room ∈ jT := jT_t4 (i := 234) (by decide +kernel) (by decide +kernel)
theorem wSE_X0_room : Cond.selects yX0_room.cls yX0_room yX0_room ∈ jT := jT_t4 (i := 235) (by decide +kernel) (by decide +kernel)
theorem wIM_X0_start : Cond.instanceMethod yX0_start ∈ jT := jT_t4 (i := 238) (by decide +kernel) (by decide +kernel)
theorem wSE_X0_start : Cond.selects yX0_start.cls yX0_start yX0_start ∈ jT := jT_t4 (i := 239) (by decide +kernel) (by decide +kernel)
theorem wIM_X10_copy : Cond.instanceMethod yX10_copy ∈ jT := jT_t6 (i := 9) (by decide +kernel) (by decide +kernel)
theorem wSE_X10_copy : Cond.selects yX10_copy.cls yX10_copy yX10_copy ∈ jT := jT_t6 (i := 10) (by decide +kernel) (by decide +kernel)
theorem wIM_X10_costOfParts : Cond.instanceMethod yX10_costOfParts ∈ jT := jT_t5 (i := 166) (by decide +kernel) (by decide +kernel)
theorem wSE_X10_costOfParts : Cond.selects yX10_costOfParts.cls yX10_costOfParts yX10_costOfParts ∈ jT := jT_in (i := 30) (by decide +kernel) (by decide +kernel)
theorem wIM_X10_gatherSayings : Cond.instanceMethod yX10_gatherSayings ∈ jT := jT_t5 (i := 153) (by decide +kernel) (by decide +kernel)
theorem wSE_X10_gatherSayings : Cond.selects yX10_gatherSayings.cls yX10_gatherSayings yX10_gatherSayings ∈ jT := jT_in (i := 27) (by decide +kernel) (by decide +kernel)
theorem wIM_X10_has : Cond.instanceMethod yX10_has ∈ jT := jT_t5 (i := 130) (by decide +kernel) (by decide +kernel)
theorem wSE_X10_has : Cond.selects yX10_has.cls yX10_has yX10_has ∈ jT := jT_t5 (i := 131) (by decide +kernel) (by decide +kernel)
theorem wIM_X10_hasAll : Cond.instanceMethod yX10_hasAll ∈ jT := jT_t5 (i := 143) (by decide +kernel) (by decide +kernel)
theorem wSE_X10_hasAll : Cond.selects yX10_hasAll.cls yX10_hasAll yX10_hasAll ∈ jT := jT_t5 (i := 144) (by decide +kernel) (by decide +kernel)
theorem wIM_X10_start : Cond.instanceMethod yX10_start ∈ jT := jT_t5 (i := 122) (by decide +kernel) (by decide +kernel)
theorem wSE_X10_start : Cond.selects yX10_start.cls yX10_start yX10_start ∈ jT := jT_t5 (i := 123) (by decide +kernel) (by decide +kernel)
theorem wIM_X10_tell : Cond.instanceMethod yX10_tell ∈ jT := jT_t5 (i := 134) (by decide +kernel) (by decide +kernel)
theorem wSE_X10_tell : Cond.selects yX10_tell.cls yX10_tell yX10_tell ∈ jT := jT_t5 (i := 135) (by decide +kernel) (by decide +kernel)
theorem wIM_X10_weigh : Cond.instanceMethod yX10_weigh ∈ jT := jT_t5 (i := 147) (by decide +kernel) (by decide +kernel)
theorem wSE_X10_weigh : Cond.selects yX10_weigh.cls yX10_weigh yX10_weigh ∈ jT := jT_t5 (i := 148) (by decide +kernel) (by decide +kernel)
theorem wIM_X10_weighOne : Cond.instanceMethod yX10_weighOne ∈ jT := jT_t5 (i := 158) (by decide +kernel) (by decide +kernel)
theorem wSE_X10_weighOne : Cond.selects yX10_weighOne.cls yX10_weighOne yX10_weighOne ∈ jT := jT_in (i := 28) (by decide +kernel) (by decide +kernel)
theorem wIM_X10_weightOf : Cond.instanceMethod yX10_weightOf ∈ jT := jT_t5 (i := 162) (by decide +kernel) (by decide +kernel)
theorem wSE_X10_weightOf : Cond.selects yX10_weightOf.cls yX10_weightOf yX10_weightOf ∈ jT := jT_in (i := 29) (by decide +kernel) (by decide +kernel)
theorem wIM_X11_feedInt : Cond.instanceMethod yX11_feedInt ∈ jT := jT_t3 (i := 109) (by decide +kernel) (by decide +kernel)
theorem wSE_X11_feedInt : Cond.selects yX11_feedInt.cls yX11_feedInt yX11_feedInt ∈ jT := jT_in (i := 5) (by decide +kernel) (by decide +kernel)
theorem wIM_X11_imageAt : Cond.instanceMethod yX11_imageAt ∈ jT := jT_t5 (i := 225) (by decide +kernel) (by decide +kernel)
theorem wSE_X11_imageAt : Cond.selects yX11_imageAt.cls yX11_imageAt yX11_imageAt ∈ jT := jT_in (i := 31) (by decide +kernel) (by decide +kernel)
theorem wIM_X11_refuse : Cond.instanceMethod yX11_refuse ∈ jT := jT_t2 (i := 214) (by decide +kernel) (by decide +kernel)
theorem wSE_X11_refuse : Cond.selects yX11_refuse.cls yX11_refuse yX11_refuse ∈ jT := jT_in (i := 0) (by decide +kernel) (by decide +kernel)
theorem wIM_X12_addsBy : Cond.instanceMethod yX12_addsBy ∈ jT := jT_t7 (i := 173) (by decide +kernel) (by decide +kernel)
theorem wSE_X12_addsBy : Cond.selects yX12_addsBy.cls yX12_addsBy yX12_addsBy ∈ jT := jT_in (i := 68) (by decide +kernel) (by decide +kernel)
theorem wIM_X12_answers : Cond.instanceMethod yX12_answers ∈ jT := jT_t7 (i := 201) (by decide +kernel) (by decide +kernel)
theorem wSE_X12_answers : Cond.selects yX12_answers.cls yX12_answers yX12_answers ∈ jT := jT_in (i := 69) (by decide +kernel) (by decide +kernel)
theorem wIM_X12_best : Cond.instanceMethod yX12_best ∈ jT := jT_t7 (i := 106) (by decide +kernel) (by decide +kernel)
theorem wSE_X12_best : Cond.selects yX12_best.cls yX12_best yX12_best ∈ jT := jT_in (i := 61) (by decide +kernel) (by decide +kernel)
theorem wIM_X12_copies : Cond.instanceMethod yX12_copies ∈ jT := jT_t8 (i := 89) (by decide +kernel) (by decide +kernel)
theorem wSE_X12_copies : Cond.selects yX12_copies.cls yX12_copies yX12_copies ∈ jT := jT_in (i := 81) (by decide +kernel) (by decide +kernel)
theorem wIM_X12_costBy : Cond.instanceMethod yX12_costBy ∈ jT := jT_t8 (i := 49) (by decide +kernel) (by decide +kernel)
theorem wSE_X12_costBy : Cond.selects yX12_costBy.cls yX12_costBy yX12_costBy ∈ jT := jT_in (i := 77) (by decide +kernel) (by decide +kernel)
theorem wIM_X12_counts : Cond.instanceMethod yX12_counts ∈ jT := jT_t7 (i := 130) (by decide +kernel) (by decide +kernel)
theorem wSE_X12_counts : Cond.selects yX12_counts.cls yX12_counts yX12_counts ∈ jT := jT_in (i := 65) (by decide +kernel) (by decide +kernel)
theorem wIM_X12_does : Cond.instanceMethod yX12_does ∈ jT := jT_t7 (i := 61) (by decide +kernel) (by decide +kernel)
theorem wSE_X12_does : Cond.selects yX12_does.cls yX12_does yX12_does ∈ jT := jT_in (i := 52) (by decide +kernel) (by decide +kernel)
theorem wIM_X12_draw : Cond.instanceMethod yX12_draw ∈ jT := jT_t7 (i := 81) (by decide +kernel) (by decide +kernel)
theorem wSE_X12_draw : Cond.selects yX12_draw.cls yX12_draw yX12_draw ∈ jT := jT_in (i := 56) (by decide +kernel) (by decide +kernel)
theorem wIM_X12_eats : Cond.instanceMethod yX12_eats ∈ jT := jT_t7 (i := 23) (by decide +kernel) (by decide +kernel)
theorem wSE_X12_eats : Cond.selects yX12_eats.cls yX12_eats yX12_eats ∈ jT := jT_in (i := 45) (by decide +kernel) (by decide +kernel)
theorem wIM_X12_emit : Cond.instanceMethod yX12_emit ∈ jT := jT_t7 (i := 39) (by decide +kernel) (by decide +kernel)
theorem wSE_X12_emit : Cond.selects yX12_emit.cls yX12_emit yX12_emit ∈ jT := jT_in (i := 49) (by decide +kernel) (by decide +kernel)
theorem wIM_X12_fact : Cond.instanceMethod yX12_fact ∈ jT := jT_t7 (i := 35) (by decide +kernel) (by decide +kernel)
theorem wSE_X12_fact : Cond.selects yX12_fact.cls yX12_fact yX12_fact ∈ jT := jT_in (i := 48) (by decide +kernel) (by decide +kernel)
theorem wIM_X12_fails : Cond.instanceMethod yX12_fails ∈ jT := jT_t7 (i := 15) (by decide +kernel) (by decide +kernel)
theorem wSE_X12_fails : Cond.selects yX12_fails.cls yX12_fails yX12_fails ∈ jT := jT_in (i := 43) (by decide +kernel) (by decide +kernel)
theorem wIM_X12_freeUpTo : Cond.instanceMethod yX12_freeUpTo ∈ jT := jT_t8 (i := 29) (by decide +kernel) (by decide +kernel)
theorem wSE_X12_freeUpTo : Cond.selects yX12_freeUpTo.cls yX12_freeUpTo yX12_freeUpTo ∈ jT := jT_in (i := 75) (by decide +kernel) (by decide +kernel)
theorem wIM_X12_hasWord : Cond.instanceMethod yX12_hasWord ∈ jT := jT_t7 (i := 69) (by decide +kernel) (by decide +kernel)
theorem wSE_X12_hasWord : Cond.selects yX12_hasWord.cls yX12_hasWord yX12_hasWord ∈ jT := jT_in (i := 54) (by decide +kernel) (by decide +kernel)
theorem wIM_X12_holds : Cond.instanceMethod yX12_holds ∈ jT := jT_t7 (i := 65) (by decide +kernel) (by decide +kernel)
theorem wSE_X12_holds : Cond.selects yX12_holds.cls yX12_holds yX12_holds ∈ jT := jT_in (i := 53) (by decide +kernel) (by decide +kernel)
theorem wIM_X12_is : Cond.instanceMethod yX12_is ∈ jT := jT_t7 (i := 11) (by decide +kernel) (by decide +kernel)
theorem wSE_X12_is : Cond.selects yX12_is.cls yX12_is yX12_is ∈ jT := jT_in (i := 42) (by decide +kernel) (by decide +kernel)
theorem wIM_X12_isAnyEarly : Cond.instanceMethod yX12_isAnyEarly ∈ jT := jT_t8 (i := 81) (by decide +kernel) (by decide +kernel)
theorem wSE_X12_isAnyEarly : Cond.selects yX12_isAnyEarly.cls yX12_isAnyEarly yX12_isAnyEarly ∈ jT := jT_in (i := 80) (by decide +kernel) (by decide +kernel)
theorem wIM_X12_isBack : Cond.instanceMethod yX12_isBack ∈ jT := jT_t7 (i := 213) (by decide +kernel) (by decide +kernel)
theorem wSE_X12_isBack : Cond.selects yX12_isBack.cls yX12_isBack yX12_isBack ∈ jT := jT_in (i := 71) (by decide +kernel) (by decide +kernel)
theorem wIM_X12_isBehind : Cond.instanceMethod yX12_isBehind ∈ jT := jT_t7 (i := 217) (by decide +kernel) (by decide +kernel)
theorem wSE_X12_isBehind : Cond.selects yX12_isBehind.cls yX12_isBehind yX12_isBehind ∈ jT := jT_in (i := 72) (by decide +kernel) (by decide +kernel)
theorem wIM_X12_isEarly : Cond.instanceMethod yX12_isEarly ∈ jT := jT_t7 (i := 98) (by decide +kernel) (by decide +kernel)
theorem wSE_X12_isEarly : Cond.selects yX12_isEarly.cls yX12_isEarly yX12_isEarly ∈ jT := jT_in (i := 59) (by decide +kernel) (by decide +kernel)
theorem wIM_X12_isFree : Cond.instanceMethod yX12_isFree ∈ jT := jT_t8 (i := 33) (by decide +kernel) (by decide +kernel)
theorem wSE_X12_isFree : Cond.selects yX12_isFree.cls yX12_isFree yX12_isFree ∈ jT := jT_in (i := 76) (by decide +kernel) (by decide +kernel)
theorem wIM_X12_isLine : Cond.instanceMethod yX12_isLine ∈ jT := jT_t6 (i := 198) (by decide +kernel) (by decide +kernel)
theorem wSE_X12_isLine : Cond.selects yX12_isLine.cls yX12_isLine yX12_isLine ∈ jT := jT_in (i := 34) (by decide +kernel) (by decide +kernel)
theorem wIM_X12_isMuddled : Cond.instanceMethod yX12_isMuddled ∈ jT := jT_t7 (i := 234) (by decide +kernel) (by decide +kernel)
theorem wSE_X12_isMuddled : Cond.selects yX12_isMuddled.cls yX12_isMuddled yX12_isMuddled ∈ jT := jT_in (i := 73) (by decide +kernel) (by decide +kernel)
theorem wIM_X12_isThere : Cond.instanceMethod yX12_isThere ∈ jT := jT_t7 (i := 209) (by decide +kernel) (by decide +kernel)
theorem wSE_X12_isThere : Cond.selects yX12_isThere.cls yX12_isThere yX12_isThere ∈ jT := jT_in (i := 70) (by decide +kernel) (by decide +kernel)
theorem wIM_X12_keyAt : Cond.instanceMethod yX12_keyAt ∈ jT := jT_t6 (i := 229) (by decide +kernel) (by decide +kernel)
theorem wSE_X12_keyAt : Cond.selects yX12_keyAt.cls yX12_keyAt yX12_keyAt ∈ jT := jT_in (i := 38) (by decide +kernel) (by decide +kernel)
theorem wIM_X12_likeOf : Cond.instanceMethod yX12_likeOf ∈ jT := jT_t6 (i := 206) (by decide +kernel) (by decide +kernel)
theorem wSE_X12_likeOf : Cond.selects yX12_likeOf.cls yX12_likeOf yX12_likeOf ∈ jT := jT_in (i := 35) (by decide +kernel) (by decide +kernel)
theorem wIM_X12_looks : Cond.instanceMethod yX12_looks ∈ jT := jT_t7 (i := 110) (by decide +kernel) (by decide +kernel)
theorem wSE_X12_looks : Cond.selects yX12_looks.cls yX12_looks yX12_looks ∈ jT := jT_in (i := 62) (by decide +kernel) (by decide +kernel)
theorem wIM_X12_matchesOf : Cond.instanceMethod yX12_matchesOf ∈ jT := jT_t7 (i := 160) (by decide +kernel) (by decide +kernel)
theorem wSE_X12_matchesOf : Cond.selects yX12_matchesOf.cls yX12_matchesOf yX12_matchesOf ∈ jT := jT_in (i := 67) (by decide +kernel) (by decide +kernel)
theorem wIM_X12_meets : Cond.instanceMethod yX12_meets ∈ jT := jT_t7 (i := 142) (by decide +kernel) (by decide +kernel)
theorem wSE_X12_meets : Cond.selects yX12_meets.cls yX12_meets yX12_meets ∈ jT := jT_in (i := 66) (by decide +kernel) (by decide +kernel)
theorem wIM_X12_mostOfPrint : Cond.instanceMethod yX12_mostOfPrint ∈ jT := jT_t7 (i := 122) (by decide +kernel) (by decide +kernel)
theorem wSE_X12_mostOfPrint : Cond.selects yX12_mostOfPrint.cls yX12_mostOfPrint yX12_mostOfPrint ∈ jT := jT_in (i := 64) (by decide +kernel) (by decide +kernel)
theorem wIM_X12_mostOfSongs : Cond.instanceMethod yX12_mostOfSongs ∈ jT := jT_t7 (i := 118) (by decide +kernel) (by decide +kernel)
theorem wSE_X12_mostOfSongs : Cond.selects yX12_mostOfSongs.cls yX12_mostOfSongs yX12_mostOfSongs ∈ jT := jT_in (i := 63) (by decide +kernel) (by decide +kernel)
theorem wIM_X12_needs : Cond.instanceMethod yX12_needs ∈ jT := jT_t7 (i := 19) (by decide +kernel) (by decide +kernel)
theorem wSE_X12_needs : Cond.selects yX12_needs.cls yX12_needs yX12_needs ∈ jT := jT_in (i := 44) (by decide +kernel) (by decide +kernel)
theorem wIM_X12_next : Cond.instanceMethod yX12_next ∈ jT := jT_t6 (i := 218) (by decide +kernel) (by decide +kernel)
theorem wSE_X12_next : Cond.selects yX12_next.cls yX12_next yX12_next ∈ jT := jT_in (i := 36) (by decide +kernel) (by decide +kernel)
theorem wIM_X12_no : Cond.instanceMethod yX12_no ∈ jT := jT_t6 (i := 160) (by decide +kernel) (by decide +kernel)
theorem wSE_X12_no : Cond.selects yX12_no.cls yX12_no yX12_no ∈ jT := jT_in (i := 32) (by decide +kernel) (by decide +kernel)
theorem wIM_X12_opens : Cond.instanceMethod yX12_opens ∈ jT := jT_t6 (i := 168) (by decide +kernel) (by decide +kernel)
theorem wSE_X12_opens : Cond.selects yX12_opens.cls yX12_opens yX12_opens ∈ jT := jT_in (i := 33) (by decide +kernel) (by decide +kernel)
theorem wIM_X12_pagesIn : Cond.instanceMethod yX12_pagesIn ∈ jT := jT_t8 (i := 17) (by decide +kernel) (by decide +kernel)
theorem wSE_X12_pagesIn : Cond.selects yX12_pagesIn.cls yX12_pagesIn yX12_pagesIn ∈ jT := jT_in (i := 74) (by decide +kernel) (by decide +kernel)
theorem wIM_X12_parts : Cond.instanceMethod yX12_parts ∈ jT := jT_t7 (i := 31) (by decide +kernel) (by decide +kernel)
theorem wSE_X12_parts : Cond.selects yX12_parts.cls yX12_parts yX12_parts ∈ jT := jT_in (i := 47) (by decide +kernel) (by decide +kernel)
theorem wIM_X12_readRule : Cond.instanceMethod yX12_readRule ∈ jT := jT_t6 (i := 239) (by decide +kernel) (by decide +kernel)
theorem wSE_X12_readRule : Cond.selects yX12_readRule.cls yX12_readRule yX12_readRule ∈ jT := jT_in (i := 39) (by decide +kernel) (by decide +kernel)
theorem wIM_X12_readWay : Cond.instanceMethod yX12_readWay ∈ jT := jT_t7 (i := 43) (by decide +kernel) (by decide +kernel)
theorem wSE_X12_readWay : Cond.selects yX12_readWay.cls yX12_readWay yX12_readWay ∈ jT := jT_in (i := 50) (by decide +kernel) (by decide +kernel)
theorem wIM_X12_reads : Cond.instanceMethod yX12_reads ∈ jT := jT_t7 (i := 7) (by decide +kernel) (by decide +kernel)
theorem wSE_X12_reads : Cond.selects yX12_reads.cls yX12_reads yX12_reads ∈ jT := jT_in (i := 41) (by decide +kernel) (by decide +kernel)
theorem wIM_X12_said : Cond.instanceMethod yX12_said ∈ jT := jT_t7 (i := 86) (by decide +kernel) (by decide +kernel)
theorem wSE_X12_said : Cond.selects yX12_said.cls yX12_said yX12_said ∈ jT := jT_in (i := 57) (by decide +kernel) (by decide +kernel)
theorem wIM_X12_saying : Cond.instanceMethod yX12_saying ∈ jT := jT_t8 (i := 57) (by decide +kernel) (by decide +kernel)
theorem wSE_X12_saying : Cond.selects yX12_saying.cls yX12_saying yX12_saying ∈ jT := jT_in (i := 79) (by decide +kernel) (by decide +kernel)
theorem wIM_X12_see : Cond.instanceMethod yX12_see ∈ jT := jT_t6 (i := 222) (by decide +kernel) (by decide +kernel)
theorem wSE_X12_see : Cond.selects yX12_see.cls yX12_see yX12_see ∈ jT := jT_in (i := 37) (by decide +kernel) (by decide +kernel)
theorem wIM_X12_side : Cond.instanceMethod yX12_side ∈ jT := jT_t7 (i := 3) (by decide +kernel) (by decide +kernel)
theorem wSE_X12_side : Cond.selects yX12_side.cls yX12_side yX12_side ∈ jT := jT_in (i := 40) (by decide +kernel) (by decide +kernel)
theorem wIM_X12_smooth : Cond.instanceMethod yX12_smooth ∈ jT := jT_t7 (i := 57) (by decide +kernel) (by decide +kernel)
theorem wSE_X12_smooth : Cond.selects yX12_smooth.cls yX12_smooth yX12_smooth ∈ jT := jT_in (i := 51) (by decide +kernel) (by decide +kernel)
theorem wIM_X12_smooths : Cond.instanceMethod yX12_smooths ∈ jT := jT_t7 (i := 94) (by decide +kernel) (by decide +kernel)
theorem wSE_X12_smooths : Cond.selects yX12_smooths.cls yX12_smooths yX12_smooths ∈ jT := jT_in (i := 58) (by decide +kernel) (by decide +kernel)
theorem wIM_X12_stands : Cond.instanceMethod yX12_stands ∈ jT := jT_t7 (i := 73) (by decide +kernel) (by decide +kernel)
theorem wSE_X12_stands : Cond.selects yX12_stands.cls yX12_stands yX12_stands ∈ jT := jT_in (i := 55) (by decide +kernel) (by decide +kernel)
theorem wIM_X12_test : Cond.instanceMethod yX12_test ∈ jT := jT_t7 (i := 27) (by decide +kernel) (by decide +kernel)
theorem wSE_X12_test : Cond.selects yX12_test.cls yX12_test yX12_test ∈ jT := jT_in (i := 46) (by decide +kernel) (by decide +kernel)
theorem wIM_X12_weightOf : Cond.instanceMethod yX12_weightOf ∈ jT := jT_t8 (i := 53) (by decide +kernel) (by decide +kernel)
theorem wSE_X12_weightOf : Cond.selects yX12_weightOf.cls yX12_weightOf yX12_weightOf ∈ jT := jT_in (i := 78) (by decide +kernel) (by decide +kernel)
theorem wIM_X12_whoseIs : Cond.instanceMethod yX12_whoseIs ∈ jT := jT_t7 (i := 102) (by decide +kernel) (by decide +kernel)
theorem wSE_X12_whoseIs : Cond.selects yX12_whoseIs.cls yX12_whoseIs yX12_whoseIs ∈ jT := jT_in (i := 60) (by decide +kernel) (by decide +kernel)
theorem wIM_X1_clear : Cond.instanceMethod yX1_clear ∈ jT := jT_t3 (i := 214) (by decide +kernel) (by decide +kernel)
theorem wSE_X1_clear : Cond.selects yX1_clear.cls yX1_clear yX1_clear ∈ jT := jT_t3 (i := 215) (by decide +kernel) (by decide +kernel)
theorem wIM_X1_copy : Cond.instanceMethod yX1_copy ∈ jT := jT_t4 (i := 48) (by decide +kernel) (by decide +kernel)
theorem wSE_X1_copy : Cond.selects yX1_copy.cls yX1_copy yX1_copy ∈ jT := jT_t4 (i := 49) (by decide +kernel) (by decide +kernel)
theorem wIM_X1_emit : Cond.instanceMethod yX1_emit ∈ jT := jT_t4 (i := 15) (by decide +kernel) (by decide +kernel)
theorem wSE_X1_emit : Cond.selects yX1_emit.cls yX1_emit yX1_emit ∈ jT := jT_t4 (i := 16) (by decide +kernel) (by decide +kernel)
theorem wIM_X1_holds : Cond.instanceMethod yX1_holds ∈ jT := jT_t3 (i := 39) (by decide +kernel) (by decide +kernel)
theorem wSE_X1_holds : Cond.selects yX1_holds.cls yX1_holds yX1_holds ∈ jT := jT_in (i := 2) (by decide +kernel) (by decide +kernel)
theorem wIM_X1_put : Cond.instanceMethod yX1_put ∈ jT := jT_t4 (i := 19) (by decide +kernel) (by decide +kernel)
theorem wSE_X1_put : Cond.selects yX1_put.cls yX1_put yX1_put ∈ jT := jT_t4 (i := 20) (by decide +kernel) (by decide +kernel)
theorem wIM_X1_replaced : Cond.instanceMethod yX1_replaced ∈ jT := jT_t3 (i := 52) (by decide +kernel) (by decide +kernel)
theorem wSE_X1_replaced : Cond.selects yX1_replaced.cls yX1_replaced yX1_replaced ∈ jT := jT_in (i := 4) (by decide +kernel) (by decide +kernel)
theorem wIM_X1_smooth : Cond.instanceMethod yX1_smooth ∈ jT := jT_t3 (i := 30) (by decide +kernel) (by decide +kernel)
theorem wSE_X1_smooth : Cond.selects yX1_smooth.cls yX1_smooth yX1_smooth ∈ jT := jT_t3 (i := 31) (by decide +kernel) (by decide +kernel)
theorem wIM_X1_step : Cond.instanceMethod yX1_step ∈ jT := jT_t3 (i := 35) (by decide +kernel) (by decide +kernel)
theorem wSE_X1_step : Cond.selects yX1_step.cls yX1_step yX1_step ∈ jT := jT_in (i := 1) (by decide +kernel) (by decide +kernel)
theorem wIM_X1_taken : Cond.instanceMethod yX1_taken ∈ jT := jT_t3 (i := 43) (by decide +kernel) (by decide +kernel)
theorem wSE_X1_taken : Cond.selects yX1_taken.cls yX1_taken yX1_taken ∈ jT := jT_in (i := 3) (by decide +kernel) (by decide +kernel)
theorem wIM_X2_addsOf : Cond.instanceMethod yX2_addsOf ∈ jT := jT_t4 (i := 198) (by decide +kernel) (by decide +kernel)
theorem wSE_X2_addsOf : Cond.selects yX2_addsOf.cls yX2_addsOf yX2_addsOf ∈ jT := jT_t4 (i := 199) (by decide +kernel) (by decide +kernel)
theorem wIM_X2_bookHasLike : Cond.instanceMethod yX2_bookHasLike ∈ jT := jT_t4 (i := 187) (by decide +kernel) (by decide +kernel)
theorem wSE_X2_bookHasLike : Cond.selects yX2_bookHasLike.cls yX2_bookHasLike yX2_bookHasLike ∈ jT := jT_in (i := 21) (by decide +kernel) (by decide +kernel)
theorem wIM_X2_countKinds : Cond.instanceMethod yX2_countKinds ∈ jT := jT_t4 (i := 136) (by decide +kernel) (by decide +kernel)
theorem wSE_X2_countKinds : Cond.selects yX2_countKinds.cls yX2_countKinds yX2_countKinds ∈ jT := jT_t4 (i := 137) (by decide +kernel) (by decide +kernel)
theorem wIM_X2_isAmong : Cond.instanceMethod yX2_isAmong ∈ jT := jT_t4 (i := 116) (by decide +kernel) (by decide +kernel)
theorem wSE_X2_isAmong : Cond.selects yX2_isAmong.cls yX2_isAmong yX2_isAmong ∈ jT := jT_in (i := 19) (by decide +kernel) (by decide +kernel)
theorem wIM_X2_isBack : Cond.instanceMethod yX2_isBack ∈ jT := jT_t5 (i := 15) (by decide +kernel) (by decide +kernel)
theorem wSE_X2_isBack : Cond.selects yX2_isBack.cls yX2_isBack yX2_isBack ∈ jT := jT_t5 (i := 16) (by decide +kernel) (by decide +kernel)
theorem wIM_X2_isCounted : Cond.instanceMethod yX2_isCounted ∈ jT := jT_t5 (i := 54) (by decide +kernel) (by decide +kernel)
theorem wSE_X2_isCounted : Cond.selects yX2_isCounted.cls yX2_isCounted yX2_isCounted ∈ jT := jT_t5 (i := 55) (by decide +kernel) (by decide +kernel)
theorem wIM_X2_isMuddled : Cond.instanceMethod yX2_isMuddled ∈ jT := jT_t5 (i := 46) (by decide +kernel) (by decide +kernel)
theorem wSE_X2_isMuddled : Cond.selects yX2_isMuddled.cls yX2_isMuddled yX2_isMuddled ∈ jT := jT_in (i := 23) (by decide +kernel) (by decide +kernel)
theorem wIM_X2_look : Cond.instanceMethod yX2_look ∈ jT := jT_t4 (i := 101) (by decide +kernel) (by decide +kernel)
theorem wSE_X2_look : Cond.selects yX2_look.cls yX2_look yX2_look ∈ jT := jT_t4 (i := 102) (by decide +kernel) (by decide +kernel)
theorem wIM_X2_matchesOf : Cond.instanceMethod yX2_matchesOf ∈ jT := jT_t4 (i := 182) (by decide +kernel) (by decide +kernel)
theorem wSE_X2_matchesOf : Cond.selects yX2_matchesOf.cls yX2_matchesOf yX2_matchesOf ∈ jT := jT_t4 (i := 183) (by decide +kernel) (by decide +kernel)
theorem wIM_X2_muddledAt : Cond.instanceMethod yX2_muddledAt ∈ jT := jT_t5 (i := 41) (by decide +kernel) (by decide +kernel)
theorem wSE_X2_muddledAt : Cond.selects yX2_muddledAt.cls yX2_muddledAt yX2_muddledAt ∈ jT := jT_t5 (i := 42) (by decide +kernel) (by decide +kernel)
theorem wIM_X2_nearest : Cond.instanceMethod yX2_nearest ∈ jT := jT_t4 (i := 107) (by decide +kernel) (by decide +kernel)
theorem wSE_X2_nearest : Cond.selects yX2_nearest.cls yX2_nearest yX2_nearest ∈ jT := jT_t4 (i := 108) (by decide +kernel) (by decide +kernel)
theorem wIM_X2_pairs : Cond.instanceMethod yX2_pairs ∈ jT := jT_t4 (i := 161) (by decide +kernel) (by decide +kernel)
theorem wSE_X2_pairs : Cond.selects yX2_pairs.cls yX2_pairs yX2_pairs ∈ jT := jT_t4 (i := 162) (by decide +kernel) (by decide +kernel)
theorem wIM_X2_pairsBy : Cond.instanceMethod yX2_pairsBy ∈ jT := jT_t4 (i := 153) (by decide +kernel) (by decide +kernel)
theorem wSE_X2_pairsBy : Cond.selects yX2_pairsBy.cls yX2_pairsBy yX2_pairsBy ∈ jT := jT_t4 (i := 154) (by decide +kernel) (by decide +kernel)
theorem wIM_X2_partedBy : Cond.instanceMethod yX2_partedBy ∈ jT := jT_t5 (i := 28) (by decide +kernel) (by decide +kernel)
theorem wSE_X2_partedBy : Cond.selects yX2_partedBy.cls yX2_partedBy yX2_partedBy ∈ jT := jT_t5 (i := 29) (by decide +kernel) (by decide +kernel)
theorem wIM_X2_pileOf : Cond.instanceMethod yX2_pileOf ∈ jT := jT_t4 (i := 112) (by decide +kernel) (by decide +kernel)
theorem wSE_X2_pileOf : Cond.selects yX2_pileOf.cls yX2_pileOf yX2_pileOf ∈ jT := jT_in (i := 18) (by decide +kernel) (by decide +kernel)
theorem wIM_X2_printedLike : Cond.instanceMethod yX2_printedLike ∈ jT := jT_t4 (i := 158) (by decide +kernel) (by decide +kernel)
theorem wSE_X2_printedLike : Cond.selects yX2_printedLike.cls yX2_printedLike yX2_printedLike ∈ jT := jT_in (i := 20) (by decide +kernel) (by decide +kernel)
theorem wIM_X2_wouldBeTheirs : Cond.instanceMethod yX2_wouldBeTheirs ∈ jT := jT_t4 (i := 204) (by decide +kernel) (by decide +kernel)
theorem wSE_X2_wouldBeTheirs : Cond.selects yX2_wouldBeTheirs.cls yX2_wouldBeTheirs yX2_wouldBeTheirs ∈ jT := jT_in (i := 22) (by decide +kernel) (by decide +kernel)
theorem wIM_X3_clear : Cond.instanceMethod yX3_clear ∈ jT := jT_t4 (i := 27) (by decide +kernel) (by decide +kernel)
theorem wSE_X3_clear : Cond.selects yX3_clear.cls yX3_clear yX3_clear ∈ jT := jT_t4 (i := 28) (by decide +kernel) (by decide +kernel)
theorem wIM_X3_copy : Cond.instanceMethod yX3_copy ∈ jT := jT_t4 (i := 56) (by decide +kernel) (by decide +kernel)
theorem wSE_X3_copy : Cond.selects yX3_copy.cls yX3_copy yX3_copy ∈ jT := jT_t4 (i := 57) (by decide +kernel) (by decide +kernel)
theorem wIM_X3_putChance : Cond.instanceMethod yX3_putChance ∈ jT := jT_t4 (i := 40) (by decide +kernel) (by decide +kernel)
theorem wSE_X3_putChance : Cond.selects yX3_putChance.cls yX3_putChance yX3_putChance ∈ jT := jT_t4 (i := 41) (by decide +kernel) (by decide +kernel)
theorem wIM_X3_putSaying : Cond.instanceMethod yX3_putSaying ∈ jT := jT_t4 (i := 36) (by decide +kernel) (by decide +kernel)
theorem wSE_X3_putSaying : Cond.selects yX3_putSaying.cls yX3_putSaying yX3_putSaying ∈ jT := jT_t4 (i := 37) (by decide +kernel) (by decide +kernel)
theorem wIM_X3_respoken : Cond.instanceMethod yX3_respoken ∈ jT := jT_t4 (i := 85) (by decide +kernel) (by decide +kernel)
theorem wSE_X3_respoken : Cond.selects yX3_respoken.cls yX3_respoken yX3_respoken ∈ jT := jT_t4 (i := 86) (by decide +kernel) (by decide +kernel)
theorem wIM_X5_at : Cond.instanceMethod yX5_at ∈ jT := jT_t3 (i := 81) (by decide +kernel) (by decide +kernel)
theorem wSE_X5_at : Cond.selects yX5_at.cls yX5_at yX5_at ∈ jT := jT_t3 (i := 82) (by decide +kernel) (by decide +kernel)
theorem wIM_X5_copy : Cond.instanceMethod yX5_copy ∈ jT := jT_t5 (i := 232) (by decide +kernel) (by decide +kernel)
theorem wSE_X5_copy : Cond.selects yX5_copy.cls yX5_copy yX5_copy ∈ jT := jT_t5 (i := 233) (by decide +kernel) (by decide +kernel)
theorem wIM_X5_has : Cond.instanceMethod yX5_has ∈ jT := jT_t2 (i := 238) (by decide +kernel) (by decide +kernel)
theorem wSE_X5_has : Cond.selects yX5_has.cls yX5_has yX5_has ∈ jT := jT_t2 (i := 239) (by decide +kernel) (by decide +kernel)
theorem wIM_X5_has_ : Cond.instanceMethod yX5_has_ ∈ jT := jT_t3 (i := 77) (by decide +kernel) (by decide +kernel)
theorem wSE_X5_has_ : Cond.selects yX5_has_.cls yX5_has_ yX5_has_ ∈ jT := jT_t3 (i := 78) (by decide +kernel) (by decide +kernel)
theorem wIM_X5_isFull : Cond.instanceMethod yX5_isFull ∈ jT := jT_t2 (i := 19) (by decide +kernel) (by decide +kernel)
theorem wSE_X5_isFull : Cond.selects yX5_isFull.cls yX5_isFull yX5_isFull ∈ jT := jT_t2 (i := 20) (by decide +kernel) (by decide +kernel)
theorem wIM_X5_isFull_ : Cond.instanceMethod yX5_isFull_ ∈ jT := jT_t3 (i := 15) (by decide +kernel) (by decide +kernel)
theorem wSE_X5_isFull_ : Cond.selects yX5_isFull_.cls yX5_isFull_ yX5_isFull_ ∈ jT := jT_t3 (i := 16) (by decide +kernel) (by decide +kernel)
theorem wIM_X5_put : Cond.instanceMethod yX5_put ∈ jT := jT_t3 (i := 25) (by decide +kernel) (by decide +kernel)
theorem wSE_X5_put : Cond.selects yX5_put.cls yX5_put yX5_put ∈ jT := jT_t3 (i := 26) (by decide +kernel) (by decide +kernel)
theorem wIM_X5_start : Cond.instanceMethod yX5_start ∈ jT := jT_t2 (i := 15) (by decide +kernel) (by decide +kernel)
theorem wSE_X5_start : Cond.selects yX5_start.cls yX5_start yX5_start ∈ jT := jT_t2 (i := 16) (by decide +kernel) (by decide +kernel)
theorem wIM_X6_blame : Cond.instanceMethod yX6_blame ∈ jT := jT_t3 (i := 235) (by decide +kernel) (by decide +kernel)
theorem wSE_X6_blame : Cond.selects yX6_blame.cls yX6_blame yX6_blame ∈ jT := jT_in (i := 11) (by decide +kernel) (by decide +kernel)
theorem wIM_X6_isAt : Cond.instanceMethod yX6_isAt ∈ jT := jT_t3 (i := 219) (by decide +kernel) (by decide +kernel)
theorem wSE_X6_isAt : Cond.selects yX6_isAt.cls yX6_isAt yX6_isAt ∈ jT := jT_in (i := 7) (by decide +kernel) (by decide +kernel)
theorem wIM_X6_putToken : Cond.instanceMethod yX6_putToken ∈ jT := jT_t3 (i := 207) (by decide +kernel) (by decide +kernel)
theorem wSE_X6_putToken : Cond.selects yX6_putToken.cls yX6_putToken yX6_putToken ∈ jT := jT_in (i := 6) (by decide +kernel) (by decide +kernel)
theorem wIM_X6_readFact : Cond.instanceMethod yX6_readFact ∈ jT := jT_t4 (i := 8) (by decide +kernel) (by decide +kernel)
theorem wSE_X6_readFact : Cond.selects yX6_readFact.cls yX6_readFact yX6_readFact ∈ jT := jT_in (i := 14) (by decide +kernel) (by decide +kernel)
theorem wIM_X6_readFashion : Cond.instanceMethod yX6_readFashion ∈ jT := jT_t3 (i := 210) (by decide +kernel) (by decide +kernel)
theorem wSE_X6_readFashion : Cond.selects yX6_readFashion.cls yX6_readFashion yX6_readFashion ∈ jT := jT_t3 (i := 211) (by decide +kernel) (by decide +kernel)
theorem wIM_X6_readLaw : Cond.instanceMethod yX6_readLaw ∈ jT := jT_t4 (i := 23) (by decide +kernel) (by decide +kernel)
theorem wSE_X6_readLaw : Cond.selects yX6_readLaw.cls yX6_readLaw yX6_readLaw ∈ jT := jT_t4 (i := 24) (by decide +kernel) (by decide +kernel)
theorem wIM_X6_readNumber : Cond.instanceMethod yX6_readNumber ∈ jT := jT_t3 (i := 231) (by decide +kernel) (by decide +kernel)
theorem wSE_X6_readNumber : Cond.selects yX6_readNumber.cls yX6_readNumber yX6_readNumber ∈ jT := jT_in (i := 10) (by decide +kernel) (by decide +kernel)
theorem wIM_X6_readPlainFact : Cond.instanceMethod yX6_readPlainFact ∈ jT := jT_t4 (i := 12) (by decide +kernel) (by decide +kernel)
theorem wSE_X6_readPlainFact : Cond.selects yX6_readPlainFact.cls yX6_readPlainFact yX6_readPlainFact ∈ jT := jT_in (i := 15) (by decide +kernel) (by decide +kernel)
theorem wIM_X6_readRule : Cond.instanceMethod yX6_readRule ∈ jT := jT_t3 (i := 223) (by decide +kernel) (by decide +kernel)
theorem wSE_X6_readRule : Cond.selects yX6_readRule.cls yX6_readRule yX6_readRule ∈ jT := jT_in (i := 8) (by decide +kernel) (by decide +kernel)
theorem wIM_X6_readSide : Cond.instanceMethod yX6_readSide ∈ jT := jT_t3 (i := 227) (by decide +kernel) (by decide +kernel)
theorem wSE_X6_readSide : Cond.selects yX6_readSide.cls yX6_readSide yX6_readSide ∈ jT := jT_in (i := 9) (by decide +kernel) (by decide +kernel)
theorem wIM_X6_readTest : Cond.instanceMethod yX6_readTest ∈ jT := jT_t4 (i := 4) (by decide +kernel) (by decide +kernel)
theorem wSE_X6_readTest : Cond.selects yX6_readTest.cls yX6_readTest yX6_readTest ∈ jT := jT_in (i := 13) (by decide +kernel) (by decide +kernel)
theorem wIM_X6_readWay : Cond.instanceMethod yX6_readWay ∈ jT := jT_t4 (i := 33) (by decide +kernel) (by decide +kernel)
theorem wSE_X6_readWay : Cond.selects yX6_readWay.cls yX6_readWay yX6_readWay ∈ jT := jT_in (i := 16) (by decide +kernel) (by decide +kernel)
theorem wIM_X6_scan : Cond.instanceMethod yX6_scan ∈ jT := jT_t3 (i := 116) (by decide +kernel) (by decide +kernel)
theorem wSE_X6_scan : Cond.selects yX6_scan.cls yX6_scan yX6_scan ∈ jT := jT_t3 (i := 117) (by decide +kernel) (by decide +kernel)
theorem wIM_X6_take : Cond.instanceMethod yX6_take ∈ jT := jT_t4 (i := 0) (by decide +kernel) (by decide +kernel)
theorem wSE_X6_take : Cond.selects yX6_take.cls yX6_take yX6_take ∈ jT := jT_in (i := 12) (by decide +kernel) (by decide +kernel)
theorem wIM_X7_at : Cond.instanceMethod yX7_at ∈ jT := jT_t5 (i := 204) (by decide +kernel) (by decide +kernel)
theorem wSE_X7_at : Cond.selects yX7_at.cls yX7_at yX7_at ∈ jT := jT_t5 (i := 205) (by decide +kernel) (by decide +kernel)
theorem wIM_X7_canBe : Cond.instanceMethod yX7_canBe ∈ jT := jT_t5 (i := 173) (by decide +kernel) (by decide +kernel)
theorem wSE_X7_canBe : Cond.selects yX7_canBe.cls yX7_canBe yX7_canBe ∈ jT := jT_t5 (i := 174) (by decide +kernel) (by decide +kernel)
theorem wIM_X7_lay : Cond.instanceMethod yX7_lay ∈ jT := jT_t5 (i := 178) (by decide +kernel) (by decide +kernel)
theorem wSE_X7_lay : Cond.selects yX7_lay.cls yX7_lay yX7_lay ∈ jT := jT_t5 (i := 179) (by decide +kernel) (by decide +kernel)
theorem wIM_X7_put : Cond.instanceMethod yX7_put ∈ jT := jT_t5 (i := 193) (by decide +kernel) (by decide +kernel)
theorem wSE_X7_put : Cond.selects yX7_put.cls yX7_put yX7_put ∈ jT := jT_t5 (i := 194) (by decide +kernel) (by decide +kernel)
theorem wIM_X8_copy : Cond.instanceMethod yX8_copy ∈ jT := jT_t5 (i := 228) (by decide +kernel) (by decide +kernel)
theorem wSE_X8_copy : Cond.selects yX8_copy.cls yX8_copy yX8_copy ∈ jT := jT_t5 (i := 229) (by decide +kernel) (by decide +kernel)
theorem wIM_X8_follow : Cond.instanceMethod yX8_follow ∈ jT := jT_t4 (i := 44) (by decide +kernel) (by decide +kernel)
theorem wSE_X8_follow : Cond.selects yX8_follow.cls yX8_follow yX8_follow ∈ jT := jT_t4 (i := 45) (by decide +kernel) (by decide +kernel)
theorem wIM_X8_hasEarly : Cond.instanceMethod yX8_hasEarly ∈ jT := jT_t5 (i := 215) (by decide +kernel) (by decide +kernel)
theorem wSE_X8_hasEarly : Cond.selects yX8_hasEarly.cls yX8_hasEarly yX8_hasEarly ∈ jT := jT_t5 (i := 216) (by decide +kernel) (by decide +kernel)
theorem wIM_X8_hasWordAfter : Cond.instanceMethod yX8_hasWordAfter ∈ jT := jT_t4 (i := 224) (by decide +kernel) (by decide +kernel)
theorem wSE_X8_hasWordAfter : Cond.selects yX8_hasWordAfter.cls yX8_hasWordAfter yX8_hasWordAfter ∈ jT := jT_t4 (i := 225) (by decide +kernel) (by decide +kernel)
theorem wIM_X8_isEarly : Cond.instanceMethod yX8_isEarly ∈ jT := jT_t4 (i := 119) (by decide +kernel) (by decide +kernel)
theorem wSE_X8_isEarly : Cond.selects yX8_isEarly.cls yX8_isEarly yX8_isEarly ∈ jT := jT_t4 (i := 120) (by decide +kernel) (by decide +kernel)
theorem wIM_X8_moveAbout : Cond.instanceMethod yX8_moveAbout ∈ jT := jT_t4 (i := 91) (by decide +kernel) (by decide +kernel)
theorem wSE_X8_moveAbout : Cond.selects yX8_moveAbout.cls yX8_moveAbout yX8_moveAbout ∈ jT := jT_in (i := 17) (by decide +kernel) (by decide +kernel)
theorem wIM_X8_pile : Cond.instanceMethod yX8_pile ∈ jT := jT_t2 (i := 227) (by decide +kernel) (by decide +kernel)
theorem wSE_X8_pile : Cond.selects yX8_pile.cls yX8_pile yX8_pile ∈ jT := jT_t2 (i := 228) (by decide +kernel) (by decide +kernel)
theorem wIM_X8_putIntoSong : Cond.instanceMethod yX8_putIntoSong ∈ jT := jT_t3 (i := 20) (by decide +kernel) (by decide +kernel)
theorem wSE_X8_putIntoSong : Cond.selects yX8_putIntoSong.cls yX8_putIntoSong yX8_putIntoSong ∈ jT := jT_t3 (i := 21) (by decide +kernel) (by decide +kernel)
theorem wIM_X8_tellOn : Cond.instanceMethod yX8_tellOn ∈ jT := jT_t4 (i := 74) (by decide +kernel) (by decide +kernel)
theorem wSE_X8_tellOn : Cond.selects yX8_tellOn.cls yX8_tellOn yX8_tellOn ∈ jT := jT_t4 (i := 75) (by decide +kernel) (by decide +kernel)
theorem wIM_X9_allPaid : Cond.instanceMethod yX9_allPaid ∈ jT := jT_t5 (i := 80) (by decide +kernel) (by decide +kernel)
theorem wSE_X9_allPaid : Cond.selects yX9_allPaid.cls yX9_allPaid yX9_allPaid ∈ jT := jT_t5 (i := 81) (by decide +kernel) (by decide +kernel)
theorem wIM_X9_copy : Cond.instanceMethod yX9_copy ∈ jT := jT_t6 (i := 4) (by decide +kernel) (by decide +kernel)
theorem wSE_X9_copy : Cond.selects yX9_copy.cls yX9_copy yX9_copy ∈ jT := jT_t6 (i := 5) (by decide +kernel) (by decide +kernel)
theorem wIM_X9_fill : Cond.instanceMethod yX9_fill ∈ jT := jT_t5 (i := 72) (by decide +kernel) (by decide +kernel)
theorem wSE_X9_fill : Cond.selects yX9_fill.cls yX9_fill yX9_fill ∈ jT := jT_t5 (i := 73) (by decide +kernel) (by decide +kernel)
theorem wIM_X9_firstSpanEndingFrom : Cond.instanceMethod yX9_firstSpanEndingFrom ∈ jT := jT_t5 (i := 113) (by decide +kernel) (by decide +kernel)
theorem wSE_X9_firstSpanEndingFrom : Cond.selects yX9_firstSpanEndingFrom.cls yX9_firstSpanEndingFrom yX9_firstSpanEndingFrom ∈ jT := jT_in (i := 26) (by decide +kernel) (by decide +kernel)
theorem wIM_X9_freeUpTo : Cond.instanceMethod yX9_freeUpTo ∈ jT := jT_t5 (i := 109) (by decide +kernel) (by decide +kernel)
theorem wSE_X9_freeUpTo : Cond.selects yX9_freeUpTo.cls yX9_freeUpTo yX9_freeUpTo ∈ jT := jT_in (i := 25) (by decide +kernel) (by decide +kernel)
theorem wIM_X9_leastRate : Cond.instanceMethod yX9_leastRate ∈ jT := jT_t5 (i := 104) (by decide +kernel) (by decide +kernel)
theorem wSE_X9_leastRate : Cond.selects yX9_leastRate.cls yX9_leastRate yX9_leastRate ∈ jT := jT_t5 (i := 105) (by decide +kernel) (by decide +kernel)
theorem wIM_X9_leave : Cond.instanceMethod yX9_leave ∈ jT := jT_t5 (i := 96) (by decide +kernel) (by decide +kernel)
theorem wSE_X9_leave : Cond.selects yX9_leave.cls yX9_leave yX9_leave ∈ jT := jT_t5 (i := 97) (by decide +kernel) (by decide +kernel)
theorem wIM_X9_moreBy : Cond.instanceMethod yX9_moreBy ∈ jT := jT_t5 (i := 84) (by decide +kernel) (by decide +kernel)
theorem wSE_X9_moreBy : Cond.selects yX9_moreBy.cls yX9_moreBy yX9_moreBy ∈ jT := jT_t5 (i := 85) (by decide +kernel) (by decide +kernel)
theorem wIM_X9_pagesOf : Cond.instanceMethod yX9_pagesOf ∈ jT := jT_t5 (i := 89) (by decide +kernel) (by decide +kernel)
theorem wSE_X9_pagesOf : Cond.selects yX9_pagesOf.cls yX9_pagesOf yX9_pagesOf ∈ jT := jT_in (i := 24) (by decide +kernel) (by decide +kernel)
theorem wIM_X9_pay : Cond.instanceMethod yX9_pay ∈ jT := jT_t5 (i := 63) (by decide +kernel) (by decide +kernel)
theorem wSE_X9_pay : Cond.selects yX9_pay.cls yX9_pay yX9_pay ∈ jT := jT_t5 (i := 64) (by decide +kernel) (by decide +kernel)
theorem wML_X0_39 : Cond.methodLink RX0 39 arraycopyName ∈ jT := jT_t6 (i := 2) (by decide +kernel) (by decide +kernel)
theorem wML_X1_38 : Cond.methodLink RX1 38 arraycopyName ∈ jT := jT_t4 (i := 51) (by decide +kernel) (by decide +kernel)
theorem wML_X2_51 : Cond.methodLink RX2 51 Lib.MathLoose.max_long.x ∈ jT := jT_t4 (i := 170) (by decide +kernel) (by decide +kernel)
theorem wML_X2_112 : Cond.methodLink RX2 112 Lib.Math.max.name ∈ jT := jT_t4 (i := 124) (by decide +kernel) (by decide +kernel)
theorem wML_X3_28 : Cond.methodLink RX3 28 arraycopyName ∈ jT := jT_t4 (i := 59) (by decide +kernel) (by decide +kernel)
theorem wML_X4_25 : Cond.methodLink RX4 25 Lib.Math.max.name ∈ jT := jT_t3 (i := 92) (by decide +kernel) (by decide +kernel)
theorem wML_X5_60 : Cond.methodLink RX5 60 arraycopyName ∈ jT := jT_t5 (i := 235) (by decide +kernel) (by decide +kernel)
theorem wML_X6_48 : Cond.methodLink RX6 48 Lib.Math.min.name ∈ jT := jT_t3 (i := 119) (by decide +kernel) (by decide +kernel)
theorem wML_X6_75 : Cond.methodLink RX6 75 Lib.Math.max.name ∈ jT := jT_t3 (i := 131) (by decide +kernel) (by decide +kernel)
theorem wML_X6_111 : Cond.methodLink RX6 111 yJ0_length_8abf5 ∈ jT := jT_t3 (i := 142) (by decide +kernel) (by decide +kernel)
theorem wML_X6_117 : Cond.methodLink RX6 117 yJ0_charAt_5068e ∈ jT := jT_t3 (i := 152) (by decide +kernel) (by decide +kernel)
theorem wML_X8_87 : Cond.methodLink RX8 87 arraycopyName ∈ jT := jT_t5 (i := 236) (by decide +kernel) (by decide +kernel)
theorem wML_X9_48 : Cond.methodLink RX9 48 Lib.Math.max.name ∈ jT := jT_t5 (i := 115) (by decide +kernel) (by decide +kernel)
theorem wML_X9_56 : Cond.methodLink RX9 56 Lib.Math.min.name ∈ jT := jT_t5 (i := 116) (by decide +kernel) (by decide +kernel)
theorem wML_X9_59 : Cond.methodLink RX9 59 arraycopyName ∈ jT := jT_t6 (i := 7) (by decide +kernel) (by decide +kernel)
theorem wML_X10_59 : Cond.methodLink RX10 59 arraycopyName ∈ jT := jT_t6 (i := 12) (by decide +kernel) (by decide +kernel)
theorem wML_X12_123 : Cond.methodLink RX12 123 yJ0_length_8abf5 ∈ jT := jT_t6 (i := 232) (by decide +kernel) (by decide +kernel)
theorem wML_X12_129 : Cond.methodLink RX12 129 yJ0_charAt_5068e ∈ jT := jT_t6 (i := 233) (by decide +kernel) (by decide +kernel)
theorem wLK_X11_61 : Cond.methodLink RX11 61 yX11_refuse ∈ jT := jT_t2 (i := 212) (by decide +kernel) (by decide +kernel)
theorem wLK_X11_69 : Cond.methodLink RX11 69 yX11_within ∈ jT := jT_t2 (i := 218) (by decide +kernel) (by decide +kernel)
theorem wLK_X11_73 : Cond.methodLink RX11 73 yX11_isGlenAndDay ∈ jT := jT_t2 (i := 221) (by decide +kernel) (by decide +kernel)
theorem wLK_X11_77 : Cond.methodLink RX11 77 yX8_pile ∈ jT := jT_t2 (i := 226) (by decide +kernel) (by decide +kernel)
theorem wLK_X11_81 : Cond.methodLink RX11 81 yX5_isFull ∈ jT := jT_t2 (i := 230) (by decide +kernel) (by decide +kernel)
theorem wLK_X11_87 : Cond.methodLink RX11 87 yX5_start ∈ jT := jT_t2 (i := 231) (by decide +kernel) (by decide +kernel)
theorem wLK_X11_93 : Cond.methodLink RX11 93 yX5_has ∈ jT := jT_t2 (i := 237) (by decide +kernel) (by decide +kernel)
theorem wLK_X11_97 : Cond.methodLink RX11 97 yX4_clean ∈ jT := jT_t3 (i := 1) (by decide +kernel) (by decide +kernel)
theorem wLK_X11_103 : Cond.methodLink RX11 103 yX5_isFull_ ∈ jT := jT_t3 (i := 14) (by decide +kernel) (by decide +kernel)
theorem wLK_X11_105 : Cond.methodLink RX11 105 yX8_putIntoSong ∈ jT := jT_t3 (i := 19) (by decide +kernel) (by decide +kernel)
theorem wLK_X11_109 : Cond.methodLink RX11 109 yX5_put ∈ jT := jT_t3 (i := 61) (by decide +kernel) (by decide +kernel)
theorem wLK_X11_133 : Cond.methodLink RX11 133 yX5_has_ ∈ jT := jT_t3 (i := 76) (by decide +kernel) (by decide +kernel)
theorem wLK_X11_135 : Cond.methodLink RX11 135 yX5_at ∈ jT := jT_t3 (i := 80) (by decide +kernel) (by decide +kernel)
theorem wLK_X11_139 : Cond.methodLink RX11 139 yX4_alike ∈ jT := jT_t3 (i := 89) (by decide +kernel) (by decide +kernel)
theorem wLK_X11_146 : Cond.methodLink RX11 146 yX11_feedInt ∈ jT := jT_t3 (i := 107) (by decide +kernel) (by decide +kernel)
theorem wLK_X11_150 : Cond.methodLink RX11 150 yX6_scan ∈ jT := jT_t3 (i := 115) (by decide +kernel) (by decide +kernel)
theorem wLK_X11_154 : Cond.methodLink RX11 154 yX6_readFashion ∈ jT := jT_t3 (i := 209) (by decide +kernel) (by decide +kernel)
theorem wLK_X11_157 : Cond.methodLink RX11 157 yX6_readLaw ∈ jT := jT_t4 (i := 22) (by decide +kernel) (by decide +kernel)
theorem wLK_X11_167 : Cond.methodLink RX11 167 yX8_follow ∈ jT := jT_t4 (i := 43) (by decide +kernel) (by decide +kernel)
theorem wLK_X11_182 : Cond.methodLink RX11 182 yX3_copy ∈ jT := jT_t4 (i := 55) (by decide +kernel) (by decide +kernel)
theorem wLK_X11_194 : Cond.methodLink RX11 194 yX1_smooth ∈ jT := jT_t4 (i := 68) (by decide +kernel) (by decide +kernel)
theorem wLK_X11_201 : Cond.methodLink RX11 201 yX8_tellOn ∈ jT := jT_t4 (i := 73) (by decide +kernel) (by decide +kernel)
theorem wLK_X11_208 : Cond.methodLink RX11 208 yX11_isHalf ∈ jT := jT_t4 (i := 97) (by decide +kernel) (by decide +kernel)
theorem wLK_X11_211 : Cond.methodLink RX11 211 yX2_look ∈ jT := jT_t4 (i := 100) (by decide +kernel) (by decide +kernel)
theorem wLK_X11_220 : Cond.methodLink RX11 220 yX8_isEarly ∈ jT := jT_t4 (i := 129) (by decide +kernel) (by decide +kernel)
theorem wLK_X11_223 : Cond.methodLink RX11 223 yX2_nearest ∈ jT := jT_t4 (i := 130) (by decide +kernel) (by decide +kernel)
theorem wLK_X11_230 : Cond.methodLink RX11 230 yX2_countKinds ∈ jT := jT_t4 (i := 135) (by decide +kernel) (by decide +kernel)
theorem wLK_X11_236 : Cond.methodLink RX11 236 yX11_isBound ∈ jT := jT_t4 (i := 149) (by decide +kernel) (by decide +kernel)
theorem wLK_X11_239 : Cond.methodLink RX11 239 yX2_pairsBy ∈ jT := jT_t4 (i := 152) (by decide +kernel) (by decide +kernel)
theorem wLK_X11_243 : Cond.methodLink RX11 243 yX2_pairs ∈ jT := jT_t4 (i := 160) (by decide +kernel) (by decide +kernel)
theorem wLK_X11_246 : Cond.methodLink RX11 246 yX2_fraction ∈ jT := jT_t4 (i := 164) (by decide +kernel) (by decide +kernel)
theorem wLK_X11_253 : Cond.methodLink RX11 253 yX2_matchesOf ∈ jT := jT_t4 (i := 181) (by decide +kernel) (by decide +kernel)
theorem wLK_X11_259 : Cond.methodLink RX11 259 yX2_addsOf ∈ jT := jT_t4 (i := 197) (by decide +kernel) (by decide +kernel)
theorem wLK_X11_270 : Cond.methodLink RX11 270 yX8_hasWordAfter ∈ jT := jT_t4 (i := 223) (by decide +kernel) (by decide +kernel)
theorem wLK_X11_280 : Cond.methodLink RX11 280 yX0_room ∈ jT := jT_t4 (i := 233) (by decide +kernel) (by decide +kernel)
theorem wLK_X11_284 : Cond.methodLink RX11 284 yX0_start ∈ jT := jT_t4 (i := 237) (by decide +kernel) (by decide +kernel)
theorem wLK_X11_285 : Cond.methodLink RX11 285 yX0_hear ∈ jT := jT_t5 (i := 1) (by decide +kernel) (by decide +kernel)
theorem wLK_X11_289 : Cond.methodLink RX11 289 yX0_has ∈ jT := jT_t5 (i := 13) (by decide +kernel) (by decide +kernel)
theorem wLK_X11_290 : Cond.methodLink RX11 290 yX2_isBack ∈ jT := jT_t5 (i := 14) (by decide +kernel) (by decide +kernel)
theorem wLK_X11_300 : Cond.methodLink RX11 300 yX2_partedBy ∈ jT := jT_t5 (i := 27) (by decide +kernel) (by decide +kernel)
theorem wLK_X11_303 : Cond.methodLink RX11 303 yX2_muddledAt ∈ jT := jT_t5 (i := 40) (by decide +kernel) (by decide +kernel)
theorem wLK_X11_314 : Cond.methodLink RX11 314 yX2_isCounted ∈ jT := jT_t5 (i := 53) (by decide +kernel) (by decide +kernel)
theorem wLK_X11_328 : Cond.methodLink RX11 328 yX9_pay ∈ jT := jT_t5 (i := 62) (by decide +kernel) (by decide +kernel)
theorem wLK_X11_336 : Cond.methodLink RX11 336 yX9_fill ∈ jT := jT_t5 (i := 71) (by decide +kernel) (by decide +kernel)
theorem wLK_X11_339 : Cond.methodLink RX11 339 yX9_allPaid ∈ jT := jT_t5 (i := 79) (by decide +kernel) (by decide +kernel)
theorem wLK_X11_342 : Cond.methodLink RX11 342 yX9_moreBy ∈ jT := jT_t5 (i := 83) (by decide +kernel) (by decide +kernel)
theorem wLK_X11_348 : Cond.methodLink RX11 348 yX9_leave ∈ jT := jT_t5 (i := 95) (by decide +kernel) (by decide +kernel)
theorem wLK_X11_351 : Cond.methodLink RX11 351 yX9_leastRate ∈ jT := jT_t5 (i := 103) (by decide +kernel) (by decide +kernel)
theorem wLK_X11_361 : Cond.methodLink RX11 361 yX10_start ∈ jT := jT_t5 (i := 121) (by decide +kernel) (by decide +kernel)
theorem wLK_X11_363 : Cond.methodLink RX11 363 yX10_has ∈ jT := jT_t5 (i := 129) (by decide +kernel) (by decide +kernel)
theorem wLK_X11_364 : Cond.methodLink RX11 364 yX10_tell ∈ jT := jT_t5 (i := 133) (by decide +kernel) (by decide +kernel)
theorem wLK_X11_367 : Cond.methodLink RX11 367 yX10_hasAll ∈ jT := jT_t5 (i := 142) (by decide +kernel) (by decide +kernel)
theorem wLK_X11_370 : Cond.methodLink RX11 370 yX10_weigh ∈ jT := jT_t5 (i := 146) (by decide +kernel) (by decide +kernel)
theorem wLK_X11_379 : Cond.methodLink RX11 379 yX7_canBe ∈ jT := jT_t5 (i := 172) (by decide +kernel) (by decide +kernel)
theorem wLK_X11_384 : Cond.methodLink RX11 384 yX7_lay ∈ jT := jT_t5 (i := 177) (by decide +kernel) (by decide +kernel)
theorem wLK_X11_390 : Cond.methodLink RX11 390 yX7_put ∈ jT := jT_t5 (i := 192) (by decide +kernel) (by decide +kernel)
theorem wLK_X11_393 : Cond.methodLink RX11 393 yX7_at ∈ jT := jT_t5 (i := 203) (by decide +kernel) (by decide +kernel)
theorem wLK_X11_394 : Cond.methodLink RX11 394 yX0_greatest ∈ jT := jT_t5 (i := 207) (by decide +kernel) (by decide +kernel)
theorem wLK_X11_397 : Cond.methodLink RX11 397 yX8_hasEarly ∈ jT := jT_t5 (i := 214) (by decide +kernel) (by decide +kernel)
theorem wLK_X11_400 : Cond.methodLink RX11 400 yX11_imageAt ∈ jT := jT_t5 (i := 223) (by decide +kernel) (by decide +kernel)
theorem wLK_X11_404 : Cond.methodLink RX11 404 yX8_copy ∈ jT := jT_t5 (i := 227) (by decide +kernel) (by decide +kernel)
theorem wLK_X11_410 : Cond.methodLink RX11 410 yX11_linesOf ∈ jT := jT_t6 (i := 27) (by decide +kernel) (by decide +kernel)
theorem wLK_X0_35 : Cond.methodLink RX0 35 yX0_has ∈ jT := jT_t5 (i := 5) (by decide +kernel) (by decide +kernel)
theorem wLK_X1_44 : Cond.methodLink RX1 44 yX1_step ∈ jT := jT_t3 (i := 33) (by decide +kernel) (by decide +kernel)
theorem wLK_X1_48 : Cond.methodLink RX1 48 yX1_holds ∈ jT := jT_t3 (i := 37) (by decide +kernel) (by decide +kernel)
theorem wLK_X1_52 : Cond.methodLink RX1 52 yX1_replaced ∈ jT := jT_t3 (i := 50) (by decide +kernel) (by decide +kernel)
theorem wLK_X1_56 : Cond.methodLink RX1 56 yX4_length ∈ jT := jT_t3 (i := 49) (by decide +kernel) (by decide +kernel)
theorem wLK_X1_62 : Cond.methodLink RX1 62 yX4_without ∈ jT := jT_t3 (i := 54) (by decide +kernel) (by decide +kernel)
theorem wLK_X1_65 : Cond.methodLink RX1 65 yX4_head ∈ jT := jT_t3 (i := 57) (by decide +kernel) (by decide +kernel)
theorem wLK_X1_68 : Cond.methodLink RX1 68 yX4_behind ∈ jT := jT_t3 (i := 58) (by decide +kernel) (by decide +kernel)
theorem wLK_X1_71 : Cond.methodLink RX1 71 yX1_taken ∈ jT := jT_t3 (i := 41) (by decide +kernel) (by decide +kernel)
theorem wLK_X1_77 : Cond.methodLink RX1 77 yX4_places ∈ jT := jT_t3 (i := 46) (by decide +kernel) (by decide +kernel)
theorem wLK_X2_35 : Cond.methodLink RX2 35 yX8_isEarly ∈ jT := jT_t4 (i := 118) (by decide +kernel) (by decide +kernel)
theorem wLK_X2_44 : Cond.methodLink RX2 44 yX5_has ∈ jT := jT_t4 (i := 122) (by decide +kernel) (by decide +kernel)
theorem wLK_X2_47 : Cond.methodLink RX2 47 yX2_greatestCommon ∈ jT := jT_t4 (i := 167) (by decide +kernel) (by decide +kernel)
theorem wLK_X2_56 : Cond.methodLink RX2 56 yX2_pileOf ∈ jT := jT_t4 (i := 110) (by decide +kernel) (by decide +kernel)
theorem wLK_X2_67 : Cond.methodLink RX2 67 yX2_isAmong ∈ jT := jT_t4 (i := 114) (by decide +kernel) (by decide +kernel)
theorem wLK_X2_83 : Cond.methodLink RX2 83 yX4_alike ∈ jT := jT_t4 (i := 123) (by decide +kernel) (by decide +kernel)
theorem wLK_X2_89 : Cond.methodLink RX2 89 yX5_at ∈ jT := jT_t4 (i := 104) (by decide +kernel) (by decide +kernel)
theorem wLK_X2_93 : Cond.methodLink RX2 93 yX5_has_ ∈ jT := jT_t4 (i := 105) (by decide +kernel) (by decide +kernel)
theorem wLK_X2_99 : Cond.methodLink RX2 99 yX2_nearest ∈ jT := jT_t4 (i := 106) (by decide +kernel) (by decide +kernel)
theorem wLK_X2_118 : Cond.methodLink RX2 118 yJ7_fill_53178 ∈ jT := jT_t4 (i := 139) (by decide +kernel) (by decide +kernel)
theorem wLK_X2_124 : Cond.methodLink RX2 124 yX2_look ∈ jT := jT_t4 (i := 140) (by decide +kernel) (by decide +kernel)
theorem wLK_X2_128 : Cond.methodLink RX2 128 yX2_printedLike ∈ jT := jT_t4 (i := 156) (by decide +kernel) (by decide +kernel)
theorem wLK_X2_132 : Cond.methodLink RX2 132 yX2_bookHasLike ∈ jT := jT_t4 (i := 185) (by decide +kernel) (by decide +kernel)
theorem wLK_X2_140 : Cond.methodLink RX2 140 yX1_smooth ∈ jT := jT_t4 (i := 201) (by decide +kernel) (by decide +kernel)
theorem wLK_X2_146 : Cond.methodLink RX2 146 yX2_wouldBeTheirs ∈ jT := jT_t4 (i := 202) (by decide +kernel) (by decide +kernel)
theorem wLK_X2_154 : Cond.methodLink RX2 154 yX0_has ∈ jT := jT_t5 (i := 18) (by decide +kernel) (by decide +kernel)
theorem wLK_X2_166 : Cond.methodLink RX2 166 yX2_isMuddled ∈ jT := jT_t5 (i := 44) (by decide +kernel) (by decide +kernel)
theorem wLK_X2_169 : Cond.methodLink RX2 169 yX0_heard ∈ jT := jT_t5 (i := 31) (by decide +kernel) (by decide +kernel)
theorem wLK_X2_172 : Cond.methodLink RX2 172 yX2_isBack ∈ jT := jT_t5 (i := 35) (by decide +kernel) (by decide +kernel)
theorem wLK_X3_34 : Cond.methodLink RX3 34 yJ7_fill_53178 ∈ jT := jT_t4 (i := 30) (by decide +kernel) (by decide +kernel)
theorem wLK_X3_42 : Cond.methodLink RX3 42 yX4_word ∈ jT := jT_t4 (i := 88) (by decide +kernel) (by decide +kernel)
theorem wLK_X4_9 : Cond.methodLink RX4 9 yX4_word ∈ jT := jT_t3 (i := 7) (by decide +kernel) (by decide +kernel)
theorem wLK_X4_15 : Cond.methodLink RX4 15 yX4_length ∈ jT := jT_t3 (i := 4) (by decide +kernel) (by decide +kernel)
theorem wLK_X4_19 : Cond.methodLink RX4 19 yX4_head ∈ jT := jT_t3 (i := 10) (by decide +kernel) (by decide +kernel)
theorem wLK_X4_31 : Cond.methodLink RX4 31 yX4_common ∈ jT := jT_t3 (i := 93) (by decide +kernel) (by decide +kernel)
theorem wLK_X4_35 : Cond.methodLink RX4 35 yX4_places ∈ jT := jT_t3 (i := 96) (by decide +kernel) (by decide +kernel)
theorem wLK_X4_38 : Cond.methodLink RX4 38 yJ6_bitCount_0f7a4 ∈ jT := jT_t3 (i := 97) (by decide +kernel) (by decide +kernel)
theorem wLK_X5_47 : Cond.methodLink RX5 47 yX5_has ∈ jT := jT_t3 (i := 18) (by decide +kernel) (by decide +kernel)
theorem wLK_X5_51 : Cond.methodLink RX5 51 yX5_isFull ∈ jT := jT_t2 (i := 18) (by decide +kernel) (by decide +kernel)
theorem wLK_X5_55 : Cond.methodLink RX5 55 yX5_isFull_ ∈ jT := jT_t3 (i := 28) (by decide +kernel) (by decide +kernel)
theorem wLK_X5_57 : Cond.methodLink RX5 57 yX5_has_ ∈ jT := jT_t3 (i := 84) (by decide +kernel) (by decide +kernel)
theorem wLK_X6_54 : Cond.methodLink RX6 54 yX6_endOfToken ∈ jT := jT_t3 (i := 122) (by decide +kernel) (by decide +kernel)
theorem wLK_X6_58 : Cond.methodLink RX6 58 yX6_kindOf ∈ jT := jT_t3 (i := 132) (by decide +kernel) (by decide +kernel)
theorem wLK_X6_61 : Cond.methodLink RX6 61 yX6_numberOf ∈ jT := jT_t3 (i := 202) (by decide +kernel) (by decide +kernel)
theorem wLK_X6_64 : Cond.methodLink RX6 64 yX6_putToken ∈ jT := jT_t3 (i := 205) (by decide +kernel) (by decide +kernel)
theorem wLK_X6_68 : Cond.methodLink RX6 68 yX6_isLetter ∈ jT := jT_t3 (i := 125) (by decide +kernel) (by decide +kernel)
theorem wLK_X6_72 : Cond.methodLink RX6 72 yX6_isDigit ∈ jT := jT_t3 (i := 128) (by decide +kernel) (by decide +kernel)
theorem wLK_X6_78 : Cond.methodLink RX6 78 yX6_wordKind ∈ jT := jT_t3 (i := 135) (by decide +kernel) (by decide +kernel)
theorem wLK_X6_83 : Cond.methodLink RX6 83 yX6_spells ∈ jT := jT_t3 (i := 139) (by decide +kernel) (by decide +kernel)
theorem wLK_X6_121 : Cond.methodLink RX6 121 yX1_clear ∈ jT := jT_t3 (i := 213) (by decide +kernel) (by decide +kernel)
theorem wLK_X6_124 : Cond.methodLink RX6 124 yX6_isAt ∈ jT := jT_t3 (i := 217) (by decide +kernel) (by decide +kernel)
theorem wLK_X6_127 : Cond.methodLink RX6 127 yX6_readRule ∈ jT := jT_t3 (i := 221) (by decide +kernel) (by decide +kernel)
theorem wLK_X6_133 : Cond.methodLink RX6 133 yX6_readSide ∈ jT := jT_t3 (i := 225) (by decide +kernel) (by decide +kernel)
theorem wLK_X6_137 : Cond.methodLink RX6 137 yX6_take ∈ jT := jT_t3 (i := 238) (by decide +kernel) (by decide +kernel)
theorem wLK_X6_144 : Cond.methodLink RX6 144 yX6_readTest ∈ jT := jT_t4 (i := 2) (by decide +kernel) (by decide +kernel)
theorem wLK_X6_147 : Cond.methodLink RX6 147 yX1_put ∈ jT := jT_t4 (i := 18) (by decide +kernel) (by decide +kernel)
theorem wLK_X6_151 : Cond.methodLink RX6 151 yX6_readNumber ∈ jT := jT_t3 (i := 229) (by decide +kernel) (by decide +kernel)
theorem wLK_X6_155 : Cond.methodLink RX6 155 yX4_behind ∈ jT := jT_t3 (i := 237) (by decide +kernel) (by decide +kernel)
theorem wLK_X6_161 : Cond.methodLink RX6 161 yX6_readFact ∈ jT := jT_t4 (i := 6) (by decide +kernel) (by decide +kernel)
theorem wLK_X6_164 : Cond.methodLink RX6 164 yX1_emit ∈ jT := jT_t4 (i := 14) (by decide +kernel) (by decide +kernel)
theorem wLK_X6_168 : Cond.methodLink RX6 168 yX6_readPlainFact ∈ jT := jT_t4 (i := 10) (by decide +kernel) (by decide +kernel)
theorem wLK_X6_171 : Cond.methodLink RX6 171 yX6_blame ∈ jT := jT_t3 (i := 233) (by decide +kernel) (by decide +kernel)
theorem wLK_X6_174 : Cond.methodLink RX6 174 yX3_clear ∈ jT := jT_t4 (i := 26) (by decide +kernel) (by decide +kernel)
theorem wLK_X6_175 : Cond.methodLink RX6 175 yX6_readWay ∈ jT := jT_t4 (i := 31) (by decide +kernel) (by decide +kernel)
theorem wLK_X6_181 : Cond.methodLink RX6 181 yX3_putSaying ∈ jT := jT_t4 (i := 35) (by decide +kernel) (by decide +kernel)
theorem wLK_X6_184 : Cond.methodLink RX6 184 yX3_putChance ∈ jT := jT_t4 (i := 39) (by decide +kernel) (by decide +kernel)
theorem wLK_X7_28 : Cond.methodLink RX7 28 yX7_canBe ∈ jT := jT_t5 (i := 181) (by decide +kernel) (by decide +kernel)
theorem wLK_X7_32 : Cond.methodLink RX7 32 yJ7_fill_bad5a ∈ jT := jT_t5 (i := 182) (by decide +kernel) (by decide +kernel)
theorem wLK_X7_35 : Cond.methodLink RX7 35 yX7_cut ∈ jT := jT_t5 (i := 196) (by decide +kernel) (by decide +kernel)
theorem wLK_X8_83 : Cond.methodLink RX8 83 yX5_copy ∈ jT := jT_t5 (i := 231) (by decide +kernel) (by decide +kernel)
theorem wLK_X8_93 : Cond.methodLink RX8 93 yX1_copy ∈ jT := jT_t4 (i := 47) (by decide +kernel) (by decide +kernel)
theorem wLK_X8_96 : Cond.methodLink RX8 96 yX3_copy ∈ jT := jT_t5 (i := 237) (by decide +kernel) (by decide +kernel)
theorem wLK_X8_99 : Cond.methodLink RX8 99 yX0_copy ∈ jT := jT_t5 (i := 238) (by decide +kernel) (by decide +kernel)
theorem wLK_X8_102 : Cond.methodLink RX8 102 yX9_copy ∈ jT := jT_t6 (i := 3) (by decide +kernel) (by decide +kernel)
theorem wLK_X8_105 : Cond.methodLink RX8 105 yX10_copy ∈ jT := jT_t6 (i := 8) (by decide +kernel) (by decide +kernel)
theorem wLK_X8_108 : Cond.methodLink RX8 108 yX5_has ∈ jT := jT_t3 (i := 23) (by decide +kernel) (by decide +kernel)
theorem wLK_X8_118 : Cond.methodLink RX8 118 yX8_isEarly ∈ jT := jT_t5 (i := 218) (by decide +kernel) (by decide +kernel)
theorem wLK_X8_124 : Cond.methodLink RX8 124 yX5_put ∈ jT := jT_t3 (i := 24) (by decide +kernel) (by decide +kernel)
theorem wLK_X8_128 : Cond.methodLink RX8 128 yX1_smooth ∈ jT := jT_t3 (i := 29) (by decide +kernel) (by decide +kernel)
theorem wLK_X8_135 : Cond.methodLink RX8 135 yX5_at ∈ jT := jT_t4 (i := 54) (by decide +kernel) (by decide +kernel)
theorem wLK_X8_139 : Cond.methodLink RX8 139 yX4_length ∈ jT := jT_t4 (i := 227) (by decide +kernel) (by decide +kernel)
theorem wLK_X8_145 : Cond.methodLink RX8 145 yX4_word ∈ jT := jT_t4 (i := 228) (by decide +kernel) (by decide +kernel)
theorem wLK_X8_149 : Cond.methodLink RX8 149 yX3_next ∈ jT := jT_t4 (i := 77) (by decide +kernel) (by decide +kernel)
theorem wLK_X8_153 : Cond.methodLink RX8 153 yX3_drawn ∈ jT := jT_t4 (i := 81) (by decide +kernel) (by decide +kernel)
theorem wLK_X8_159 : Cond.methodLink RX8 159 yX3_respoken ∈ jT := jT_t4 (i := 84) (by decide +kernel) (by decide +kernel)
theorem wLK_X8_165 : Cond.methodLink RX8 165 yX8_moveAbout ∈ jT := jT_t4 (i := 89) (by decide +kernel) (by decide +kernel)
theorem wLK_X9_40 : Cond.methodLink RX9 40 yX9_pagesOf ∈ jT := jT_t5 (i := 87) (by decide +kernel) (by decide +kernel)
theorem wLK_X9_44 : Cond.methodLink RX9 44 yX9_freeUpTo ∈ jT := jT_t5 (i := 107) (by decide +kernel) (by decide +kernel)
theorem wLK_X9_53 : Cond.methodLink RX9 53 yX9_firstSpanEndingFrom ∈ jT := jT_t5 (i := 111) (by decide +kernel) (by decide +kernel)
theorem wLK_X10_31 : Cond.methodLink RX10 31 yX10_has ∈ jT := jT_t5 (i := 137) (by decide +kernel) (by decide +kernel)
theorem wLK_X10_35 : Cond.methodLink RX10 35 yX10_hasAll ∈ jT := jT_t5 (i := 150) (by decide +kernel) (by decide +kernel)
theorem wLK_X10_38 : Cond.methodLink RX10 38 yX10_gatherSayings ∈ jT := jT_t5 (i := 151) (by decide +kernel) (by decide +kernel)
theorem wLK_X10_41 : Cond.methodLink RX10 41 yX10_weighOne ∈ jT := jT_t5 (i := 156) (by decide +kernel) (by decide +kernel)
theorem wLK_X10_45 : Cond.methodLink RX10 45 yJ7_fill_53178 ∈ jT := jT_t5 (i := 155) (by decide +kernel) (by decide +kernel)
theorem wLK_X10_51 : Cond.methodLink RX10 51 yX10_weightOf ∈ jT := jT_t5 (i := 160) (by decide +kernel) (by decide +kernel)
theorem wLK_X10_55 : Cond.methodLink RX10 55 yX10_costOfParts ∈ jT := jT_t5 (i := 164) (by decide +kernel) (by decide +kernel)
theorem wLK_X12_73 : Cond.methodLink RX12 73 yX12_wordAt ∈ jT := jT_t6 (i := 177) (by decide +kernel) (by decide +kernel)
theorem wLK_X12_77 : Cond.methodLink RX12 77 yX12_lengthOf ∈ jT := jT_t6 (i := 174) (by decide +kernel) (by decide +kernel)
theorem wLK_X12_81 : Cond.methodLink RX12 81 yX12_within ∈ jT := jT_t6 (i := 155) (by decide +kernel) (by decide +kernel)
theorem wLK_X12_85 : Cond.methodLink RX12 85 yX12_no ∈ jT := jT_t6 (i := 158) (by decide +kernel) (by decide +kernel)
theorem wLK_X12_97 : Cond.methodLink RX12 97 yX12_opens ∈ jT := jT_t6 (i := 166) (by decide +kernel) (by decide +kernel)
theorem wLK_X12_101 : Cond.methodLink RX12 101 yX12_plain ∈ jT := jT_t6 (i := 180) (by decide +kernel) (by decide +kernel)
theorem wLK_X12_107 : Cond.methodLink RX12 107 yX12_isLine ∈ jT := jT_t6 (i := 196) (by decide +kernel) (by decide +kernel)
theorem wLK_X12_111 : Cond.methodLink RX12 111 yX12_likeOf ∈ jT := jT_t6 (i := 204) (by decide +kernel) (by decide +kernel)
theorem wLK_X12_139 : Cond.methodLink RX12 139 yX12_see ∈ jT := jT_t6 (i := 220) (by decide +kernel) (by decide +kernel)
theorem wLK_X12_145 : Cond.methodLink RX12 145 yX12_isSmall ∈ jT := jT_t6 (i := 224) (by decide +kernel) (by decide +kernel)
theorem wLK_X12_149 : Cond.methodLink RX12 149 yX12_keyAt ∈ jT := jT_t6 (i := 227) (by decide +kernel) (by decide +kernel)
theorem wLK_X12_152 : Cond.methodLink RX12 152 yX12_isDigit ∈ jT := jT_t6 (i := 234) (by decide +kernel) (by decide +kernel)
theorem wLK_X12_164 : Cond.methodLink RX12 164 yX12_is ∈ jT := jT_t7 (i := 9) (by decide +kernel) (by decide +kernel)
theorem wLK_X12_167 : Cond.methodLink RX12 167 yX12_next ∈ jT := jT_t6 (i := 216) (by decide +kernel) (by decide +kernel)
theorem wLK_X12_170 : Cond.methodLink RX12 170 yX12_eats ∈ jT := jT_t7 (i := 21) (by decide +kernel) (by decide +kernel)
theorem wLK_X12_173 : Cond.methodLink RX12 173 yX12_fails ∈ jT := jT_t7 (i := 13) (by decide +kernel) (by decide +kernel)
theorem wLK_X12_180 : Cond.methodLink RX12 180 yX12_parts ∈ jT := jT_t7 (i := 29) (by decide +kernel) (by decide +kernel)
theorem wLK_X12_183 : Cond.methodLink RX12 183 yX12_emit ∈ jT := jT_t7 (i := 37) (by decide +kernel) (by decide +kernel)
theorem wLK_X12_187 : Cond.methodLink RX12 187 yX12_fact ∈ jT := jT_t7 (i := 33) (by decide +kernel) (by decide +kernel)
theorem wLK_X12_193 : Cond.methodLink RX12 193 yX12_test ∈ jT := jT_t7 (i := 25) (by decide +kernel) (by decide +kernel)
theorem wLK_X12_196 : Cond.methodLink RX12 196 yX12_needs ∈ jT := jT_t7 (i := 17) (by decide +kernel) (by decide +kernel)
theorem wLK_X12_199 : Cond.methodLink RX12 199 yX12_reads ∈ jT := jT_t7 (i := 5) (by decide +kernel) (by decide +kernel)
theorem wLK_X12_203 : Cond.methodLink RX12 203 yX12_side ∈ jT := jT_t7 (i := 1) (by decide +kernel) (by decide +kernel)
theorem wLK_X12_211 : Cond.methodLink RX12 211 yX12_readRule ∈ jT := jT_t6 (i := 237) (by decide +kernel) (by decide +kernel)
theorem wLK_X12_214 : Cond.methodLink RX12 214 yX12_readWay ∈ jT := jT_t7 (i := 41) (by decide +kernel) (by decide +kernel)
theorem wLK_X12_223 : Cond.methodLink RX12 223 yX12_hasWord ∈ jT := jT_t7 (i := 67) (by decide +kernel) (by decide +kernel)
theorem wLK_X12_226 : Cond.methodLink RX12 226 yX12_holds ∈ jT := jT_t7 (i := 63) (by decide +kernel) (by decide +kernel)
theorem wLK_X12_230 : Cond.methodLink RX12 230 yX12_stands ∈ jT := jT_t7 (i := 71) (by decide +kernel) (by decide +kernel)
theorem wLK_X12_233 : Cond.methodLink RX12 233 yX12_does ∈ jT := jT_t7 (i := 59) (by decide +kernel) (by decide +kernel)
theorem wLK_X12_236 : Cond.methodLink RX12 236 yX12_smooth ∈ jT := jT_t7 (i := 55) (by decide +kernel) (by decide +kernel)
theorem wLK_X12_244 : Cond.methodLink RX12 244 yX12_draw ∈ jT := jT_t7 (i := 79) (by decide +kernel) (by decide +kernel)
theorem wLK_X12_247 : Cond.methodLink RX12 247 yX12_said ∈ jT := jT_t7 (i := 84) (by decide +kernel) (by decide +kernel)
theorem wLK_X12_250 : Cond.methodLink RX12 250 yX12_isEarly ∈ jT := jT_t7 (i := 96) (by decide +kernel) (by decide +kernel)
theorem wLK_X12_259 : Cond.methodLink RX12 259 yX12_looks ∈ jT := jT_t7 (i := 108) (by decide +kernel) (by decide +kernel)
theorem wLK_X12_263 : Cond.methodLink RX12 263 yX12_best ∈ jT := jT_t7 (i := 104) (by decide +kernel) (by decide +kernel)
theorem wLK_X12_269 : Cond.methodLink RX12 269 yX12_smooths ∈ jT := jT_t7 (i := 92) (by decide +kernel) (by decide +kernel)
theorem wLK_X12_272 : Cond.methodLink RX12 272 yX12_whoseIs ∈ jT := jT_t7 (i := 100) (by decide +kernel) (by decide +kernel)
theorem wLK_X12_275 : Cond.methodLink RX12 275 yX12_mostOfSongs ∈ jT := jT_t7 (i := 116) (by decide +kernel) (by decide +kernel)
theorem wLK_X12_279 : Cond.methodLink RX12 279 yX12_mostOfPrint ∈ jT := jT_t7 (i := 120) (by decide +kernel) (by decide +kernel)
theorem wLK_X12_282 : Cond.methodLink RX12 282 yX12_counts ∈ jT := jT_t7 (i := 128) (by decide +kernel) (by decide +kernel)
theorem wLK_X12_285 : Cond.methodLink RX12 285 yX12_common ∈ jT := jT_t7 (i := 147) (by decide +kernel) (by decide +kernel)
theorem wLK_X12_294 : Cond.methodLink RX12 294 yX12_meets ∈ jT := jT_t7 (i := 140) (by decide +kernel) (by decide +kernel)
theorem wLK_X12_298 : Cond.methodLink RX12 298 yX12_part ∈ jT := jT_t7 (i := 144) (by decide +kernel) (by decide +kernel)
theorem wLK_X12_302 : Cond.methodLink RX12 302 yX12_matchesOf ∈ jT := jT_t7 (i := 158) (by decide +kernel) (by decide +kernel)
theorem wLK_X12_308 : Cond.methodLink RX12 308 yX12_addsBy ∈ jT := jT_t7 (i := 171) (by decide +kernel) (by decide +kernel)
theorem wLK_X12_313 : Cond.methodLink RX12 313 yX12_isAnswer ∈ jT := jT_t7 (i := 196) (by decide +kernel) (by decide +kernel)
theorem wLK_X12_317 : Cond.methodLink RX12 317 yX12_answers ∈ jT := jT_t7 (i := 199) (by decide +kernel) (by decide +kernel)
theorem wLK_X12_321 : Cond.methodLink RX12 321 yX12_isBehind ∈ jT := jT_t7 (i := 215) (by decide +kernel) (by decide +kernel)
theorem wLK_X12_324 : Cond.methodLink RX12 324 yX12_isThere ∈ jT := jT_t7 (i := 207) (by decide +kernel) (by decide +kernel)
theorem wLK_X12_327 : Cond.methodLink RX12 327 yX12_isBack ∈ jT := jT_t7 (i := 211) (by decide +kernel) (by decide +kernel)
theorem wLK_X12_332 : Cond.methodLink RX12 332 yX12_isMuddled ∈ jT := jT_t7 (i := 232) (by decide +kernel) (by decide +kernel)
theorem wLK_X12_341 : Cond.methodLink RX12 341 yX12_pagesIn ∈ jT := jT_t8 (i := 15) (by decide +kernel) (by decide +kernel)
theorem wLK_X12_344 : Cond.methodLink RX12 344 yX12_isFree ∈ jT := jT_t8 (i := 31) (by decide +kernel) (by decide +kernel)
theorem wLK_X12_347 : Cond.methodLink RX12 347 yX12_freeUpTo ∈ jT := jT_t8 (i := 27) (by decide +kernel) (by decide +kernel)
theorem wLK_X12_350 : Cond.methodLink RX12 350 yX12_weightOf ∈ jT := jT_t8 (i := 51) (by decide +kernel) (by decide +kernel)
theorem wLK_X12_353 : Cond.methodLink RX12 353 yX12_saying ∈ jT := jT_t8 (i := 55) (by decide +kernel) (by decide +kernel)
theorem wLK_X12_356 : Cond.methodLink RX12 356 yX12_costBy ∈ jT := jT_t8 (i := 47) (by decide +kernel) (by decide +kernel)
theorem wLK_X12_361 : Cond.methodLink RX12 361 yX12_cut ∈ jT := jT_t8 (i := 68) (by decide +kernel) (by decide +kernel)
theorem wLK_X12_364 : Cond.methodLink RX12 364 yX12_isAnyEarly ∈ jT := jT_t8 (i := 79) (by decide +kernel) (by decide +kernel)
theorem wLK_X12_368 : Cond.methodLink RX12 368 yX12_copies ∈ jT := jT_t8 (i := 87) (by decide +kernel) (by decide +kernel)
theorem wLK_J0_335 : Cond.methodLink RJ0 335 yJ0_coder_7d493 ∈ jT := jT_t3 (i := 146) (by decide +kernel) (by decide +kernel)
theorem wLK_J0_492 : Cond.methodLink RJ0 492 yJ0_isLatin1_aae02 ∈ jT := jT_t3 (i := 156) (by decide +kernel) (by decide +kernel)
theorem wLK_J0_495 : Cond.methodLink RJ0 495 yJ1_charAt_3b067 ∈ jT := jT_t3 (i := 160) (by decide +kernel) (by decide +kernel)
theorem wLK_J0_1059 : Cond.methodLink RJ0 1059 yJ3_checkIndex_8e157 ∈ jT := jT_t3 (i := 168) (by decide +kernel) (by decide +kernel)
theorem wLK_J1_9 : Cond.methodLink RJ1 9 yJ0_checkIndex_df160 ∈ jT := jT_t3 (i := 163) (by decide +kernel) (by decide +kernel)
theorem wLK_J7_13 : Cond.methodLink RJ7 13 yJ7_rangeCheck_23922 ∈ jT := jT_t5 (i := 185) (by decide +kernel) (by decide +kernel)
theorem wCC_X11_65 : Cond.constantLong RX11 65 (9 : Int64) ∈ jT := jT_t2 (i := 216) (by decide +kernel) (by decide +kernel)
theorem wCC_X11_67 : Cond.constantLong RX11 67 (5 : Int64) ∈ jT := jT_t2 (i := 217) (by decide +kernel) (by decide +kernel)
theorem wCC_X11_91 : Cond.constantLong RX11 91 (2 : Int64) ∈ jT := jT_t2 (i := 236) (by decide +kernel) (by decide +kernel)
theorem wCC_X11_113 : Cond.constantLong RX11 113 (9999 : Int64) ∈ jT := jT_t2 (i := 225) (by decide +kernel) (by decide +kernel)
theorem wCC_X11_122 : Cond.constantLong RX11 122 (100 : Int64) ∈ jT := jT_t3 (i := 70) (by decide +kernel) (by decide +kernel)
theorem wCC_X11_131 : Cond.constantLong RX11 131 (4 : Int64) ∈ jT := jT_t3 (i := 75) (by decide +kernel) (by decide +kernel)
theorem wCC_X11_262 : Cond.constantLong RX11 262 (255 : Int64) ∈ jT := jT_t4 (i := 214) (by decide +kernel) (by decide +kernel)
theorem wCC_X11_306 : Cond.constantLong RX11 306 (15 : Int64) ∈ jT := jT_t2 (i := 224) (by decide +kernel) (by decide +kernel)
theorem wCC_X11_308 : Cond.constantLong RX11 308 (3 : Int64) ∈ jT := jT_t5 (i := 52) (by decide +kernel) (by decide +kernel)
theorem wCC_X11_317 : Cond.constantLong RX11 317 (999 : Int64) ∈ jT := jT_t5 (i := 61) (by decide +kernel) (by decide +kernel)
theorem wCC_X11_331 : Cond.constantLong RX11 331 (99 : Int64) ∈ jT := jT_t5 (i := 70) (by decide +kernel) (by decide +kernel)
theorem wCC_X11_382 : Cond.constantLong RX11 382 (60 : Int64) ∈ jT := jT_t5 (i := 176) (by decide +kernel) (by decide +kernel)
theorem wCC_X11_406 : Cond.constantLong RX11 406 (7 : Int64) ∈ jT := jT_t6 (i := 21) (by decide +kernel) (by decide +kernel)
theorem wCC_X11_408 : Cond.constantLong RX11 408 (199 : Int64) ∈ jT := jT_t6 (i := 26) (by decide +kernel) (by decide +kernel)
theorem wCC_X1_75 : Cond.constantLong RX1 75 (-2 : Int64) ∈ jT := jT_t3 (i := 45) (by decide +kernel) (by decide +kernel)
theorem wCC_X3_48 : Cond.constant RX3 48 (1103515245 : Int32) ∈ jT := jT_t4 (i := 80) (by decide +kernel) (by decide +kernel)
theorem wCC_X4_23 : Cond.constantLong RX4 23 (-1 : Int64) ∈ jT := jT_t3 (i := 13) (by decide +kernel) (by decide +kernel)
theorem wCC_X12_89 : Cond.constantLong RX12 89 (9 : Int64) ∈ jT := jT_t6 (i := 162) (by decide +kernel) (by decide +kernel)
theorem wCC_X12_91 : Cond.constantLong RX12 91 (15 : Int64) ∈ jT := jT_t6 (i := 163) (by decide +kernel) (by decide +kernel)
theorem wCC_X12_93 : Cond.constantLong RX12 93 (9999 : Int64) ∈ jT := jT_t6 (i := 164) (by decide +kernel) (by decide +kernel)
theorem wCC_X12_95 : Cond.constantLong RX12 95 (5 : Int64) ∈ jT := jT_t6 (i := 165) (by decide +kernel) (by decide +kernel)
theorem wCC_X12_105 : Cond.constantLong RX12 105 (100 : Int64) ∈ jT := jT_t6 (i := 191) (by decide +kernel) (by decide +kernel)
theorem wCC_X12_207 : Cond.constantLong RX12 207 (8 : Int64) ∈ jT := jT_t7 (i := 45) (by decide +kernel) (by decide +kernel)
theorem wCC_X12_209 : Cond.constantLong RX12 209 (11 : Int64) ∈ jT := jT_t7 (i := 46) (by decide +kernel) (by decide +kernel)
theorem wCC_X12_240 : Cond.constant RX12 240 (1103515245 : Int32) ∈ jT := jT_t7 (i := 83) (by decide +kernel) (by decide +kernel)
theorem wCC_X12_306 : Cond.constantLong RX12 306 (2 : Int64) ∈ jT := jT_t7 (i := 166) (by decide +kernel) (by decide +kernel)
theorem wCC_X12_311 : Cond.constantLong RX12 311 (255 : Int64) ∈ jT := jT_t7 (i := 183) (by decide +kernel) (by decide +kernel)
theorem wCC_X12_330 : Cond.constantLong RX12 330 (10 : Int64) ∈ jT := jT_t7 (i := 223) (by decide +kernel) (by decide +kernel)
theorem wCC_X12_335 : Cond.constantLong RX12 335 (3 : Int64) ∈ jT := jT_t8 (i := 0) (by decide +kernel) (by decide +kernel)
theorem wCC_X12_337 : Cond.constantLong RX12 337 (999 : Int64) ∈ jT := jT_t8 (i := 5) (by decide +kernel) (by decide +kernel)
theorem wCC_X12_339 : Cond.constantLong RX12 339 (99 : Int64) ∈ jT := jT_t8 (i := 10) (by decide +kernel) (by decide +kernel)
theorem wCC_X12_359 : Cond.constantLong RX12 359 (60 : Int64) ∈ jT := jT_t8 (i := 63) (by decide +kernel) (by decide +kernel)
theorem wCC_X12_371 : Cond.constantLong RX12 371 (7 : Int64) ∈ jT := jT_t8 (i := 99) (by decide +kernel) (by decide +kernel)
theorem wCC_X12_373 : Cond.constantLong RX12 373 (200 : Int64) ∈ jT := jT_t8 (i := 104) (by decide +kernel) (by decide +kernel)
theorem wCC_J6_265 : Cond.constant RJ6 265 (1431655765 : Int32) ∈ jT := jT_t3 (i := 100) (by decide +kernel) (by decide +kernel)
theorem wCC_J6_266 : Cond.constant RJ6 266 (858993459 : Int32) ∈ jT := jT_t3 (i := 101) (by decide +kernel) (by decide +kernel)
theorem wCC_J6_267 : Cond.constant RJ6 267 (252645135 : Int32) ∈ jT := jT_t3 (i := 102) (by decide +kernel) (by decide +kernel)
theorem in_X0 : ∀ x ∈ u_ws RX0 TX0 7, x ∈ jT := by
  have h : ∀ x ∈ [u_lay RX0 TX0 0, u_lay RX0 TX0 1, u_lay RX0 TX0 2, u_lay RX0 TX0 3, u_lay RX0 TX0 4, u_lay RX0 TX0 5, u_lay RX0 TX0 6], x ∈ jT := List.forall_mem_cons.mpr ⟨jT_t1 (i := 174) (by decide +kernel) (by decide +kernel), List.forall_mem_cons.mpr ⟨jT_t1 (i := 176) (by decide +kernel) (by decide +kernel), List.forall_mem_cons.mpr ⟨jT_t1 (i := 178) (by decide +kernel) (by decide +kernel), List.forall_mem_cons.mpr ⟨jT_t1 (i := 180) (by decide +kernel) (by decide +kernel), List.forall_mem_cons.mpr ⟨jT_t1 (i := 182) (by decide +kernel) (by decide +kernel), List.forall_mem_cons.mpr ⟨jT_t1 (i := 184) (by decide +kernel) (by decide +kernel), List.forall_mem_cons.mpr ⟨jT_t1 (i := 186) (by decide +kernel) (by decide +kernel), fun _ h => absurd h List.not_mem_nil⟩⟩⟩⟩⟩⟩⟩
  exact h
theorem in_X1 : ∀ x ∈ u_ws RX1 TX1 8, x ∈ jT := by
  have h : ∀ x ∈ [u_lay RX1 TX1 0, u_lay RX1 TX1 1, u_lay RX1 TX1 2, u_lay RX1 TX1 3, u_lay RX1 TX1 4, u_lay RX1 TX1 5, u_lay RX1 TX1 6, u_lay RX1 TX1 7], x ∈ jT := List.forall_mem_cons.mpr ⟨jT_t1 (i := 107) (by decide +kernel) (by decide +kernel), List.forall_mem_cons.mpr ⟨jT_t1 (i := 109) (by decide +kernel) (by decide +kernel), List.forall_mem_cons.mpr ⟨jT_t1 (i := 111) (by decide +kernel) (by decide +kernel), List.forall_mem_cons.mpr ⟨jT_t1 (i := 113) (by decide +kernel) (by decide +kernel), List.forall_mem_cons.mpr ⟨jT_t1 (i := 115) (by decide +kernel) (by decide +kernel), List.forall_mem_cons.mpr ⟨jT_t1 (i := 117) (by decide +kernel) (by decide +kernel), List.forall_mem_cons.mpr ⟨jT_t1 (i := 119) (by decide +kernel) (by decide +kernel), List.forall_mem_cons.mpr ⟨jT_t1 (i := 121) (by decide +kernel) (by decide +kernel), fun _ h => absurd h List.not_mem_nil⟩⟩⟩⟩⟩⟩⟩⟩
  exact h
theorem in_X2 : ∀ x ∈ u_ws RX2 TX2 6, x ∈ jT := by
  have h : ∀ x ∈ [u_lay RX2 TX2 0, u_lay RX2 TX2 1, u_lay RX2 TX2 2, u_lay RX2 TX2 3, u_lay RX2 TX2 4, u_lay RX2 TX2 5], x ∈ jT := List.forall_mem_cons.mpr ⟨jT_t2 (i := 97) (by decide +kernel) (by decide +kernel), List.forall_mem_cons.mpr ⟨jT_t2 (i := 99) (by decide +kernel) (by decide +kernel), List.forall_mem_cons.mpr ⟨jT_t2 (i := 101) (by decide +kernel) (by decide +kernel), List.forall_mem_cons.mpr ⟨jT_t2 (i := 103) (by decide +kernel) (by decide +kernel), List.forall_mem_cons.mpr ⟨jT_t2 (i := 105) (by decide +kernel) (by decide +kernel), List.forall_mem_cons.mpr ⟨jT_t2 (i := 107) (by decide +kernel) (by decide +kernel), fun _ h => absurd h List.not_mem_nil⟩⟩⟩⟩⟩⟩
  exact h
theorem in_X3 : ∀ x ∈ u_ws RX3 TX3 5, x ∈ jT := by
  have h : ∀ x ∈ [u_lay RX3 TX3 0, u_lay RX3 TX3 1, u_lay RX3 TX3 2, u_lay RX3 TX3 3, u_lay RX3 TX3 4], x ∈ jT := List.forall_mem_cons.mpr ⟨jT_t1 (i := 140) (by decide +kernel) (by decide +kernel), List.forall_mem_cons.mpr ⟨jT_t1 (i := 142) (by decide +kernel) (by decide +kernel), List.forall_mem_cons.mpr ⟨jT_t1 (i := 144) (by decide +kernel) (by decide +kernel), List.forall_mem_cons.mpr ⟨jT_t1 (i := 146) (by decide +kernel) (by decide +kernel), List.forall_mem_cons.mpr ⟨jT_t1 (i := 148) (by decide +kernel) (by decide +kernel), fun _ h => absurd h List.not_mem_nil⟩⟩⟩⟩⟩
  exact h
theorem in_X5 : ∀ x ∈ u_ws RX5 TX5 9, x ∈ jT := by
  have h : ∀ x ∈ [u_lay RX5 TX5 0, u_lay RX5 TX5 1, u_lay RX5 TX5 2, u_lay RX5 TX5 3, u_lay RX5 TX5 4, u_lay RX5 TX5 5, u_lay RX5 TX5 6, u_lay RX5 TX5 7, u_lay RX5 TX5 8], x ∈ jT := List.forall_mem_cons.mpr ⟨jT_t1 (i := 69) (by decide +kernel) (by decide +kernel), List.forall_mem_cons.mpr ⟨jT_t1 (i := 71) (by decide +kernel) (by decide +kernel), List.forall_mem_cons.mpr ⟨jT_t1 (i := 73) (by decide +kernel) (by decide +kernel), List.forall_mem_cons.mpr ⟨jT_t1 (i := 75) (by decide +kernel) (by decide +kernel), List.forall_mem_cons.mpr ⟨jT_t1 (i := 77) (by decide +kernel) (by decide +kernel), List.forall_mem_cons.mpr ⟨jT_t1 (i := 79) (by decide +kernel) (by decide +kernel), List.forall_mem_cons.mpr ⟨jT_t1 (i := 81) (by decide +kernel) (by decide +kernel), List.forall_mem_cons.mpr ⟨jT_t1 (i := 83) (by decide +kernel) (by decide +kernel), List.forall_mem_cons.mpr ⟨jT_t1 (i := 85) (by decide +kernel) (by decide +kernel), fun _ h => absurd h List.not_mem_nil⟩⟩⟩⟩⟩⟩⟩⟩⟩
  exact h
theorem in_X6 : ∀ x ∈ u_ws RX6 TX6 9, x ∈ jT := by
  have h : ∀ x ∈ [u_lay RX6 TX6 0, u_lay RX6 TX6 1, u_lay RX6 TX6 2, u_lay RX6 TX6 3, u_lay RX6 TX6 4, u_lay RX6 TX6 5, u_lay RX6 TX6 6, u_lay RX6 TX6 7, u_lay RX6 TX6 8], x ∈ jT := List.forall_mem_cons.mpr ⟨jT_t2 (i := 154) (by decide +kernel) (by decide +kernel), List.forall_mem_cons.mpr ⟨jT_t2 (i := 156) (by decide +kernel) (by decide +kernel), List.forall_mem_cons.mpr ⟨jT_t2 (i := 158) (by decide +kernel) (by decide +kernel), List.forall_mem_cons.mpr ⟨jT_t2 (i := 160) (by decide +kernel) (by decide +kernel), List.forall_mem_cons.mpr ⟨jT_t2 (i := 162) (by decide +kernel) (by decide +kernel), List.forall_mem_cons.mpr ⟨jT_t2 (i := 164) (by decide +kernel) (by decide +kernel), List.forall_mem_cons.mpr ⟨jT_t2 (i := 166) (by decide +kernel) (by decide +kernel), List.forall_mem_cons.mpr ⟨jT_t2 (i := 168) (by decide +kernel) (by decide +kernel), List.forall_mem_cons.mpr ⟨jT_t2 (i := 170) (by decide +kernel) (by decide +kernel), fun _ h => absurd h List.not_mem_nil⟩⟩⟩⟩⟩⟩⟩⟩⟩
  exact h
theorem in_X7 : ∀ x ∈ u_ws RX7 TX7 3, x ∈ jT := by
  have h : ∀ x ∈ [u_lay RX7 TX7 0, u_lay RX7 TX7 1, u_lay RX7 TX7 2], x ∈ jT := List.forall_mem_cons.mpr ⟨jT_t2 (i := 124) (by decide +kernel) (by decide +kernel), List.forall_mem_cons.mpr ⟨jT_t2 (i := 126) (by decide +kernel) (by decide +kernel), List.forall_mem_cons.mpr ⟨jT_t2 (i := 128) (by decide +kernel) (by decide +kernel), fun _ h => absurd h List.not_mem_nil⟩⟩⟩
  exact h
theorem in_X8 : ∀ x ∈ u_ws RX8 TX8 13, x ∈ jT := by
  have h : ∀ x ∈ [u_lay RX8 TX8 0, u_lay RX8 TX8 1, u_lay RX8 TX8 2, u_lay RX8 TX8 3, u_lay RX8 TX8 4, u_lay RX8 TX8 5, u_lay RX8 TX8 6, u_lay RX8 TX8 7, u_lay RX8 TX8 8, u_lay RX8 TX8 9, u_lay RX8 TX8 10, u_lay RX8 TX8 11, u_lay RX8 TX8 12], x ∈ jT := List.forall_mem_cons.mpr ⟨jT_t2 (i := 55) (by decide +kernel) (by decide +kernel), List.forall_mem_cons.mpr ⟨jT_t2 (i := 57) (by decide +kernel) (by decide +kernel), List.forall_mem_cons.mpr ⟨jT_t2 (i := 59) (by decide +kernel) (by decide +kernel), List.forall_mem_cons.mpr ⟨jT_t2 (i := 61) (by decide +kernel) (by decide +kernel), List.forall_mem_cons.mpr ⟨jT_t2 (i := 63) (by decide +kernel) (by decide +kernel), List.forall_mem_cons.mpr ⟨jT_t2 (i := 65) (by decide +kernel) (by decide +kernel), List.forall_mem_cons.mpr ⟨jT_t2 (i := 67) (by decide +kernel) (by decide +kernel), List.forall_mem_cons.mpr ⟨jT_t2 (i := 69) (by decide +kernel) (by decide +kernel), List.forall_mem_cons.mpr ⟨jT_t2 (i := 71) (by decide +kernel) (by decide +kernel), List.forall_mem_cons.mpr ⟨jT_t2 (i := 73) (by decide +kernel) (by decide +kernel), List.forall_mem_cons.mpr ⟨jT_t2 (i := 75) (by decide +kernel) (by decide +kernel), List.forall_mem_cons.mpr ⟨jT_t2 (i := 77) (by decide +kernel) (by decide +kernel), List.forall_mem_cons.mpr ⟨jT_t2 (i := 79) (by decide +kernel) (by decide +kernel), fun _ h => absurd h List.not_mem_nil⟩⟩⟩⟩⟩⟩⟩⟩⟩⟩⟩⟩⟩
  exact h
theorem in_X9 : ∀ x ∈ u_ws RX9 TX9 9, x ∈ jT := by
  have h : ∀ x ∈ [u_lay RX9 TX9 0, u_lay RX9 TX9 1, u_lay RX9 TX9 2, u_lay RX9 TX9 3, u_lay RX9 TX9 4, u_lay RX9 TX9 5, u_lay RX9 TX9 6, u_lay RX9 TX9 7, u_lay RX9 TX9 8], x ∈ jT := List.forall_mem_cons.mpr ⟨jT_t1 (i := 207) (by decide +kernel) (by decide +kernel), List.forall_mem_cons.mpr ⟨jT_t1 (i := 209) (by decide +kernel) (by decide +kernel), List.forall_mem_cons.mpr ⟨jT_t1 (i := 211) (by decide +kernel) (by decide +kernel), List.forall_mem_cons.mpr ⟨jT_t1 (i := 213) (by decide +kernel) (by decide +kernel), List.forall_mem_cons.mpr ⟨jT_t1 (i := 215) (by decide +kernel) (by decide +kernel), List.forall_mem_cons.mpr ⟨jT_t1 (i := 217) (by decide +kernel) (by decide +kernel), List.forall_mem_cons.mpr ⟨jT_t1 (i := 219) (by decide +kernel) (by decide +kernel), List.forall_mem_cons.mpr ⟨jT_t1 (i := 221) (by decide +kernel) (by decide +kernel), List.forall_mem_cons.mpr ⟨jT_t1 (i := 223) (by decide +kernel) (by decide +kernel), fun _ h => absurd h List.not_mem_nil⟩⟩⟩⟩⟩⟩⟩⟩⟩
  exact h
theorem in_X10 : ∀ x ∈ u_ws RX10 TX10 6, x ∈ jT := by
  have h : ∀ x ∈ [u_lay RX10 TX10 0, u_lay RX10 TX10 1, u_lay RX10 TX10 2, u_lay RX10 TX10 3, u_lay RX10 TX10 4, u_lay RX10 TX10 5], x ∈ jT := List.forall_mem_cons.mpr ⟨jT_t2 (i := 1) (by decide +kernel) (by decide +kernel), List.forall_mem_cons.mpr ⟨jT_t2 (i := 3) (by decide +kernel) (by decide +kernel), List.forall_mem_cons.mpr ⟨jT_t2 (i := 5) (by decide +kernel) (by decide +kernel), List.forall_mem_cons.mpr ⟨jT_t2 (i := 7) (by decide +kernel) (by decide +kernel), List.forall_mem_cons.mpr ⟨jT_t2 (i := 9) (by decide +kernel) (by decide +kernel), List.forall_mem_cons.mpr ⟨jT_t2 (i := 11) (by decide +kernel) (by decide +kernel), fun _ h => absurd h List.not_mem_nil⟩⟩⟩⟩⟩⟩
  exact h
theorem in_X11 : ∀ x ∈ u_ws RX11 TX11 11, x ∈ jT := by
  have h : ∀ x ∈ [u_lay RX11 TX11 0, u_lay RX11 TX11 1, u_lay RX11 TX11 2, u_lay RX11 TX11 3, u_lay RX11 TX11 4, u_lay RX11 TX11 5, u_lay RX11 TX11 6, u_lay RX11 TX11 7, u_lay RX11 TX11 8, u_lay RX11 TX11 9, u_lay RX11 TX11 10], x ∈ jT := List.forall_mem_cons.mpr ⟨jT_t2 (i := 184) (by decide +kernel) (by decide +kernel), List.forall_mem_cons.mpr ⟨jT_t2 (i := 186) (by decide +kernel) (by decide +kernel), List.forall_mem_cons.mpr ⟨jT_t2 (i := 188) (by decide +kernel) (by decide +kernel), List.forall_mem_cons.mpr ⟨jT_t2 (i := 190) (by decide +kernel) (by decide +kernel), List.forall_mem_cons.mpr ⟨jT_t2 (i := 192) (by decide +kernel) (by decide +kernel), List.forall_mem_cons.mpr ⟨jT_t2 (i := 194) (by decide +kernel) (by decide +kernel), List.forall_mem_cons.mpr ⟨jT_t2 (i := 196) (by decide +kernel) (by decide +kernel), List.forall_mem_cons.mpr ⟨jT_t2 (i := 198) (by decide +kernel) (by decide +kernel), List.forall_mem_cons.mpr ⟨jT_t2 (i := 200) (by decide +kernel) (by decide +kernel), List.forall_mem_cons.mpr ⟨jT_t2 (i := 202) (by decide +kernel) (by decide +kernel), List.forall_mem_cons.mpr ⟨jT_t2 (i := 204) (by decide +kernel) (by decide +kernel), fun _ h => absurd h List.not_mem_nil⟩⟩⟩⟩⟩⟩⟩⟩⟩⟩⟩
  exact h
theorem in_X12 : ∀ x ∈ u_ws RX12 TX12 38, x ∈ jT := by
  have h : ∀ x ∈ [u_lay RX12 TX12 0, u_lay RX12 TX12 1, u_lay RX12 TX12 2, u_lay RX12 TX12 3, u_lay RX12 TX12 4, u_lay RX12 TX12 5, u_lay RX12 TX12 6, u_lay RX12 TX12 7, u_lay RX12 TX12 8, u_lay RX12 TX12 9, u_lay RX12 TX12 10, u_lay RX12 TX12 11, u_lay RX12 TX12 12, u_lay RX12 TX12 13, u_lay RX12 TX12 14, u_lay RX12 TX12 15, u_lay RX12 TX12 16, u_lay RX12 TX12 17, u_lay RX12 TX12 18, u_lay RX12 TX12 19, u_lay RX12 TX12 20, u_lay RX12 TX12 21, u_lay RX12 TX12 22, u_lay RX12 TX12 23, u_lay RX12 TX12 24, u_lay RX12 TX12 25, u_lay RX12 TX12 26, u_lay RX12 TX12 27, u_lay RX12 TX12 28, u_lay RX12 TX12 29, u_lay RX12 TX12 30, u_lay RX12 TX12 31, u_lay RX12 TX12 32, u_lay RX12 TX12 33, u_lay RX12 TX12 34, u_lay RX12 TX12 35, u_lay RX12 TX12 36, u_lay RX12 TX12 37], x ∈ jT := List.forall_mem_cons.mpr ⟨jT_t6 (i := 74) (by decide +kernel) (by decide +kernel), List.forall_mem_cons.mpr ⟨jT_t6 (i := 76) (by decide +kernel) (by decide +kernel), List.forall_mem_cons.mpr ⟨jT_t6 (i := 78) (by decide +kernel) (by decide +kernel), List.forall_mem_cons.mpr ⟨jT_t6 (i := 80) (by decide +kernel) (by decide +kernel), List.forall_mem_cons.mpr ⟨jT_t6 (i := 82) (by decide +kernel) (by decide +kernel), List.forall_mem_cons.mpr ⟨jT_t6 (i := 84) (by decide +kernel) (by decide +kernel), List.forall_mem_cons.mpr ⟨jT_t6 (i := 86) (by decide +kernel) (by decide +kernel), List.forall_mem_cons.mpr ⟨jT_t6 (i := 88) (by decide +kernel) (by decide +kernel), List.forall_mem_cons.mpr ⟨jT_t6 (i := 90) (by decide +kernel) (by decide +kernel), List.forall_mem_cons.mpr ⟨jT_t6 (i := 92) (by decide +kernel) (by decide +kernel), List.forall_mem_cons.mpr ⟨jT_t6 (i := 94) (by decide +kernel) (by decide +kernel), List.forall_mem_cons.mpr ⟨jT_t6 (i := 96) (by decide +kernel) (by decide +kernel), List.forall_mem_cons.mpr ⟨jT_t6 (i := 98) (by decide +kernel) (by decide +kernel), List.forall_mem_cons.mpr ⟨jT_t6 (i := 100) (by decide +kernel) (by decide +kernel), List.forall_mem_cons.mpr ⟨jT_t6 (i := 102) (by decide +kernel) (by decide +kernel), List.forall_mem_cons.mpr ⟨jT_t6 (i := 104) (by decide +kernel) (by decide +kernel), List.forall_mem_cons.mpr ⟨jT_t6 (i := 106) (by decide +kernel) (by decide +kernel), List.forall_mem_cons.mpr ⟨jT_t6 (i := 108) (by decide +kernel) (by decide +kernel), List.forall_mem_cons.mpr ⟨jT_t6 (i := 110) (by decide +kernel) (by decide +kernel), List.forall_mem_cons.mpr ⟨jT_t6 (i := 112) (by decide +kernel) (by decide +kernel), List.forall_mem_cons.mpr ⟨jT_t6 (i := 114) (by decide +kernel) (by decide +kernel), List.forall_mem_cons.mpr ⟨jT_t6 (i := 116) (by decide +kernel) (by decide +kernel), List.forall_mem_cons.mpr ⟨jT_t6 (i := 118) (by decide +kernel) (by decide +kernel), List.forall_mem_cons.mpr ⟨jT_t6 (i := 120) (by decide +kernel) (by decide +kernel), List.forall_mem_cons.mpr ⟨jT_t6 (i := 122) (by decide +kernel) (by decide +kernel), List.forall_mem_cons.mpr ⟨jT_t6 (i := 124) (by decide +kernel) (by decide +kernel), List.forall_mem_cons.mpr ⟨jT_t6 (i := 126) (by decide +kernel) (by decide +kernel), List.forall_mem_cons.mpr ⟨jT_t6 (i := 128) (by decide +kernel) (by decide +kernel), List.forall_mem_cons.mpr ⟨jT_t6 (i := 130) (by decide +kernel) (by decide +kernel), List.forall_mem_cons.mpr ⟨jT_t6 (i := 132) (by decide +kernel) (by decide +kernel), List.forall_mem_cons.mpr ⟨jT_t6 (i := 134) (by decide +kernel) (by decide +kernel), List.forall_mem_cons.mpr ⟨jT_t6 (i := 136) (by decide +kernel) (by decide +kernel), List.forall_mem_cons.mpr ⟨jT_t6 (i := 138) (by decide +kernel) (by decide +kernel), List.forall_mem_cons.mpr ⟨jT_t6 (i := 140) (by decide +kernel) (by decide +kernel), List.forall_mem_cons.mpr ⟨jT_t6 (i := 142) (by decide +kernel) (by decide +kernel), List.forall_mem_cons.mpr ⟨jT_t6 (i := 144) (by decide +kernel) (by decide +kernel), List.forall_mem_cons.mpr ⟨jT_t6 (i := 146) (by decide +kernel) (by decide +kernel), List.forall_mem_cons.mpr ⟨jT_t6 (i := 148) (by decide +kernel) (by decide +kernel), fun _ h => absurd h List.not_mem_nil⟩⟩⟩⟩⟩⟩⟩⟩⟩⟩⟩⟩⟩⟩⟩⟩⟩⟩⟩⟩⟩⟩⟩⟩⟩⟩⟩⟩⟩⟩⟩⟩⟩⟩⟩⟩⟩⟩
  exact h
theorem kz_0 {t : Nat} (h : kd t = 0) : t = 41 ∨ t = 101 ∨ t = 161 := (by decide +kernel : ∀ c, c < 224 → kd c = 0 → c = 41 ∨ c = 101 ∨ c = 161) t (kd_lt h (by decide)) h
theorem kr_0_1 {t : Nat} (h : kd t = 0) : kd (t + 1) = 13 := by
  rcases kz_0 h with rfl | rfl | rfl <;> decide +kernel
theorem kr_0_2 {t : Nat} (h : kd t = 0) : kd (t + 2) = 13 := by
  rcases kz_0 h with rfl | rfl | rfl <;> decide +kernel
theorem kr_0_3 {t : Nat} (h : kd t = 0) : kd (t + 3) = 13 := by
  rcases kz_0 h with rfl | rfl | rfl <;> decide +kernel
theorem kr_0_4 {t : Nat} (h : kd t = 0) : kd (t + 4) = 13 := by
  rcases kz_0 h with rfl | rfl | rfl <;> decide +kernel
theorem kr_0_5 {t : Nat} (h : kd t = 0) : kd (t + 5) = 13 := by
  rcases kz_0 h with rfl | rfl | rfl <;> decide +kernel
theorem kr_0_6 {t : Nat} (h : kd t = 0) : kd (t + 6) = 14 := by
  rcases kz_0 h with rfl | rfl | rfl <;> decide +kernel
theorem kz_1 {t : Nat} (h : kd t = 1) : t = 32 ∨ t = 92 ∨ t = 152 ∨ t = 190 := (by decide +kernel : ∀ c, c < 224 → kd c = 1 → c = 32 ∨ c = 92 ∨ c = 152 ∨ c = 190) t (kd_lt h (by decide)) h
theorem kr_1_1 {t : Nat} (h : kd t = 1) : kd (t + 1) = 14 := by
  rcases kz_1 h with rfl | rfl | rfl | rfl <;> decide +kernel
theorem kr_1_2 {t : Nat} (h : kd t = 1) : kd (t + 2) = 14 := by
  rcases kz_1 h with rfl | rfl | rfl | rfl <;> decide +kernel
theorem kr_1_3 {t : Nat} (h : kd t = 1) : kd (t + 3) = 13 := by
  rcases kz_1 h with rfl | rfl | rfl | rfl <;> decide +kernel
theorem kr_1_4 {t : Nat} (h : kd t = 1) : kd (t + 4) = 13 := by
  rcases kz_1 h with rfl | rfl | rfl | rfl <;> decide +kernel
theorem kr_1_5 {t : Nat} (h : kd t = 1) : kd (t + 5) = 13 := by
  rcases kz_1 h with rfl | rfl | rfl | rfl <;> decide +kernel
theorem kr_1_6 {t : Nat} (h : kd t = 1) : kd (t + 6) = 13 := by
  rcases kz_1 h with rfl | rfl | rfl | rfl <;> decide +kernel
theorem kz_3 {t : Nat} (h : kd t = 3) : t = 39 ∨ t = 99 ∨ t = 159 ∨ t = 197 := (by decide +kernel : ∀ c, c < 224 → kd c = 3 → c = 39 ∨ c = 99 ∨ c = 159 ∨ c = 197) t (kd_lt h (by decide)) h
theorem kr_3_1 {t : Nat} (h : kd t = 3) : kd (t + 1) = 13 := by
  rcases kz_3 h with rfl | rfl | rfl | rfl <;> decide +kernel
theorem kz_4 {t : Nat} (h : kd t = 4) : t = 2 ∨ t = 9 ∨ t = 16 ∨ t = 23 ∨ t = 62 ∨ t = 69 ∨ t = 76 ∨ t = 83 ∨ t = 122 ∨ t = 129 ∨ t = 136 ∨ t = 143 := (by decide +kernel : ∀ c, c < 224 → kd c = 4 → c = 2 ∨ c = 9 ∨ c = 16 ∨ c = 23 ∨ c = 62 ∨ c = 69 ∨ c = 76 ∨ c = 83 ∨ c = 122 ∨ c = 129 ∨ c = 136 ∨ c = 143) t (kd_lt h (by decide)) h
theorem kr_4_1 {t : Nat} (h : kd t = 4) : kd (t + 1) = 13 := by
  rcases kz_4 h with rfl | rfl | rfl | rfl | rfl | rfl | rfl | rfl | rfl | rfl | rfl | rfl <;> decide +kernel
theorem kr_4_2 {t : Nat} (h : kd t = 4) : kd (t + 2) = 13 := by
  rcases kz_4 h with rfl | rfl | rfl | rfl | rfl | rfl | rfl | rfl | rfl | rfl | rfl | rfl <;> decide +kernel
theorem kr_4_3 {t : Nat} (h : kd t = 4) : kd (t + 3) = 13 := by
  rcases kz_4 h with rfl | rfl | rfl | rfl | rfl | rfl | rfl | rfl | rfl | rfl | rfl | rfl <;> decide +kernel
theorem kr_4_4 {t : Nat} (h : kd t = 4) : kd (t + 4) = 13 := by
  rcases kz_4 h with rfl | rfl | rfl | rfl | rfl | rfl | rfl | rfl | rfl | rfl | rfl | rfl <;> decide +kernel
theorem kr_4_5 {t : Nat} (h : kd t = 4) : kd (t + 5) = 13 := by
  rcases kz_4 h with rfl | rfl | rfl | rfl | rfl | rfl | rfl | rfl | rfl | rfl | rfl | rfl <;> decide +kernel
theorem kr_4_6 {t : Nat} (h : kd t = 4) : kd (t + 6) = 14 := by
  rcases kz_4 h with rfl | rfl | rfl | rfl | rfl | rfl | rfl | rfl | rfl | rfl | rfl | rfl <;> decide +kernel
theorem kz_7 {t : Nat} (h : kd t = 7) : t = 1 ∨ t = 61 ∨ t = 121 := (by decide +kernel : ∀ c, c < 224 → kd c = 7 → c = 1 ∨ c = 61 ∨ c = 121) t (kd_lt h (by decide)) h
theorem kr_7_1 {t : Nat} (h : kd t = 7) : kd (t + 1) = 4 := by
  rcases kz_7 h with rfl | rfl | rfl <;> decide +kernel
theorem kr_7_2 {t : Nat} (h : kd t = 7) : kd (t + 2) = 13 := by
  rcases kz_7 h with rfl | rfl | rfl <;> decide +kernel
theorem kr_7_3 {t : Nat} (h : kd t = 7) : kd (t + 3) = 13 := by
  rcases kz_7 h with rfl | rfl | rfl <;> decide +kernel
theorem kr_7_4 {t : Nat} (h : kd t = 7) : kd (t + 4) = 13 := by
  rcases kz_7 h with rfl | rfl | rfl <;> decide +kernel
theorem kr_7_5 {t : Nat} (h : kd t = 7) : kd (t + 5) = 13 := by
  rcases kz_7 h with rfl | rfl | rfl <;> decide +kernel
theorem kr_7_6 {t : Nat} (h : kd t = 7) : kd (t + 6) = 13 := by
  rcases kz_7 h with rfl | rfl | rfl <;> decide +kernel
theorem kr_7_7 {t : Nat} (h : kd t = 7) : kd (t + 7) = 14 := by
  rcases kz_7 h with rfl | rfl | rfl <;> decide +kernel
theorem kr_7_8 {t : Nat} (h : kd t = 7) : kd (t + 8) = 4 := by
  rcases kz_7 h with rfl | rfl | rfl <;> decide +kernel
theorem kr_7_9 {t : Nat} (h : kd t = 7) : kd (t + 9) = 13 := by
  rcases kz_7 h with rfl | rfl | rfl <;> decide +kernel
theorem kr_7_10 {t : Nat} (h : kd t = 7) : kd (t + 10) = 13 := by
  rcases kz_7 h with rfl | rfl | rfl <;> decide +kernel
theorem kr_7_11 {t : Nat} (h : kd t = 7) : kd (t + 11) = 13 := by
  rcases kz_7 h with rfl | rfl | rfl <;> decide +kernel
theorem kr_7_12 {t : Nat} (h : kd t = 7) : kd (t + 12) = 13 := by
  rcases kz_7 h with rfl | rfl | rfl <;> decide +kernel
theorem kr_7_13 {t : Nat} (h : kd t = 7) : kd (t + 13) = 13 := by
  rcases kz_7 h with rfl | rfl | rfl <;> decide +kernel
theorem kr_7_14 {t : Nat} (h : kd t = 7) : kd (t + 14) = 14 := by
  rcases kz_7 h with rfl | rfl | rfl <;> decide +kernel
theorem kr_7_15 {t : Nat} (h : kd t = 7) : kd (t + 15) = 4 := by
  rcases kz_7 h with rfl | rfl | rfl <;> decide +kernel
theorem kr_7_16 {t : Nat} (h : kd t = 7) : kd (t + 16) = 13 := by
  rcases kz_7 h with rfl | rfl | rfl <;> decide +kernel
theorem kr_7_17 {t : Nat} (h : kd t = 7) : kd (t + 17) = 13 := by
  rcases kz_7 h with rfl | rfl | rfl <;> decide +kernel
theorem kr_7_18 {t : Nat} (h : kd t = 7) : kd (t + 18) = 13 := by
  rcases kz_7 h with rfl | rfl | rfl <;> decide +kernel
theorem kr_7_19 {t : Nat} (h : kd t = 7) : kd (t + 19) = 13 := by
  rcases kz_7 h with rfl | rfl | rfl <;> decide +kernel
theorem kr_7_20 {t : Nat} (h : kd t = 7) : kd (t + 20) = 13 := by
  rcases kz_7 h with rfl | rfl | rfl <;> decide +kernel
theorem kr_7_21 {t : Nat} (h : kd t = 7) : kd (t + 21) = 14 := by
  rcases kz_7 h with rfl | rfl | rfl <;> decide +kernel
theorem kr_7_22 {t : Nat} (h : kd t = 7) : kd (t + 22) = 4 := by
  rcases kz_7 h with rfl | rfl | rfl <;> decide +kernel
theorem kr_7_23 {t : Nat} (h : kd t = 7) : kd (t + 23) = 13 := by
  rcases kz_7 h with rfl | rfl | rfl <;> decide +kernel
theorem kr_7_24 {t : Nat} (h : kd t = 7) : kd (t + 24) = 13 := by
  rcases kz_7 h with rfl | rfl | rfl <;> decide +kernel
theorem kr_7_25 {t : Nat} (h : kd t = 7) : kd (t + 25) = 13 := by
  rcases kz_7 h with rfl | rfl | rfl <;> decide +kernel
theorem kr_7_26 {t : Nat} (h : kd t = 7) : kd (t + 26) = 13 := by
  rcases kz_7 h with rfl | rfl | rfl <;> decide +kernel
theorem kr_7_27 {t : Nat} (h : kd t = 7) : kd (t + 27) = 13 := by
  rcases kz_7 h with rfl | rfl | rfl <;> decide +kernel
theorem kr_7_28 {t : Nat} (h : kd t = 7) : kd (t + 28) = 14 := by
  rcases kz_7 h with rfl | rfl | rfl <;> decide +kernel
theorem kr_7_29 {t : Nat} (h : kd t = 7) : kd (t + 29) = 14 := by
  rcases kz_7 h with rfl | rfl | rfl <;> decide +kernel
theorem kr_7_30 {t : Nat} (h : kd t = 7) : kd (t + 30) = 13 := by
  rcases kz_7 h with rfl | rfl | rfl <;> decide +kernel
theorem kr_7_31 {t : Nat} (h : kd t = 7) : kd (t + 31) = 1 := by
  rcases kz_7 h with rfl | rfl | rfl <;> decide +kernel
theorem kr_7_32 {t : Nat} (h : kd t = 7) : kd (t + 32) = 14 := by
  rcases kz_7 h with rfl | rfl | rfl <;> decide +kernel
theorem kr_7_33 {t : Nat} (h : kd t = 7) : kd (t + 33) = 14 := by
  rcases kz_7 h with rfl | rfl | rfl <;> decide +kernel
theorem kr_7_34 {t : Nat} (h : kd t = 7) : kd (t + 34) = 13 := by
  rcases kz_7 h with rfl | rfl | rfl <;> decide +kernel
theorem kr_7_35 {t : Nat} (h : kd t = 7) : kd (t + 35) = 13 := by
  rcases kz_7 h with rfl | rfl | rfl <;> decide +kernel
theorem kr_7_36 {t : Nat} (h : kd t = 7) : kd (t + 36) = 13 := by
  rcases kz_7 h with rfl | rfl | rfl <;> decide +kernel
theorem kr_7_37 {t : Nat} (h : kd t = 7) : kd (t + 37) = 13 := by
  rcases kz_7 h with rfl | rfl | rfl <;> decide +kernel
theorem kr_7_38 {t : Nat} (h : kd t = 7) : kd (t + 38) = 3 := by
  rcases kz_7 h with rfl | rfl | rfl <;> decide +kernel
theorem kr_7_39 {t : Nat} (h : kd t = 7) : kd (t + 39) = 13 := by
  rcases kz_7 h with rfl | rfl | rfl <;> decide +kernel
theorem kr_7_40 {t : Nat} (h : kd t = 7) : kd (t + 40) = 0 := by
  rcases kz_7 h with rfl | rfl | rfl <;> decide +kernel
theorem kr_7_41 {t : Nat} (h : kd t = 7) : kd (t + 41) = 13 := by
  rcases kz_7 h with rfl | rfl | rfl <;> decide +kernel
theorem kr_7_42 {t : Nat} (h : kd t = 7) : kd (t + 42) = 13 := by
  rcases kz_7 h with rfl | rfl | rfl <;> decide +kernel
theorem kr_7_43 {t : Nat} (h : kd t = 7) : kd (t + 43) = 13 := by
  rcases kz_7 h with rfl | rfl | rfl <;> decide +kernel
theorem kr_7_44 {t : Nat} (h : kd t = 7) : kd (t + 44) = 13 := by
  rcases kz_7 h with rfl | rfl | rfl <;> decide +kernel
theorem kr_7_45 {t : Nat} (h : kd t = 7) : kd (t + 45) = 13 := by
  rcases kz_7 h with rfl | rfl | rfl <;> decide +kernel
theorem kr_7_46 {t : Nat} (h : kd t = 7) : kd (t + 46) = 14 := by
  rcases kz_7 h with rfl | rfl | rfl <;> decide +kernel
theorem kr_7_47 {t : Nat} (h : kd t = 7) : kd (t + 47) = 8 := by
  rcases kz_7 h with rfl | rfl | rfl <;> decide +kernel
theorem kr_7_48 {t : Nat} (h : kd t = 7) : kd (t + 48) = 13 := by
  rcases kz_7 h with rfl | rfl | rfl <;> decide +kernel
theorem kr_7_49 {t : Nat} (h : kd t = 7) : kd (t + 49) = 13 := by
  rcases kz_7 h with rfl | rfl | rfl <;> decide +kernel
theorem kr_7_50 {t : Nat} (h : kd t = 7) : kd (t + 50) = 13 := by
  rcases kz_7 h with rfl | rfl | rfl <;> decide +kernel
theorem kr_7_51 {t : Nat} (h : kd t = 7) : kd (t + 51) = 13 := by
  rcases kz_7 h with rfl | rfl | rfl <;> decide +kernel
theorem kr_7_52 {t : Nat} (h : kd t = 7) : kd (t + 52) = 13 := by
  rcases kz_7 h with rfl | rfl | rfl <;> decide +kernel
theorem kr_7_53 {t : Nat} (h : kd t = 7) : kd (t + 53) = 13 := by
  rcases kz_7 h with rfl | rfl | rfl <;> decide +kernel
theorem kr_7_54 {t : Nat} (h : kd t = 7) : kd (t + 54) = 9 := by
  rcases kz_7 h with rfl | rfl | rfl <;> decide +kernel
theorem kr_7_55 {t : Nat} (h : kd t = 7) : kd (t + 55) = 13 := by
  rcases kz_7 h with rfl | rfl | rfl <;> decide +kernel
theorem kr_7_56 {t : Nat} (h : kd t = 7) : kd (t + 56) = 13 := by
  rcases kz_7 h with rfl | rfl | rfl <;> decide +kernel
theorem kr_7_57 {t : Nat} (h : kd t = 7) : kd (t + 57) = 13 := by
  rcases kz_7 h with rfl | rfl | rfl <;> decide +kernel
theorem kr_7_58 {t : Nat} (h : kd t = 7) : kd (t + 58) = 13 := by
  rcases kz_7 h with rfl | rfl | rfl <;> decide +kernel
theorem kr_7_59 {t : Nat} (h : kd t = 7) : kd (t + 59) = 13 := by
  rcases kz_7 h with rfl | rfl | rfl <;> decide +kernel
theorem kz_8 {t : Nat} (h : kd t = 8) : t = 48 ∨ t = 108 ∨ t = 168 := (by decide +kernel : ∀ c, c < 224 → kd c = 8 → c = 48 ∨ c = 108 ∨ c = 168) t (kd_lt h (by decide)) h
theorem kr_8_1 {t : Nat} (h : kd t = 8) : kd (t + 1) = 13 := by
  rcases kz_8 h with rfl | rfl | rfl <;> decide +kernel
theorem kr_8_2 {t : Nat} (h : kd t = 8) : kd (t + 2) = 13 := by
  rcases kz_8 h with rfl | rfl | rfl <;> decide +kernel
theorem kr_8_3 {t : Nat} (h : kd t = 8) : kd (t + 3) = 13 := by
  rcases kz_8 h with rfl | rfl | rfl <;> decide +kernel
theorem kr_8_4 {t : Nat} (h : kd t = 8) : kd (t + 4) = 13 := by
  rcases kz_8 h with rfl | rfl | rfl <;> decide +kernel
theorem kr_8_5 {t : Nat} (h : kd t = 8) : kd (t + 5) = 13 := by
  rcases kz_8 h with rfl | rfl | rfl <;> decide +kernel
theorem kr_8_6 {t : Nat} (h : kd t = 8) : kd (t + 6) = 13 := by
  rcases kz_8 h with rfl | rfl | rfl <;> decide +kernel
theorem kz_9 {t : Nat} (h : kd t = 9) : t = 55 ∨ t = 115 ∨ t = 175 := (by decide +kernel : ∀ c, c < 224 → kd c = 9 → c = 55 ∨ c = 115 ∨ c = 175) t (kd_lt h (by decide)) h
theorem kr_9_1 {t : Nat} (h : kd t = 9) : kd (t + 1) = 13 := by
  rcases kz_9 h with rfl | rfl | rfl <;> decide +kernel
theorem kr_9_2 {t : Nat} (h : kd t = 9) : kd (t + 2) = 13 := by
  rcases kz_9 h with rfl | rfl | rfl <;> decide +kernel
theorem kr_9_3 {t : Nat} (h : kd t = 9) : kd (t + 3) = 13 := by
  rcases kz_9 h with rfl | rfl | rfl <;> decide +kernel
theorem kr_9_4 {t : Nat} (h : kd t = 9) : kd (t + 4) = 13 := by
  rcases kz_9 h with rfl | rfl | rfl <;> decide +kernel
theorem kr_9_5 {t : Nat} (h : kd t = 9) : kd (t + 5) = 13 := by
  rcases kz_9 h with rfl | rfl | rfl <;> decide +kernel
theorem wFL_X11_10 : Cond.fieldLink RX11 10 RX11 (TX11 0).2.1 (TX11 0).2.2.1 ∈ jT := jT_t2 (i := 173) (by decide +kernel) (by decide +kernel)
theorem wFL_X11_16 : Cond.fieldLink RX11 16 RX11 (TX11 1).2.1 (TX11 1).2.2.1 ∈ jT := jT_t2 (i := 174) (by decide +kernel) (by decide +kernel)
theorem wFL_X11_19 : Cond.fieldLink RX11 19 RX11 (TX11 2).2.1 (TX11 2).2.2.1 ∈ jT := jT_t2 (i := 175) (by decide +kernel) (by decide +kernel)
theorem wFL_X11_22 : Cond.fieldLink RX11 22 RX11 (TX11 3).2.1 (TX11 3).2.2.1 ∈ jT := jT_t2 (i := 176) (by decide +kernel) (by decide +kernel)
theorem wFL_X11_31 : Cond.fieldLink RX11 31 RX11 (TX11 4).2.1 (TX11 4).2.2.1 ∈ jT := jT_t2 (i := 177) (by decide +kernel) (by decide +kernel)
theorem wFL_X11_38 : Cond.fieldLink RX11 38 RX11 (TX11 5).2.1 (TX11 5).2.2.1 ∈ jT := jT_t2 (i := 178) (by decide +kernel) (by decide +kernel)
theorem wFL_X11_45 : Cond.fieldLink RX11 45 RX11 (TX11 6).2.1 (TX11 6).2.2.1 ∈ jT := jT_t2 (i := 179) (by decide +kernel) (by decide +kernel)
theorem wFL_X11_49 : Cond.fieldLink RX11 49 RX11 (TX11 7).2.1 (TX11 7).2.2.1 ∈ jT := jT_t2 (i := 180) (by decide +kernel) (by decide +kernel)
theorem wFL_X11_53 : Cond.fieldLink RX11 53 RX11 (TX11 9).2.1 (TX11 9).2.2.1 ∈ jT := jT_t2 (i := 182) (by decide +kernel) (by decide +kernel)
theorem wFL_X11_57 : Cond.fieldLink RX11 57 RX11 (TX11 10).2.1 (TX11 10).2.2.1 ∈ jT := jT_t2 (i := 183) (by decide +kernel) (by decide +kernel)
theorem wFL_X11_115 : Cond.fieldLink RX11 115 RX8 (TX8 2).2.1 (TX8 2).2.2.1 ∈ jT := jT_t2 (i := 30) (by decide +kernel) (by decide +kernel)
theorem wFL_X11_119 : Cond.fieldLink RX11 119 RX5 (TX5 5).2.1 (TX5 5).2.2.1 ∈ jT := jT_t1 (i := 59) (by decide +kernel) (by decide +kernel)
theorem wFL_X11_124 : Cond.fieldLink RX11 124 RX8 (TX8 11).2.1 (TX8 11).2.2.1 ∈ jT := jT_t2 (i := 50) (by decide +kernel) (by decide +kernel)
theorem wFL_X11_128 : Cond.fieldLink RX11 128 RX8 (TX8 12).2.1 (TX8 12).2.2.1 ∈ jT := jT_t2 (i := 53) (by decide +kernel) (by decide +kernel)
theorem wFL_X11_143 : Cond.fieldLink RX11 143 RX11 (TX11 8).2.1 (TX11 8).2.2.1 ∈ jT := jT_t2 (i := 181) (by decide +kernel) (by decide +kernel)
theorem wFL_X11_160 : Cond.fieldLink RX11 160 RX6 (TX6 2).2.1 (TX6 2).2.2.1 ∈ jT := jT_t2 (i := 146) (by decide +kernel) (by decide +kernel)
theorem wFL_X11_163 : Cond.fieldLink RX11 163 RX6 (TX6 0).2.1 (TX6 0).2.2.1 ∈ jT := jT_t2 (i := 142) (by decide +kernel) (by decide +kernel)
theorem wFL_X11_171 : Cond.fieldLink RX11 171 RX8 (TX8 6).2.1 (TX8 6).2.2.1 ∈ jT := jT_t2 (i := 38) (by decide +kernel) (by decide +kernel)
theorem wFL_X11_172 : Cond.fieldLink RX11 172 RX1 (TX1 0).2.1 (TX1 0).2.2.1 ∈ jT := jT_t1 (i := 97) (by decide +kernel) (by decide +kernel)
theorem wFL_X11_177 : Cond.fieldLink RX11 177 RX8 (TX8 7).2.1 (TX8 7).2.2.1 ∈ jT := jT_t2 (i := 41) (by decide +kernel) (by decide +kernel)
theorem wFL_X11_181 : Cond.fieldLink RX11 181 RX6 (TX6 1).2.1 (TX6 1).2.2.1 ∈ jT := jT_t2 (i := 144) (by decide +kernel) (by decide +kernel)
theorem wFL_X11_188 : Cond.fieldLink RX11 188 RX3 (TX3 0).2.1 (TX3 0).2.2.1 ∈ jT := jT_t1 (i := 131) (by decide +kernel) (by decide +kernel)
theorem wFL_X11_191 : Cond.fieldLink RX11 191 RX6 (TX6 3).2.1 (TX6 3).2.2.1 ∈ jT := jT_t2 (i := 148) (by decide +kernel) (by decide +kernel)
theorem wFL_X11_198 : Cond.fieldLink RX11 198 RX8 (TX8 0).2.1 (TX8 0).2.2.1 ∈ jT := jT_t2 (i := 24) (by decide +kernel) (by decide +kernel)
theorem wFL_X11_205 : Cond.fieldLink RX11 205 RX5 (TX5 3).2.1 (TX5 3).2.2.1 ∈ jT := jT_t1 (i := 55) (by decide +kernel) (by decide +kernel)
theorem wFL_X11_214 : Cond.fieldLink RX11 214 RX2 (TX2 3).2.1 (TX2 3).2.2.1 ∈ jT := jT_t2 (i := 93) (by decide +kernel) (by decide +kernel)
theorem wFL_X11_217 : Cond.fieldLink RX11 217 RX2 (TX2 4).2.1 (TX2 4).2.2.1 ∈ jT := jT_t2 (i := 95) (by decide +kernel) (by decide +kernel)
theorem wFL_X11_227 : Cond.fieldLink RX11 227 RX5 (TX5 6).2.1 (TX5 6).2.2.1 ∈ jT := jT_t1 (i := 64) (by decide +kernel) (by decide +kernel)
theorem wFL_X11_233 : Cond.fieldLink RX11 233 RX2 (TX2 2).2.1 (TX2 2).2.2.1 ∈ jT := jT_t2 (i := 91) (by decide +kernel) (by decide +kernel)
theorem wFL_X11_250 : Cond.fieldLink RX11 250 RX8 (TX8 1).2.1 (TX8 1).2.2.1 ∈ jT := jT_t2 (i := 27) (by decide +kernel) (by decide +kernel)
theorem wFL_X11_256 : Cond.fieldLink RX11 256 RX5 (TX5 2).2.1 (TX5 2).2.2.1 ∈ jT := jT_t1 (i := 51) (by decide +kernel) (by decide +kernel)
theorem wFL_X11_264 : Cond.fieldLink RX11 264 RX8 (TX8 5).2.1 (TX8 5).2.2.1 ∈ jT := jT_t2 (i := 36) (by decide +kernel) (by decide +kernel)
theorem wFL_X11_267 : Cond.fieldLink RX11 267 RX8 (TX8 3).2.1 (TX8 3).2.2.1 ∈ jT := jT_t2 (i := 32) (by decide +kernel) (by decide +kernel)
theorem wFL_X11_276 : Cond.fieldLink RX11 276 RX8 (TX8 8).2.1 (TX8 8).2.2.1 ∈ jT := jT_t2 (i := 44) (by decide +kernel) (by decide +kernel)
theorem wFL_X11_293 : Cond.fieldLink RX11 293 RX0 (TX0 6).2.1 (TX0 6).2.2.1 ∈ jT := jT_t1 (i := 173) (by decide +kernel) (by decide +kernel)
theorem wFL_X11_296 : Cond.fieldLink RX11 296 RX0 (TX0 2).2.1 (TX0 2).2.2.1 ∈ jT := jT_t1 (i := 164) (by decide +kernel) (by decide +kernel)
theorem wFL_X11_297 : Cond.fieldLink RX11 297 RX0 (TX0 3).2.1 (TX0 3).2.2.1 ∈ jT := jT_t1 (i := 167) (by decide +kernel) (by decide +kernel)
theorem wFL_X11_310 : Cond.fieldLink RX11 310 RX0 (TX0 0).2.1 (TX0 0).2.2.1 ∈ jT := jT_t1 (i := 159) (by decide +kernel) (by decide +kernel)
theorem wFL_X11_311 : Cond.fieldLink RX11 311 RX0 (TX0 1).2.1 (TX0 1).2.2.1 ∈ jT := jT_t1 (i := 161) (by decide +kernel) (by decide +kernel)
theorem wFL_X11_319 : Cond.fieldLink RX11 319 RX8 (TX8 9).2.1 (TX8 9).2.2.1 ∈ jT := jT_t2 (i := 46) (by decide +kernel) (by decide +kernel)
theorem wFL_X11_323 : Cond.fieldLink RX11 323 RX9 (TX9 0).2.1 (TX9 0).2.2.1 ∈ jT := jT_t1 (i := 196) (by decide +kernel) (by decide +kernel)
theorem wFL_X11_333 : Cond.fieldLink RX11 333 RX9 (TX9 1).2.1 (TX9 1).2.2.1 ∈ jT := jT_t1 (i := 198) (by decide +kernel) (by decide +kernel)
theorem wFL_X11_345 : Cond.fieldLink RX11 345 RX9 (TX9 2).2.1 (TX9 2).2.2.1 ∈ jT := jT_t1 (i := 200) (by decide +kernel) (by decide +kernel)
theorem wFL_X11_354 : Cond.fieldLink RX11 354 RX8 (TX8 10).2.1 (TX8 10).2.2.1 ∈ jT := jT_t2 (i := 48) (by decide +kernel) (by decide +kernel)
theorem wFL_X11_358 : Cond.fieldLink RX11 358 RX10 (TX10 0).2.1 (TX10 0).2.2.1 ∈ jT := jT_t1 (i := 233) (by decide +kernel) (by decide +kernel)
theorem wFL_X11_373 : Cond.fieldLink RX11 373 RX10 (TX10 4).2.1 (TX10 4).2.2.1 ∈ jT := jT_t1 (i := 238) (by decide +kernel) (by decide +kernel)
theorem wFL_X11_376 : Cond.fieldLink RX11 376 RX10 (TX10 5).2.1 (TX10 5).2.2.1 ∈ jT := jT_t2 (i := 0) (by decide +kernel) (by decide +kernel)
theorem wFL_X11_388 : Cond.fieldLink RX11 388 RX7 (TX7 0).2.1 (TX7 0).2.2.1 ∈ jT := jT_t2 (i := 121) (by decide +kernel) (by decide +kernel)
theorem wFL_X0_11 : Cond.fieldLink RX0 11 RX0 (TX0 1).2.1 (TX0 1).2.2.1 ∈ jT := jT_t1 (i := 160) (by decide +kernel) (by decide +kernel)
theorem wFL_X0_15 : Cond.fieldLink RX0 15 RX0 (TX0 2).2.1 (TX0 2).2.2.1 ∈ jT := jT_t1 (i := 162) (by decide +kernel) (by decide +kernel)
theorem wFL_X0_18 : Cond.fieldLink RX0 18 RX0 (TX0 3).2.1 (TX0 3).2.2.1 ∈ jT := jT_t1 (i := 165) (by decide +kernel) (by decide +kernel)
theorem wFL_X0_21 : Cond.fieldLink RX0 21 RX0 (TX0 4).2.1 (TX0 4).2.2.1 ∈ jT := jT_t1 (i := 168) (by decide +kernel) (by decide +kernel)
theorem wFL_X0_24 : Cond.fieldLink RX0 24 RX0 (TX0 5).2.1 (TX0 5).2.2.1 ∈ jT := jT_t1 (i := 169) (by decide +kernel) (by decide +kernel)
theorem wFL_X0_27 : Cond.fieldLink RX0 27 RX0 (TX0 6).2.1 (TX0 6).2.2.1 ∈ jT := jT_t1 (i := 171) (by decide +kernel) (by decide +kernel)
theorem wFL_X0_31 : Cond.fieldLink RX0 31 RX0 (TX0 0).2.1 (TX0 0).2.2.1 ∈ jT := jT_t1 (i := 157) (by decide +kernel) (by decide +kernel)
theorem wFL_X1_11 : Cond.fieldLink RX1 11 RX1 (TX1 2).2.1 (TX1 2).2.2.1 ∈ jT := jT_t1 (i := 101) (by decide +kernel) (by decide +kernel)
theorem wFL_X1_15 : Cond.fieldLink RX1 15 RX1 (TX1 3).2.1 (TX1 3).2.2.1 ∈ jT := jT_t1 (i := 102) (by decide +kernel) (by decide +kernel)
theorem wFL_X1_18 : Cond.fieldLink RX1 18 RX1 (TX1 4).2.1 (TX1 4).2.2.1 ∈ jT := jT_t1 (i := 103) (by decide +kernel) (by decide +kernel)
theorem wFL_X1_22 : Cond.fieldLink RX1 22 RX1 (TX1 5).2.1 (TX1 5).2.2.1 ∈ jT := jT_t1 (i := 104) (by decide +kernel) (by decide +kernel)
theorem wFL_X1_25 : Cond.fieldLink RX1 25 RX1 (TX1 6).2.1 (TX1 6).2.2.1 ∈ jT := jT_t1 (i := 105) (by decide +kernel) (by decide +kernel)
theorem wFL_X1_28 : Cond.fieldLink RX1 28 RX1 (TX1 7).2.1 (TX1 7).2.2.1 ∈ jT := jT_t1 (i := 106) (by decide +kernel) (by decide +kernel)
theorem wFL_X1_31 : Cond.fieldLink RX1 31 RX1 (TX1 0).2.1 (TX1 0).2.2.1 ∈ jT := jT_t1 (i := 96) (by decide +kernel) (by decide +kernel)
theorem wFL_X1_35 : Cond.fieldLink RX1 35 RX1 (TX1 1).2.1 (TX1 1).2.2.1 ∈ jT := jT_t1 (i := 99) (by decide +kernel) (by decide +kernel)
theorem wFL_X2_11 : Cond.fieldLink RX2 11 RX2 (TX2 1).2.1 (TX2 1).2.2.1 ∈ jT := jT_t2 (i := 89) (by decide +kernel) (by decide +kernel)
theorem wFL_X2_17 : Cond.fieldLink RX2 17 RX2 (TX2 2).2.1 (TX2 2).2.2.1 ∈ jT := jT_t2 (i := 90) (by decide +kernel) (by decide +kernel)
theorem wFL_X2_21 : Cond.fieldLink RX2 21 RX2 (TX2 0).2.1 (TX2 0).2.2.1 ∈ jT := jT_t2 (i := 88) (by decide +kernel) (by decide +kernel)
theorem wFL_X2_25 : Cond.fieldLink RX2 25 RX8 (TX8 2).2.1 (TX8 2).2.2.1 ∈ jT := jT_t2 (i := 29) (by decide +kernel) (by decide +kernel)
theorem wFL_X2_29 : Cond.fieldLink RX2 29 RX8 (TX8 1).2.1 (TX8 1).2.2.1 ∈ jT := jT_t2 (i := 26) (by decide +kernel) (by decide +kernel)
theorem wFL_X2_32 : Cond.fieldLink RX2 32 RX8 (TX8 0).2.1 (TX8 0).2.2.1 ∈ jT := jT_t2 (i := 23) (by decide +kernel) (by decide +kernel)
theorem wFL_X2_39 : Cond.fieldLink RX2 39 RX5 (TX5 3).2.1 (TX5 3).2.2.1 ∈ jT := jT_t1 (i := 53) (by decide +kernel) (by decide +kernel)
theorem wFL_X2_60 : Cond.fieldLink RX2 60 RX2 (TX2 5).2.1 (TX2 5).2.2.1 ∈ jT := jT_t2 (i := 96) (by decide +kernel) (by decide +kernel)
theorem wFL_X2_64 : Cond.fieldLink RX2 64 RX5 (TX5 2).2.1 (TX5 2).2.2.1 ∈ jT := jT_t1 (i := 50) (by decide +kernel) (by decide +kernel)
theorem wFL_X2_71 : Cond.fieldLink RX2 71 RX5 (TX5 6).2.1 (TX5 6).2.2.1 ∈ jT := jT_t1 (i := 62) (by decide +kernel) (by decide +kernel)
theorem wFL_X2_74 : Cond.fieldLink RX2 74 RX5 (TX5 1).2.1 (TX5 1).2.2.1 ∈ jT := jT_t1 (i := 47) (by decide +kernel) (by decide +kernel)
theorem wFL_X2_77 : Cond.fieldLink RX2 77 RX8 (TX8 4).2.1 (TX8 4).2.2.1 ∈ jT := jT_t2 (i := 34) (by decide +kernel) (by decide +kernel)
theorem wFL_X2_80 : Cond.fieldLink RX2 80 RX5 (TX5 8).2.1 (TX5 8).2.2.1 ∈ jT := jT_t1 (i := 68) (by decide +kernel) (by decide +kernel)
theorem wFL_X2_96 : Cond.fieldLink RX2 96 RX5 (TX5 7).2.1 (TX5 7).2.2.1 ∈ jT := jT_t1 (i := 66) (by decide +kernel) (by decide +kernel)
theorem wFL_X2_103 : Cond.fieldLink RX2 103 RX8 (TX8 11).2.1 (TX8 11).2.2.1 ∈ jT := jT_t2 (i := 51) (by decide +kernel) (by decide +kernel)
theorem wFL_X2_106 : Cond.fieldLink RX2 106 RX2 (TX2 3).2.1 (TX2 3).2.2.1 ∈ jT := jT_t2 (i := 92) (by decide +kernel) (by decide +kernel)
theorem wFL_X2_109 : Cond.fieldLink RX2 109 RX2 (TX2 4).2.1 (TX2 4).2.2.1 ∈ jT := jT_t2 (i := 94) (by decide +kernel) (by decide +kernel)
theorem wFL_X2_115 : Cond.fieldLink RX2 115 RX8 (TX8 12).2.1 (TX8 12).2.2.1 ∈ jT := jT_t2 (i := 54) (by decide +kernel) (by decide +kernel)
theorem wFL_X2_136 : Cond.fieldLink RX2 136 RX8 (TX8 6).2.1 (TX8 6).2.2.1 ∈ jT := jT_t2 (i := 39) (by decide +kernel) (by decide +kernel)
theorem wFL_X2_150 : Cond.fieldLink RX2 150 RX8 (TX8 8).2.1 (TX8 8).2.2.1 ∈ jT := jT_t2 (i := 43) (by decide +kernel) (by decide +kernel)
theorem wFL_X2_157 : Cond.fieldLink RX2 157 RX0 (TX0 6).2.1 (TX0 6).2.2.1 ∈ jT := jT_t1 (i := 172) (by decide +kernel) (by decide +kernel)
theorem wFL_X2_158 : Cond.fieldLink RX2 158 RX0 (TX0 2).2.1 (TX0 2).2.2.1 ∈ jT := jT_t1 (i := 163) (by decide +kernel) (by decide +kernel)
theorem wFL_X2_161 : Cond.fieldLink RX2 161 RX5 (TX5 5).2.1 (TX5 5).2.2.1 ∈ jT := jT_t1 (i := 60) (by decide +kernel) (by decide +kernel)
theorem wFL_X2_162 : Cond.fieldLink RX2 162 RX0 (TX0 5).2.1 (TX0 5).2.2.1 ∈ jT := jT_t1 (i := 170) (by decide +kernel) (by decide +kernel)
theorem wFL_X2_165 : Cond.fieldLink RX2 165 RX0 (TX0 0).2.1 (TX0 0).2.2.1 ∈ jT := jT_t1 (i := 158) (by decide +kernel) (by decide +kernel)
theorem wFL_X2_175 : Cond.fieldLink RX2 175 RX0 (TX0 3).2.1 (TX0 3).2.2.1 ∈ jT := jT_t1 (i := 166) (by decide +kernel) (by decide +kernel)
theorem wFL_X3_9 : Cond.fieldLink RX3 9 RX3 (TX3 4).2.1 (TX3 4).2.2.1 ∈ jT := jT_t1 (i := 139) (by decide +kernel) (by decide +kernel)
theorem wFL_X3_15 : Cond.fieldLink RX3 15 RX3 (TX3 0).2.1 (TX3 0).2.2.1 ∈ jT := jT_t1 (i := 130) (by decide +kernel) (by decide +kernel)
theorem wFL_X3_19 : Cond.fieldLink RX3 19 RX3 (TX3 1).2.1 (TX3 1).2.2.1 ∈ jT := jT_t1 (i := 133) (by decide +kernel) (by decide +kernel)
theorem wFL_X3_22 : Cond.fieldLink RX3 22 RX3 (TX3 2).2.1 (TX3 2).2.2.1 ∈ jT := jT_t1 (i := 135) (by decide +kernel) (by decide +kernel)
theorem wFL_X3_25 : Cond.fieldLink RX3 25 RX3 (TX3 3).2.1 (TX3 3).2.2.1 ∈ jT := jT_t1 (i := 137) (by decide +kernel) (by decide +kernel)
theorem wFL_X5_15 : Cond.fieldLink RX5 15 RX5 (TX5 0).2.1 (TX5 0).2.2.1 ∈ jT := jT_t1 (i := 45) (by decide +kernel) (by decide +kernel)
theorem wFL_X5_21 : Cond.fieldLink RX5 21 RX5 (TX5 1).2.1 (TX5 1).2.2.1 ∈ jT := jT_t1 (i := 46) (by decide +kernel) (by decide +kernel)
theorem wFL_X5_24 : Cond.fieldLink RX5 24 RX5 (TX5 3).2.1 (TX5 3).2.2.1 ∈ jT := jT_t1 (i := 52) (by decide +kernel) (by decide +kernel)
theorem wFL_X5_28 : Cond.fieldLink RX5 28 RX5 (TX5 4).2.1 (TX5 4).2.2.1 ∈ jT := jT_t1 (i := 56) (by decide +kernel) (by decide +kernel)
theorem wFL_X5_31 : Cond.fieldLink RX5 31 RX5 (TX5 5).2.1 (TX5 5).2.2.1 ∈ jT := jT_t1 (i := 57) (by decide +kernel) (by decide +kernel)
theorem wFL_X5_34 : Cond.fieldLink RX5 34 RX5 (TX5 6).2.1 (TX5 6).2.2.1 ∈ jT := jT_t1 (i := 61) (by decide +kernel) (by decide +kernel)
theorem wFL_X5_37 : Cond.fieldLink RX5 37 RX5 (TX5 7).2.1 (TX5 7).2.2.1 ∈ jT := jT_t1 (i := 65) (by decide +kernel) (by decide +kernel)
theorem wFL_X5_40 : Cond.fieldLink RX5 40 RX5 (TX5 8).2.1 (TX5 8).2.2.1 ∈ jT := jT_t1 (i := 67) (by decide +kernel) (by decide +kernel)
theorem wFL_X5_44 : Cond.fieldLink RX5 44 RX5 (TX5 2).2.1 (TX5 2).2.2.1 ∈ jT := jT_t1 (i := 48) (by decide +kernel) (by decide +kernel)
theorem wFL_X6_12 : Cond.fieldLink RX6 12 RX6 (TX6 0).2.1 (TX6 0).2.2.1 ∈ jT := jT_t2 (i := 141) (by decide +kernel) (by decide +kernel)
theorem wFL_X6_21 : Cond.fieldLink RX6 21 RX6 (TX6 1).2.1 (TX6 1).2.2.1 ∈ jT := jT_t2 (i := 143) (by decide +kernel) (by decide +kernel)
theorem wFL_X6_25 : Cond.fieldLink RX6 25 RX6 (TX6 6).2.1 (TX6 6).2.2.1 ∈ jT := jT_t2 (i := 151) (by decide +kernel) (by decide +kernel)
theorem wFL_X6_29 : Cond.fieldLink RX6 29 RX6 (TX6 7).2.1 (TX6 7).2.2.1 ∈ jT := jT_t2 (i := 152) (by decide +kernel) (by decide +kernel)
theorem wFL_X6_32 : Cond.fieldLink RX6 32 RX6 (TX6 8).2.1 (TX6 8).2.2.1 ∈ jT := jT_t2 (i := 153) (by decide +kernel) (by decide +kernel)
theorem wFL_X6_35 : Cond.fieldLink RX6 35 RX6 (TX6 2).2.1 (TX6 2).2.2.1 ∈ jT := jT_t2 (i := 145) (by decide +kernel) (by decide +kernel)
theorem wFL_X6_39 : Cond.fieldLink RX6 39 RX6 (TX6 3).2.1 (TX6 3).2.2.1 ∈ jT := jT_t2 (i := 147) (by decide +kernel) (by decide +kernel)
theorem wFL_X6_42 : Cond.fieldLink RX6 42 RX6 (TX6 4).2.1 (TX6 4).2.2.1 ∈ jT := jT_t2 (i := 149) (by decide +kernel) (by decide +kernel)
theorem wFL_X6_45 : Cond.fieldLink RX6 45 RX6 (TX6 5).2.1 (TX6 5).2.2.1 ∈ jT := jT_t2 (i := 150) (by decide +kernel) (by decide +kernel)
theorem wFL_X6_130 : Cond.fieldLink RX6 130 RX1 (TX1 0).2.1 (TX1 0).2.2.1 ∈ jT := jT_t1 (i := 98) (by decide +kernel) (by decide +kernel)
theorem wFL_X6_141 : Cond.fieldLink RX6 141 RX1 (TX1 1).2.1 (TX1 1).2.2.1 ∈ jT := jT_t1 (i := 100) (by decide +kernel) (by decide +kernel)
theorem wFL_X6_178 : Cond.fieldLink RX6 178 RX3 (TX3 0).2.1 (TX3 0).2.2.1 ∈ jT := jT_t1 (i := 132) (by decide +kernel) (by decide +kernel)
theorem wFL_X7_11 : Cond.fieldLink RX7 11 RX7 (TX7 0).2.1 (TX7 0).2.2.1 ∈ jT := jT_t2 (i := 120) (by decide +kernel) (by decide +kernel)
theorem wFL_X7_15 : Cond.fieldLink RX7 15 RX7 (TX7 1).2.1 (TX7 1).2.2.1 ∈ jT := jT_t2 (i := 122) (by decide +kernel) (by decide +kernel)
theorem wFL_X7_18 : Cond.fieldLink RX7 18 RX7 (TX7 2).2.1 (TX7 2).2.2.1 ∈ jT := jT_t2 (i := 123) (by decide +kernel) (by decide +kernel)
theorem wFL_X8_16 : Cond.fieldLink RX8 16 RX8 (TX8 0).2.1 (TX8 0).2.2.1 ∈ jT := jT_t2 (i := 22) (by decide +kernel) (by decide +kernel)
theorem wFL_X8_20 : Cond.fieldLink RX8 20 RX8 (TX8 1).2.1 (TX8 1).2.2.1 ∈ jT := jT_t2 (i := 25) (by decide +kernel) (by decide +kernel)
theorem wFL_X8_23 : Cond.fieldLink RX8 23 RX8 (TX8 2).2.1 (TX8 2).2.2.1 ∈ jT := jT_t2 (i := 28) (by decide +kernel) (by decide +kernel)
theorem wFL_X8_26 : Cond.fieldLink RX8 26 RX8 (TX8 3).2.1 (TX8 3).2.2.1 ∈ jT := jT_t2 (i := 31) (by decide +kernel) (by decide +kernel)
theorem wFL_X8_29 : Cond.fieldLink RX8 29 RX8 (TX8 4).2.1 (TX8 4).2.2.1 ∈ jT := jT_t2 (i := 33) (by decide +kernel) (by decide +kernel)
theorem wFL_X8_33 : Cond.fieldLink RX8 33 RX8 (TX8 5).2.1 (TX8 5).2.2.1 ∈ jT := jT_t2 (i := 35) (by decide +kernel) (by decide +kernel)
theorem wFL_X8_40 : Cond.fieldLink RX8 40 RX8 (TX8 6).2.1 (TX8 6).2.2.1 ∈ jT := jT_t2 (i := 37) (by decide +kernel) (by decide +kernel)
theorem wFL_X8_47 : Cond.fieldLink RX8 47 RX8 (TX8 7).2.1 (TX8 7).2.2.1 ∈ jT := jT_t2 (i := 40) (by decide +kernel) (by decide +kernel)
theorem wFL_X8_54 : Cond.fieldLink RX8 54 RX8 (TX8 8).2.1 (TX8 8).2.2.1 ∈ jT := jT_t2 (i := 42) (by decide +kernel) (by decide +kernel)
theorem wFL_X8_61 : Cond.fieldLink RX8 61 RX8 (TX8 9).2.1 (TX8 9).2.2.1 ∈ jT := jT_t2 (i := 45) (by decide +kernel) (by decide +kernel)
theorem wFL_X8_68 : Cond.fieldLink RX8 68 RX8 (TX8 10).2.1 (TX8 10).2.2.1 ∈ jT := jT_t2 (i := 47) (by decide +kernel) (by decide +kernel)
theorem wFL_X8_72 : Cond.fieldLink RX8 72 RX8 (TX8 11).2.1 (TX8 11).2.2.1 ∈ jT := jT_t2 (i := 49) (by decide +kernel) (by decide +kernel)
theorem wFL_X8_76 : Cond.fieldLink RX8 76 RX8 (TX8 12).2.1 (TX8 12).2.2.1 ∈ jT := jT_t2 (i := 52) (by decide +kernel) (by decide +kernel)
theorem wFL_X8_112 : Cond.fieldLink RX8 112 RX5 (TX5 5).2.1 (TX5 5).2.2.1 ∈ jT := jT_t1 (i := 58) (by decide +kernel) (by decide +kernel)
theorem wFL_X8_115 : Cond.fieldLink RX8 115 RX5 (TX5 2).2.1 (TX5 2).2.2.1 ∈ jT := jT_t1 (i := 49) (by decide +kernel) (by decide +kernel)
theorem wFL_X8_121 : Cond.fieldLink RX8 121 RX5 (TX5 3).2.1 (TX5 3).2.2.1 ∈ jT := jT_t1 (i := 54) (by decide +kernel) (by decide +kernel)
theorem wFL_X8_132 : Cond.fieldLink RX8 132 RX5 (TX5 6).2.1 (TX5 6).2.2.1 ∈ jT := jT_t1 (i := 63) (by decide +kernel) (by decide +kernel)
theorem wFL_X8_156 : Cond.fieldLink RX8 156 RX3 (TX3 1).2.1 (TX3 1).2.2.1 ∈ jT := jT_t1 (i := 134) (by decide +kernel) (by decide +kernel)
theorem wFL_X8_163 : Cond.fieldLink RX8 163 RX3 (TX3 3).2.1 (TX3 3).2.2.1 ∈ jT := jT_t1 (i := 138) (by decide +kernel) (by decide +kernel)
theorem wFL_X8_169 : Cond.fieldLink RX8 169 RX3 (TX3 2).2.1 (TX3 2).2.2.1 ∈ jT := jT_t1 (i := 136) (by decide +kernel) (by decide +kernel)
theorem wFL_X9_11 : Cond.fieldLink RX9 11 RX9 (TX9 3).2.1 (TX9 3).2.2.1 ∈ jT := jT_t1 (i := 201) (by decide +kernel) (by decide +kernel)
theorem wFL_X9_15 : Cond.fieldLink RX9 15 RX9 (TX9 4).2.1 (TX9 4).2.2.1 ∈ jT := jT_t1 (i := 202) (by decide +kernel) (by decide +kernel)
theorem wFL_X9_18 : Cond.fieldLink RX9 18 RX9 (TX9 5).2.1 (TX9 5).2.2.1 ∈ jT := jT_t1 (i := 203) (by decide +kernel) (by decide +kernel)
theorem wFL_X9_21 : Cond.fieldLink RX9 21 RX9 (TX9 6).2.1 (TX9 6).2.2.1 ∈ jT := jT_t1 (i := 204) (by decide +kernel) (by decide +kernel)
theorem wFL_X9_24 : Cond.fieldLink RX9 24 RX9 (TX9 7).2.1 (TX9 7).2.2.1 ∈ jT := jT_t1 (i := 205) (by decide +kernel) (by decide +kernel)
theorem wFL_X9_27 : Cond.fieldLink RX9 27 RX9 (TX9 8).2.1 (TX9 8).2.2.1 ∈ jT := jT_t1 (i := 206) (by decide +kernel) (by decide +kernel)
theorem wFL_X9_30 : Cond.fieldLink RX9 30 RX9 (TX9 0).2.1 (TX9 0).2.2.1 ∈ jT := jT_t1 (i := 195) (by decide +kernel) (by decide +kernel)
theorem wFL_X9_34 : Cond.fieldLink RX9 34 RX9 (TX9 1).2.1 (TX9 1).2.2.1 ∈ jT := jT_t1 (i := 197) (by decide +kernel) (by decide +kernel)
theorem wFL_X9_37 : Cond.fieldLink RX9 37 RX9 (TX9 2).2.1 (TX9 2).2.2.1 ∈ jT := jT_t1 (i := 199) (by decide +kernel) (by decide +kernel)
theorem wFL_X10_11 : Cond.fieldLink RX10 11 RX10 (TX10 1).2.1 (TX10 1).2.2.1 ∈ jT := jT_t1 (i := 234) (by decide +kernel) (by decide +kernel)
theorem wFL_X10_15 : Cond.fieldLink RX10 15 RX10 (TX10 2).2.1 (TX10 2).2.2.1 ∈ jT := jT_t1 (i := 235) (by decide +kernel) (by decide +kernel)
theorem wFL_X10_18 : Cond.fieldLink RX10 18 RX10 (TX10 3).2.1 (TX10 3).2.2.1 ∈ jT := jT_t1 (i := 236) (by decide +kernel) (by decide +kernel)
theorem wFL_X10_21 : Cond.fieldLink RX10 21 RX10 (TX10 4).2.1 (TX10 4).2.2.1 ∈ jT := jT_t1 (i := 237) (by decide +kernel) (by decide +kernel)
theorem wFL_X10_24 : Cond.fieldLink RX10 24 RX10 (TX10 5).2.1 (TX10 5).2.2.1 ∈ jT := jT_t1 (i := 239) (by decide +kernel) (by decide +kernel)
theorem wFL_X10_27 : Cond.fieldLink RX10 27 RX10 (TX10 0).2.1 (TX10 0).2.2.1 ∈ jT := jT_t1 (i := 232) (by decide +kernel) (by decide +kernel)
theorem wFL_X12_1 : Cond.fieldLink RX12 1 RX12 (TX12 0).2.1 (TX12 0).2.2.1 ∈ jT := jT_t6 (i := 36) (by decide +kernel) (by decide +kernel)
theorem wFL_X12_7 : Cond.fieldLink RX12 7 RX12 (TX12 1).2.1 (TX12 1).2.2.1 ∈ jT := jT_t6 (i := 37) (by decide +kernel) (by decide +kernel)
theorem wFL_X12_17 : Cond.fieldLink RX12 17 RX12 (TX12 2).2.1 (TX12 2).2.2.1 ∈ jT := jT_t6 (i := 38) (by decide +kernel) (by decide +kernel)
theorem wFL_X12_20 : Cond.fieldLink RX12 20 RX12 (TX12 3).2.1 (TX12 3).2.2.1 ∈ jT := jT_t6 (i := 39) (by decide +kernel) (by decide +kernel)
theorem wFL_X12_24 : Cond.fieldLink RX12 24 RX12 (TX12 4).2.1 (TX12 4).2.2.1 ∈ jT := jT_t6 (i := 40) (by decide +kernel) (by decide +kernel)
theorem wFL_X12_28 : Cond.fieldLink RX12 28 RX12 (TX12 5).2.1 (TX12 5).2.2.1 ∈ jT := jT_t6 (i := 41) (by decide +kernel) (by decide +kernel)
theorem wFL_X12_31 : Cond.fieldLink RX12 31 RX12 (TX12 6).2.1 (TX12 6).2.2.1 ∈ jT := jT_t6 (i := 42) (by decide +kernel) (by decide +kernel)
theorem wFL_X12_34 : Cond.fieldLink RX12 34 RX12 (TX12 7).2.1 (TX12 7).2.2.1 ∈ jT := jT_t6 (i := 43) (by decide +kernel) (by decide +kernel)
theorem wFL_X12_37 : Cond.fieldLink RX12 37 RX12 (TX12 8).2.1 (TX12 8).2.2.1 ∈ jT := jT_t6 (i := 44) (by decide +kernel) (by decide +kernel)
theorem wFL_X12_40 : Cond.fieldLink RX12 40 RX12 (TX12 20).2.1 (TX12 20).2.2.1 ∈ jT := jT_t6 (i := 56) (by decide +kernel) (by decide +kernel)
theorem wFL_X12_43 : Cond.fieldLink RX12 43 RX12 (TX12 21).2.1 (TX12 21).2.2.1 ∈ jT := jT_t6 (i := 57) (by decide +kernel) (by decide +kernel)
theorem wFL_X12_46 : Cond.fieldLink RX12 46 RX12 (TX12 22).2.1 (TX12 22).2.2.1 ∈ jT := jT_t6 (i := 58) (by decide +kernel) (by decide +kernel)
theorem wFL_X12_49 : Cond.fieldLink RX12 49 RX12 (TX12 24).2.1 (TX12 24).2.2.1 ∈ jT := jT_t6 (i := 60) (by decide +kernel) (by decide +kernel)
theorem wFL_X12_52 : Cond.fieldLink RX12 52 RX12 (TX12 26).2.1 (TX12 26).2.2.1 ∈ jT := jT_t6 (i := 62) (by decide +kernel) (by decide +kernel)
theorem wFL_X12_55 : Cond.fieldLink RX12 55 RX12 (TX12 27).2.1 (TX12 27).2.2.1 ∈ jT := jT_t6 (i := 63) (by decide +kernel) (by decide +kernel)
theorem wFL_X12_58 : Cond.fieldLink RX12 58 RX12 (TX12 31).2.1 (TX12 31).2.2.1 ∈ jT := jT_t6 (i := 67) (by decide +kernel) (by decide +kernel)
theorem wFL_X12_61 : Cond.fieldLink RX12 61 RX12 (TX12 34).2.1 (TX12 34).2.2.1 ∈ jT := jT_t6 (i := 70) (by decide +kernel) (by decide +kernel)
theorem wFL_X12_64 : Cond.fieldLink RX12 64 RX12 (TX12 35).2.1 (TX12 35).2.2.1 ∈ jT := jT_t6 (i := 71) (by decide +kernel) (by decide +kernel)
theorem wFL_X12_67 : Cond.fieldLink RX12 67 RX12 (TX12 36).2.1 (TX12 36).2.2.1 ∈ jT := jT_t6 (i := 72) (by decide +kernel) (by decide +kernel)
theorem wFL_X12_70 : Cond.fieldLink RX12 70 RX12 (TX12 37).2.1 (TX12 37).2.2.1 ∈ jT := jT_t6 (i := 73) (by decide +kernel) (by decide +kernel)
theorem wFL_X12_115 : Cond.fieldLink RX12 115 RX12 (TX12 9).2.1 (TX12 9).2.2.1 ∈ jT := jT_t6 (i := 45) (by decide +kernel) (by decide +kernel)
theorem wFL_X12_118 : Cond.fieldLink RX12 118 RX12 (TX12 12).2.1 (TX12 12).2.2.1 ∈ jT := jT_t6 (i := 48) (by decide +kernel) (by decide +kernel)
theorem wFL_X12_133 : Cond.fieldLink RX12 133 RX12 (TX12 10).2.1 (TX12 10).2.2.1 ∈ jT := jT_t6 (i := 46) (by decide +kernel) (by decide +kernel)
theorem wFL_X12_136 : Cond.fieldLink RX12 136 RX12 (TX12 11).2.1 (TX12 11).2.2.1 ∈ jT := jT_t6 (i := 47) (by decide +kernel) (by decide +kernel)
theorem wFL_X12_142 : Cond.fieldLink RX12 142 RX12 (TX12 13).2.1 (TX12 13).2.2.1 ∈ jT := jT_t6 (i := 49) (by decide +kernel) (by decide +kernel)
theorem wFL_X12_155 : Cond.fieldLink RX12 155 RX12 (TX12 14).2.1 (TX12 14).2.2.1 ∈ jT := jT_t6 (i := 50) (by decide +kernel) (by decide +kernel)
theorem wFL_X12_158 : Cond.fieldLink RX12 158 RX12 (TX12 15).2.1 (TX12 15).2.2.1 ∈ jT := jT_t6 (i := 51) (by decide +kernel) (by decide +kernel)
theorem wFL_X12_161 : Cond.fieldLink RX12 161 RX12 (TX12 16).2.1 (TX12 16).2.2.1 ∈ jT := jT_t6 (i := 52) (by decide +kernel) (by decide +kernel)
theorem wFL_X12_177 : Cond.fieldLink RX12 177 RX12 (TX12 18).2.1 (TX12 18).2.2.1 ∈ jT := jT_t6 (i := 54) (by decide +kernel) (by decide +kernel)
theorem wFL_X12_190 : Cond.fieldLink RX12 190 RX12 (TX12 17).2.1 (TX12 17).2.2.1 ∈ jT := jT_t6 (i := 53) (by decide +kernel) (by decide +kernel)
theorem wFL_X12_217 : Cond.fieldLink RX12 217 RX12 (TX12 19).2.1 (TX12 19).2.2.1 ∈ jT := jT_t6 (i := 55) (by decide +kernel) (by decide +kernel)
theorem wFL_X12_220 : Cond.fieldLink RX12 220 RX12 (TX12 23).2.1 (TX12 23).2.2.1 ∈ jT := jT_t6 (i := 59) (by decide +kernel) (by decide +kernel)
theorem wFL_X12_241 : Cond.fieldLink RX12 241 RX12 (TX12 25).2.1 (TX12 25).2.2.1 ∈ jT := jT_t6 (i := 61) (by decide +kernel) (by decide +kernel)
theorem wFL_X12_253 : Cond.fieldLink RX12 253 RX12 (TX12 28).2.1 (TX12 28).2.2.1 ∈ jT := jT_t6 (i := 64) (by decide +kernel) (by decide +kernel)
theorem wFL_X12_256 : Cond.fieldLink RX12 256 RX12 (TX12 29).2.1 (TX12 29).2.2.1 ∈ jT := jT_t6 (i := 65) (by decide +kernel) (by decide +kernel)
theorem wFL_X12_266 : Cond.fieldLink RX12 266 RX12 (TX12 30).2.1 (TX12 30).2.2.1 ∈ jT := jT_t6 (i := 66) (by decide +kernel) (by decide +kernel)
theorem wFL_X12_288 : Cond.fieldLink RX12 288 RX12 (TX12 32).2.1 (TX12 32).2.2.1 ∈ jT := jT_t6 (i := 68) (by decide +kernel) (by decide +kernel)
theorem wFL_X12_291 : Cond.fieldLink RX12 291 RX12 (TX12 33).2.1 (TX12 33).2.2.1 ∈ jT := jT_t6 (i := 69) (by decide +kernel) (by decide +kernel)
