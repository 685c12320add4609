/-! THE LAW: its 46 cases, its loop (by program: wip/whole/gen/genlaw.py) -/
theorem xCL : Cond.constantLong RL 18 (4294967295 : Int64) ∈ jT := jT_t8 (i := 105) (by decide +kernel) (by decide +kernel)
/-- two ints as a long; an int as a boolean -/
def lkL (a b : Int32) : Int64 := l_shl a.toInt64 (32 : Int32) ||| (b.toInt64 &&& (4294967295 : Int64))
def lkB (a : Int32) : Int32 := if a = 0 then 0 else 1
theorem xIN_X11 : Cond.instantiable RX11 11 ∈ jT := jT_t1 (i := 23) (by decide +kernel) (by decide +kernel)
theorem xCL_L_X11 : Cond.classLink RL 7 RX11 ∈ jT := jT_t1 (i := 22) (by decide +kernel) (by decide +kernel)
theorem xIN_X12 : Cond.instantiable RX12 38 ∈ jT := jT_t6 (i := 31) (by decide +kernel) (by decide +kernel)
theorem xCL_L_X12 : Cond.classLink RL 10 RX12 ∈ jT := jT_t6 (i := 30) (by decide +kernel) (by decide +kernel)
theorem xML_L_9 : Cond.methodLink RL 9 yX11_init ∈ jT := jT_t1 (i := 24) (by decide +kernel) (by decide +kernel)
theorem xML_L_12 : Cond.methodLink RL 12 yX12_init ∈ jT := jT_t6 (i := 32) (by decide +kernel) (by decide +kernel)
theorem lkL_13 : jLk RL 13 yX11_open MX11_open 4 := ⟨jT_t2 (i := 208) (by decide +kernel) (by decide +kernel), jT_t1 (i := 1) (by decide +kernel) (by decide +kernel), wCD_X11_open, by decide, by decide +kernel, by decide +kernel, by decide +kernel⟩
theorem wIM_X11_open : Cond.instanceMethod yX11_open ∈ jT := jT_t2 (i := 209) (by decide +kernel) (by decide +kernel)
theorem wSE_X11_open : Cond.selects yX11_open.cls yX11_open yX11_open ∈ jT := jT_t2 (i := 210) (by decide +kernel) (by decide +kernel)
theorem lkL_17 : jLk RL 17 yX12_open MX12_open 4 := ⟨jT_t6 (i := 151) (by decide +kernel) (by decide +kernel), jT_t1 (i := 14) (by decide +kernel) (by decide +kernel), wCD_X12_open, by decide, by decide +kernel, by decide +kernel, by decide +kernel⟩
theorem wIM_X12_open : Cond.instanceMethod yX12_open ∈ jT := jT_t6 (i := 152) (by decide +kernel) (by decide +kernel)
theorem wSE_X12_open : Cond.selects yX12_open.cls yX12_open yX12_open ∈ jT := jT_t6 (i := 153) (by decide +kernel) (by decide +kernel)
theorem lkL_20 : jLk RL 20 yX11_line MX11_line 4 := ⟨jT_t2 (i := 232) (by decide +kernel) (by decide +kernel), jT_t1 (i := 1) (by decide +kernel) (by decide +kernel), wCD_X11_line, by decide, by decide +kernel, by decide +kernel, by decide +kernel⟩
theorem wIM_X11_line : Cond.instanceMethod yX11_line ∈ jT := jT_t2 (i := 233) (by decide +kernel) (by decide +kernel)
theorem wSE_X11_line : Cond.selects yX11_line.cls yX11_line yX11_line ∈ jT := jT_t2 (i := 234) (by decide +kernel) (by decide +kernel)
theorem lkL_24 : jLk RL 24 yX12_line MX12_line 4 := ⟨jT_t6 (i := 170) (by decide +kernel) (by decide +kernel), jT_t1 (i := 14) (by decide +kernel) (by decide +kernel), wCD_X12_line, by decide, by decide +kernel, by decide +kernel, by decide +kernel⟩
theorem wIM_X12_line : Cond.instanceMethod yX12_line ∈ jT := jT_t6 (i := 171) (by decide +kernel) (by decide +kernel)
theorem wSE_X12_line : Cond.selects yX12_line.cls yX12_line yX12_line ∈ jT := jT_t6 (i := 172) (by decide +kernel) (by decide +kernel)
theorem lkL_25 : jLk RL 25 yX11_print MX11_print 1 := ⟨jT_t3 (i := 62) (by decide +kernel) (by decide +kernel), jT_t1 (i := 1) (by decide +kernel) (by decide +kernel), wCD_X11_print, by decide, by decide +kernel, by decide +kernel, by decide +kernel⟩
theorem wIM_X11_print : Cond.instanceMethod yX11_print ∈ jT := jT_t3 (i := 63) (by decide +kernel) (by decide +kernel)
theorem wSE_X11_print : Cond.selects yX11_print.cls yX11_print yX11_print ∈ jT := jT_t3 (i := 64) (by decide +kernel) (by decide +kernel)
theorem lkL_29 : jLk RL 29 yX12_print MX12_print 1 := ⟨jT_t6 (i := 183) (by decide +kernel) (by decide +kernel), jT_t1 (i := 14) (by decide +kernel) (by decide +kernel), wCD_X12_print, by decide, by decide +kernel, by decide +kernel, by decide +kernel⟩
theorem wIM_X12_print : Cond.instanceMethod yX12_print ∈ jT := jT_t6 (i := 184) (by decide +kernel) (by decide +kernel)
theorem wSE_X12_print : Cond.selects yX12_print.cls yX12_print yX12_print ∈ jT := jT_t6 (i := 185) (by decide +kernel) (by decide +kernel)
theorem lkL_30 : jLk RL 30 yX11_bounds MX11_bounds 2 := ⟨jT_t3 (i := 66) (by decide +kernel) (by decide +kernel), jT_t1 (i := 1) (by decide +kernel) (by decide +kernel), wCD_X11_bounds, by decide, by decide +kernel, by decide +kernel, by decide +kernel⟩
theorem wIM_X11_bounds : Cond.instanceMethod yX11_bounds ∈ jT := jT_t3 (i := 67) (by decide +kernel) (by decide +kernel)
theorem wSE_X11_bounds : Cond.selects yX11_bounds.cls yX11_bounds yX11_bounds ∈ jT := jT_t3 (i := 68) (by decide +kernel) (by decide +kernel)
theorem lkL_34 : jLk RL 34 yX12_bounds MX12_bounds 2 := ⟨jT_t6 (i := 187) (by decide +kernel) (by decide +kernel), jT_t1 (i := 14) (by decide +kernel) (by decide +kernel), wCD_X12_bounds, by decide, by decide +kernel, by decide +kernel, by decide +kernel⟩
theorem wIM_X12_bounds : Cond.instanceMethod yX12_bounds ∈ jT := jT_t6 (i := 188) (by decide +kernel) (by decide +kernel)
theorem wSE_X12_bounds : Cond.selects yX12_bounds.cls yX12_bounds yX12_bounds ∈ jT := jT_t6 (i := 189) (by decide +kernel) (by decide +kernel)
theorem lkL_35 : jLk RL 35 yX11_words MX11_words 3 := ⟨jT_t3 (i := 71) (by decide +kernel) (by decide +kernel), jT_t1 (i := 1) (by decide +kernel) (by decide +kernel), wCD_X11_words, by decide, by decide +kernel, by decide +kernel, by decide +kernel⟩
theorem wIM_X11_words : Cond.instanceMethod yX11_words ∈ jT := jT_t3 (i := 72) (by decide +kernel) (by decide +kernel)
theorem wSE_X11_words : Cond.selects yX11_words.cls yX11_words yX11_words ∈ jT := jT_t3 (i := 73) (by decide +kernel) (by decide +kernel)
theorem lkL_39 : jLk RL 39 yX12_words MX12_words 3 := ⟨jT_t6 (i := 192) (by decide +kernel) (by decide +kernel), jT_t1 (i := 14) (by decide +kernel) (by decide +kernel), wCD_X12_words, by decide, by decide +kernel, by decide +kernel, by decide +kernel⟩
theorem wIM_X12_words : Cond.instanceMethod yX12_words ∈ jT := jT_t6 (i := 193) (by decide +kernel) (by decide +kernel)
theorem wSE_X12_words : Cond.selects yX12_words.cls yX12_words yX12_words ∈ jT := jT_t6 (i := 194) (by decide +kernel) (by decide +kernel)
theorem lkL_40 : jLk RL 40 yX11_like MX11_like 2 := ⟨jT_t3 (i := 85) (by decide +kernel) (by decide +kernel), jT_t1 (i := 1) (by decide +kernel) (by decide +kernel), wCD_X11_like, by decide, by decide +kernel, by decide +kernel, by decide +kernel⟩
theorem wIM_X11_like : Cond.instanceMethod yX11_like ∈ jT := jT_t3 (i := 86) (by decide +kernel) (by decide +kernel)
theorem wSE_X11_like : Cond.selects yX11_like.cls yX11_like yX11_like ∈ jT := jT_t3 (i := 87) (by decide +kernel) (by decide +kernel)
theorem lkL_44 : jLk RL 44 yX12_like MX12_like 2 := ⟨jT_t6 (i := 200) (by decide +kernel) (by decide +kernel), jT_t1 (i := 14) (by decide +kernel) (by decide +kernel), wCD_X12_like, by decide, by decide +kernel, by decide +kernel, by decide +kernel⟩
theorem wIM_X12_like : Cond.instanceMethod yX12_like ∈ jT := jT_t6 (i := 201) (by decide +kernel) (by decide +kernel)
theorem wSE_X12_like : Cond.selects yX12_like.cls yX12_like yX12_like ∈ jT := jT_t6 (i := 202) (by decide +kernel) (by decide +kernel)
theorem lkL_45 : jLk RL 45 yX11_feed MX11_feed 5 := ⟨jT_t3 (i := 103) (by decide +kernel) (by decide +kernel), jT_t1 (i := 1) (by decide +kernel) (by decide +kernel), wCD_X11_feed, by decide, by decide +kernel, by decide +kernel, by decide +kernel⟩
theorem wIM_X11_feed : Cond.instanceMethod yX11_feed ∈ jT := jT_t3 (i := 104) (by decide +kernel) (by decide +kernel)
theorem wSE_X11_feed : Cond.selects yX11_feed.cls yX11_feed yX11_feed ∈ jT := jT_t3 (i := 105) (by decide +kernel) (by decide +kernel)
theorem lkL_49 : jLk RL 49 yX12_feed MX12_feed 5 := ⟨jT_t6 (i := 208) (by decide +kernel) (by decide +kernel), jT_t1 (i := 14) (by decide +kernel) (by decide +kernel), wCD_X12_feed, by decide, by decide +kernel, by decide +kernel, by decide +kernel⟩
theorem wIM_X12_feed : Cond.instanceMethod yX12_feed ∈ jT := jT_t6 (i := 209) (by decide +kernel) (by decide +kernel)
theorem wSE_X12_feed : Cond.selects yX12_feed.cls yX12_feed yX12_feed ∈ jT := jT_t6 (i := 210) (by decide +kernel) (by decide +kernel)
theorem lkL_50 : jLk RL 50 yX11_text MX11_text 2 := ⟨jT_t3 (i := 111) (by decide +kernel) (by decide +kernel), jT_t1 (i := 1) (by decide +kernel) (by decide +kernel), wCD_X11_text, by decide, by decide +kernel, by decide +kernel, by decide +kernel⟩
theorem wIM_X11_text : Cond.instanceMethod yX11_text ∈ jT := jT_t3 (i := 112) (by decide +kernel) (by decide +kernel)
theorem wSE_X11_text : Cond.selects yX11_text.cls yX11_text yX11_text ∈ jT := jT_t3 (i := 113) (by decide +kernel) (by decide +kernel)
theorem lkL_53 : jLk RL 53 yX12_text MX12_text 2 := ⟨jT_t6 (i := 212) (by decide +kernel) (by decide +kernel), jT_t1 (i := 14) (by decide +kernel) (by decide +kernel), wCD_X12_text, by decide, by decide +kernel, by decide +kernel, by decide +kernel⟩
theorem wIM_X12_text : Cond.instanceMethod yX12_text ∈ jT := jT_t6 (i := 213) (by decide +kernel) (by decide +kernel)
theorem wSE_X12_text : Cond.selects yX12_text.cls yX12_text yX12_text ∈ jT := jT_t6 (i := 214) (by decide +kernel) (by decide +kernel)
theorem lkL_54 : jLk RL 54 yX11_fault MX11_fault 1 := ⟨jT_t4 (i := 60) (by decide +kernel) (by decide +kernel), jT_t1 (i := 1) (by decide +kernel) (by decide +kernel), wCD_X11_fault, by decide, by decide +kernel, by decide +kernel, by decide +kernel⟩
theorem wIM_X11_fault : Cond.instanceMethod yX11_fault ∈ jT := jT_t4 (i := 61) (by decide +kernel) (by decide +kernel)
theorem wSE_X11_fault : Cond.selects yX11_fault.cls yX11_fault yX11_fault ∈ jT := jT_t4 (i := 62) (by decide +kernel) (by decide +kernel)
theorem lkL_57 : jLk RL 57 yX12_fault MX12_fault 1 := ⟨jT_t7 (i := 47) (by decide +kernel) (by decide +kernel), jT_t1 (i := 14) (by decide +kernel) (by decide +kernel), wCD_X12_fault, by decide, by decide +kernel, by decide +kernel, by decide +kernel⟩
theorem wIM_X12_fault : Cond.instanceMethod yX12_fault ∈ jT := jT_t7 (i := 48) (by decide +kernel) (by decide +kernel)
theorem wSE_X12_fault : Cond.selects yX12_fault.cls yX12_fault yX12_fault ∈ jT := jT_t7 (i := 49) (by decide +kernel) (by decide +kernel)
theorem lkL_58 : jLk RL 58 yX11_smoothed MX11_smoothed 2 := ⟨jT_t4 (i := 64) (by decide +kernel) (by decide +kernel), jT_t1 (i := 1) (by decide +kernel) (by decide +kernel), wCD_X11_smoothed, by decide, by decide +kernel, by decide +kernel, by decide +kernel⟩
theorem wIM_X11_smoothed : Cond.instanceMethod yX11_smoothed ∈ jT := jT_t4 (i := 65) (by decide +kernel) (by decide +kernel)
theorem wSE_X11_smoothed : Cond.selects yX11_smoothed.cls yX11_smoothed yX11_smoothed ∈ jT := jT_t4 (i := 66) (by decide +kernel) (by decide +kernel)
theorem lkL_62 : jLk RL 62 yX12_smoothed MX12_smoothed 2 := ⟨jT_t7 (i := 51) (by decide +kernel) (by decide +kernel), jT_t1 (i := 14) (by decide +kernel) (by decide +kernel), wCD_X12_smoothed, by decide, by decide +kernel, by decide +kernel, by decide +kernel⟩
theorem wIM_X12_smoothed : Cond.instanceMethod yX12_smoothed ∈ jT := jT_t7 (i := 52) (by decide +kernel) (by decide +kernel)
theorem wSE_X12_smoothed : Cond.selects yX12_smoothed.cls yX12_smoothed yX12_smoothed ∈ jT := jT_t7 (i := 53) (by decide +kernel) (by decide +kernel)
theorem lkL_63 : jLk RL 63 yX11_told MX11_told 4 := ⟨jT_t4 (i := 69) (by decide +kernel) (by decide +kernel), jT_t1 (i := 1) (by decide +kernel) (by decide +kernel), wCD_X11_told, by decide, by decide +kernel, by decide +kernel, by decide +kernel⟩
theorem wIM_X11_told : Cond.instanceMethod yX11_told ∈ jT := jT_t4 (i := 70) (by decide +kernel) (by decide +kernel)
theorem wSE_X11_told : Cond.selects yX11_told.cls yX11_told yX11_told ∈ jT := jT_t4 (i := 71) (by decide +kernel) (by decide +kernel)
theorem lkL_66 : jLk RL 66 yX12_told MX12_told 4 := ⟨jT_t7 (i := 75) (by decide +kernel) (by decide +kernel), jT_t1 (i := 14) (by decide +kernel) (by decide +kernel), wCD_X12_told, by decide, by decide +kernel, by decide +kernel, by decide +kernel⟩
theorem wIM_X12_told : Cond.instanceMethod yX12_told ∈ jT := jT_t7 (i := 76) (by decide +kernel) (by decide +kernel)
theorem wSE_X12_told : Cond.selects yX12_told.cls yX12_told yX12_told ∈ jT := jT_t7 (i := 77) (by decide +kernel) (by decide +kernel)
theorem lkL_67 : jLk RL 67 yX11_whose MX11_whose 2 := ⟨jT_t4 (i := 93) (by decide +kernel) (by decide +kernel), jT_t1 (i := 1) (by decide +kernel) (by decide +kernel), wCD_X11_whose, by decide, by decide +kernel, by decide +kernel, by decide +kernel⟩
theorem wIM_X11_whose : Cond.instanceMethod yX11_whose ∈ jT := jT_t4 (i := 94) (by decide +kernel) (by decide +kernel)
theorem wSE_X11_whose : Cond.selects yX11_whose.cls yX11_whose yX11_whose ∈ jT := jT_t4 (i := 95) (by decide +kernel) (by decide +kernel)
theorem lkL_70 : jLk RL 70 yX12_whose MX12_whose 2 := ⟨jT_t7 (i := 88) (by decide +kernel) (by decide +kernel), jT_t1 (i := 14) (by decide +kernel) (by decide +kernel), wCD_X12_whose, by decide, by decide +kernel, by decide +kernel, by decide +kernel⟩
theorem wIM_X12_whose : Cond.instanceMethod yX12_whose ∈ jT := jT_t7 (i := 89) (by decide +kernel) (by decide +kernel)
theorem wSE_X12_whose : Cond.selects yX12_whose.cls yX12_whose yX12_whose ∈ jT := jT_t7 (i := 90) (by decide +kernel) (by decide +kernel)
theorem lkL_71 : jLk RL 71 yX11_late MX11_late 2 := ⟨jT_t4 (i := 125) (by decide +kernel) (by decide +kernel), jT_t1 (i := 1) (by decide +kernel) (by decide +kernel), wCD_X11_late, by decide, by decide +kernel, by decide +kernel, by decide +kernel⟩
theorem wIM_X11_late : Cond.instanceMethod yX11_late ∈ jT := jT_t4 (i := 126) (by decide +kernel) (by decide +kernel)
theorem wSE_X11_late : Cond.selects yX11_late.cls yX11_late yX11_late ∈ jT := jT_t4 (i := 127) (by decide +kernel) (by decide +kernel)
theorem lkL_74 : jLk RL 74 yX12_late MX12_late 2 := ⟨jT_t7 (i := 112) (by decide +kernel) (by decide +kernel), jT_t1 (i := 14) (by decide +kernel) (by decide +kernel), wCD_X12_late, by decide, by decide +kernel, by decide +kernel, by decide +kernel⟩
theorem wIM_X12_late : Cond.instanceMethod yX12_late ∈ jT := jT_t7 (i := 113) (by decide +kernel) (by decide +kernel)
theorem wSE_X12_late : Cond.selects yX12_late.cls yX12_late yX12_late ∈ jT := jT_t7 (i := 114) (by decide +kernel) (by decide +kernel)
theorem lkL_75 : jLk RL 75 yX11_share MX11_share 2 := ⟨jT_t4 (i := 131) (by decide +kernel) (by decide +kernel), jT_t1 (i := 1) (by decide +kernel) (by decide +kernel), wCD_X11_share, by decide, by decide +kernel, by decide +kernel, by decide +kernel⟩
theorem wIM_X11_share : Cond.instanceMethod yX11_share ∈ jT := jT_t4 (i := 132) (by decide +kernel) (by decide +kernel)
theorem wSE_X11_share : Cond.selects yX11_share.cls yX11_share yX11_share ∈ jT := jT_t4 (i := 133) (by decide +kernel) (by decide +kernel)
theorem lkL_78 : jLk RL 78 yX12_share MX12_share 2 := ⟨jT_t7 (i := 124) (by decide +kernel) (by decide +kernel), jT_t1 (i := 14) (by decide +kernel) (by decide +kernel), wCD_X12_share, by decide, by decide +kernel, by decide +kernel, by decide +kernel⟩
theorem wIM_X12_share : Cond.instanceMethod yX12_share ∈ jT := jT_t7 (i := 125) (by decide +kernel) (by decide +kernel)
theorem wSE_X12_share : Cond.selects yX12_share.cls yX12_share yX12_share ∈ jT := jT_t7 (i := 126) (by decide +kernel) (by decide +kernel)
theorem lkL_79 : jLk RL 79 yX11_span MX11_span 1 := ⟨jT_t4 (i := 141) (by decide +kernel) (by decide +kernel), jT_t1 (i := 1) (by decide +kernel) (by decide +kernel), wCD_X11_span, by decide, by decide +kernel, by decide +kernel, by decide +kernel⟩
theorem wIM_X11_span : Cond.instanceMethod yX11_span ∈ jT := jT_t4 (i := 142) (by decide +kernel) (by decide +kernel)
theorem wSE_X11_span : Cond.selects yX11_span.cls yX11_span yX11_span ∈ jT := jT_t4 (i := 143) (by decide +kernel) (by decide +kernel)
theorem lkL_82 : jLk RL 82 yX12_span MX12_span 1 := ⟨jT_t7 (i := 132) (by decide +kernel) (by decide +kernel), jT_t1 (i := 14) (by decide +kernel) (by decide +kernel), wCD_X12_span, by decide, by decide +kernel, by decide +kernel, by decide +kernel⟩
theorem wIM_X12_span : Cond.instanceMethod yX12_span ∈ jT := jT_t7 (i := 133) (by decide +kernel) (by decide +kernel)
theorem wSE_X12_span : Cond.selects yX12_span.cls yX12_span yX12_span ∈ jT := jT_t7 (i := 134) (by decide +kernel) (by decide +kernel)
theorem lkL_83 : jLk RL 83 yX11_chance MX11_chance 2 := ⟨jT_t4 (i := 145) (by decide +kernel) (by decide +kernel), jT_t1 (i := 1) (by decide +kernel) (by decide +kernel), wCD_X11_chance, by decide, by decide +kernel, by decide +kernel, by decide +kernel⟩
theorem wIM_X11_chance : Cond.instanceMethod yX11_chance ∈ jT := jT_t4 (i := 146) (by decide +kernel) (by decide +kernel)
theorem wSE_X11_chance : Cond.selects yX11_chance.cls yX11_chance yX11_chance ∈ jT := jT_t4 (i := 147) (by decide +kernel) (by decide +kernel)
theorem lkL_86 : jLk RL 86 yX12_chance MX12_chance 2 := ⟨jT_t7 (i := 136) (by decide +kernel) (by decide +kernel), jT_t1 (i := 14) (by decide +kernel) (by decide +kernel), wCD_X12_chance, by decide, by decide +kernel, by decide +kernel, by decide +kernel⟩
theorem wIM_X12_chance : Cond.instanceMethod yX12_chance ∈ jT := jT_t7 (i := 137) (by decide +kernel) (by decide +kernel)
theorem wSE_X12_chance : Cond.selects yX12_chance.cls yX12_chance yX12_chance ∈ jT := jT_t7 (i := 138) (by decide +kernel) (by decide +kernel)
theorem lkL_87 : jLk RL 87 yX11_odds MX11_odds 2 := ⟨jT_t4 (i := 173) (by decide +kernel) (by decide +kernel), jT_t1 (i := 1) (by decide +kernel) (by decide +kernel), wCD_X11_odds, by decide, by decide +kernel, by decide +kernel, by decide +kernel⟩
theorem wIM_X11_odds : Cond.instanceMethod yX11_odds ∈ jT := jT_t4 (i := 174) (by decide +kernel) (by decide +kernel)
theorem wSE_X11_odds : Cond.selects yX11_odds.cls yX11_odds yX11_odds ∈ jT := jT_t4 (i := 175) (by decide +kernel) (by decide +kernel)
theorem lkL_91 : jLk RL 91 yX12_odds MX12_odds 2 := ⟨jT_t7 (i := 150) (by decide +kernel) (by decide +kernel), jT_t1 (i := 14) (by decide +kernel) (by decide +kernel), wCD_X12_odds, by decide, by decide +kernel, by decide +kernel, by decide +kernel⟩
theorem wIM_X12_odds : Cond.instanceMethod yX12_odds ∈ jT := jT_t7 (i := 151) (by decide +kernel) (by decide +kernel)
theorem wSE_X12_odds : Cond.selects yX12_odds.cls yX12_odds yX12_odds ∈ jT := jT_t7 (i := 152) (by decide +kernel) (by decide +kernel)
theorem lkL_92 : jLk RL 92 yX11_matches MX11_matches 2 := ⟨jT_t4 (i := 177) (by decide +kernel) (by decide +kernel), jT_t1 (i := 1) (by decide +kernel) (by decide +kernel), wCD_X11_matches, by decide, by decide +kernel, by decide +kernel, by decide +kernel⟩
theorem wIM_X11_matches : Cond.instanceMethod yX11_matches ∈ jT := jT_t4 (i := 178) (by decide +kernel) (by decide +kernel)
theorem wSE_X11_matches : Cond.selects yX11_matches.cls yX11_matches yX11_matches ∈ jT := jT_t4 (i := 179) (by decide +kernel) (by decide +kernel)
theorem lkL_95 : jLk RL 95 yX12_matches MX12_matches 2 := ⟨jT_t7 (i := 154) (by decide +kernel) (by decide +kernel), jT_t1 (i := 14) (by decide +kernel) (by decide +kernel), wCD_X12_matches, by decide, by decide +kernel, by decide +kernel, by decide +kernel⟩
theorem wIM_X12_matches : Cond.instanceMethod yX12_matches ∈ jT := jT_t7 (i := 155) (by decide +kernel) (by decide +kernel)
theorem wSE_X12_matches : Cond.selects yX12_matches.cls yX12_matches yX12_matches ∈ jT := jT_t7 (i := 156) (by decide +kernel) (by decide +kernel)
theorem lkL_96 : jLk RL 96 yX11_most MX11_most 2 := ⟨jT_t4 (i := 189) (by decide +kernel) (by decide +kernel), jT_t1 (i := 1) (by decide +kernel) (by decide +kernel), wCD_X11_most, by decide, by decide +kernel, by decide +kernel, by decide +kernel⟩
theorem wIM_X11_most : Cond.instanceMethod yX11_most ∈ jT := jT_t4 (i := 190) (by decide +kernel) (by decide +kernel)
theorem wSE_X11_most : Cond.selects yX11_most.cls yX11_most yX11_most ∈ jT := jT_t4 (i := 191) (by decide +kernel) (by decide +kernel)
theorem lkL_99 : jLk RL 99 yX12_most MX12_most 2 := ⟨jT_t7 (i := 162) (by decide +kernel) (by decide +kernel), jT_t1 (i := 14) (by decide +kernel) (by decide +kernel), wCD_X12_most, by decide, by decide +kernel, by decide +kernel, by decide +kernel⟩
theorem wIM_X12_most : Cond.instanceMethod yX12_most ∈ jT := jT_t7 (i := 163) (by decide +kernel) (by decide +kernel)
theorem wSE_X12_most : Cond.selects yX12_most.cls yX12_most yX12_most ∈ jT := jT_t7 (i := 164) (by decide +kernel) (by decide +kernel)
theorem lkL_100 : jLk RL 100 yX11_adds MX11_adds 2 := ⟨jT_t4 (i := 193) (by decide +kernel) (by decide +kernel), jT_t1 (i := 1) (by decide +kernel) (by decide +kernel), wCD_X11_adds, by decide, by decide +kernel, by decide +kernel, by decide +kernel⟩
theorem wIM_X11_adds : Cond.instanceMethod yX11_adds ∈ jT := jT_t4 (i := 194) (by decide +kernel) (by decide +kernel)
theorem wSE_X11_adds : Cond.selects yX11_adds.cls yX11_adds yX11_adds ∈ jT := jT_t4 (i := 195) (by decide +kernel) (by decide +kernel)
theorem lkL_103 : jLk RL 103 yX12_adds MX12_adds 2 := ⟨jT_t7 (i := 167) (by decide +kernel) (by decide +kernel), jT_t1 (i := 14) (by decide +kernel) (by decide +kernel), wCD_X12_adds, by decide, by decide +kernel, by decide +kernel, by decide +kernel⟩
theorem wIM_X12_adds : Cond.instanceMethod yX12_adds ∈ jT := jT_t7 (i := 168) (by decide +kernel) (by decide +kernel)
theorem wSE_X12_adds : Cond.selects yX12_adds.cls yX12_adds yX12_adds ∈ jT := jT_t7 (i := 169) (by decide +kernel) (by decide +kernel)
theorem lkL_104 : jLk RL 104 yX11_added MX11_added 3 := ⟨jT_t4 (i := 206) (by decide +kernel) (by decide +kernel), jT_t1 (i := 1) (by decide +kernel) (by decide +kernel), wCD_X11_added, by decide, by decide +kernel, by decide +kernel, by decide +kernel⟩
theorem wIM_X11_added : Cond.instanceMethod yX11_added ∈ jT := jT_t4 (i := 207) (by decide +kernel) (by decide +kernel)
theorem wSE_X11_added : Cond.selects yX11_added.cls yX11_added yX11_added ∈ jT := jT_t4 (i := 208) (by decide +kernel) (by decide +kernel)
theorem lkL_108 : jLk RL 108 yX12_added MX12_added 3 := ⟨jT_t7 (i := 175) (by decide +kernel) (by decide +kernel), jT_t1 (i := 14) (by decide +kernel) (by decide +kernel), wCD_X12_added, by decide, by decide +kernel, by decide +kernel, by decide +kernel⟩
theorem wIM_X12_added : Cond.instanceMethod yX12_added ∈ jT := jT_t7 (i := 176) (by decide +kernel) (by decide +kernel)
theorem wSE_X12_added : Cond.selects yX12_added.cls yX12_added yX12_added ∈ jT := jT_t7 (i := 177) (by decide +kernel) (by decide +kernel)
theorem lkL_109 : jLk RL 109 yX11_year MX11_year 2 := ⟨jT_t4 (i := 210) (by decide +kernel) (by decide +kernel), jT_t1 (i := 1) (by decide +kernel) (by decide +kernel), wCD_X11_year, by decide, by decide +kernel, by decide +kernel, by decide +kernel⟩
theorem wIM_X11_year : Cond.instanceMethod yX11_year ∈ jT := jT_t4 (i := 211) (by decide +kernel) (by decide +kernel)
theorem wSE_X11_year : Cond.selects yX11_year.cls yX11_year yX11_year ∈ jT := jT_t4 (i := 212) (by decide +kernel) (by decide +kernel)
theorem lkL_112 : jLk RL 112 yX12_year MX12_year 2 := ⟨jT_t7 (i := 179) (by decide +kernel) (by decide +kernel), jT_t1 (i := 14) (by decide +kernel) (by decide +kernel), wCD_X12_year, by decide, by decide +kernel, by decide +kernel, by decide +kernel⟩
theorem wIM_X12_year : Cond.instanceMethod yX12_year ∈ jT := jT_t7 (i := 180) (by decide +kernel) (by decide +kernel)
theorem wSE_X12_year : Cond.selects yX12_year.cls yX12_year yX12_year ∈ jT := jT_t7 (i := 181) (by decide +kernel) (by decide +kernel)
theorem lkL_113 : jLk RL 113 yX11_version MX11_version 4 := ⟨jT_t4 (i := 215) (by decide +kernel) (by decide +kernel), jT_t1 (i := 1) (by decide +kernel) (by decide +kernel), wCD_X11_version, by decide, by decide +kernel, by decide +kernel, by decide +kernel⟩
theorem wIM_X11_version : Cond.instanceMethod yX11_version ∈ jT := jT_t4 (i := 216) (by decide +kernel) (by decide +kernel)
theorem wSE_X11_version : Cond.selects yX11_version.cls yX11_version yX11_version ∈ jT := jT_t4 (i := 217) (by decide +kernel) (by decide +kernel)
theorem lkL_117 : jLk RL 117 yX12_version MX12_version 4 := ⟨jT_t7 (i := 184) (by decide +kernel) (by decide +kernel), jT_t1 (i := 14) (by decide +kernel) (by decide +kernel), wCD_X12_version, by decide, by decide +kernel, by decide +kernel, by decide +kernel⟩
theorem wIM_X12_version : Cond.instanceMethod yX12_version ∈ jT := jT_t7 (i := 185) (by decide +kernel) (by decide +kernel)
theorem wSE_X12_version : Cond.selects yX12_version.cls yX12_version yX12_version ∈ jT := jT_t7 (i := 186) (by decide +kernel) (by decide +kernel)
theorem lkL_118 : jLk RL 118 yX11_which MX11_which 1 := ⟨jT_t4 (i := 219) (by decide +kernel) (by decide +kernel), jT_t1 (i := 1) (by decide +kernel) (by decide +kernel), wCD_X11_which, by decide, by decide +kernel, by decide +kernel, by decide +kernel⟩
theorem wIM_X11_which : Cond.instanceMethod yX11_which ∈ jT := jT_t4 (i := 220) (by decide +kernel) (by decide +kernel)
theorem wSE_X11_which : Cond.selects yX11_which.cls yX11_which yX11_which ∈ jT := jT_t4 (i := 221) (by decide +kernel) (by decide +kernel)
theorem lkL_121 : jLk RL 121 yX12_which MX12_which 1 := ⟨jT_t7 (i := 188) (by decide +kernel) (by decide +kernel), jT_t1 (i := 14) (by decide +kernel) (by decide +kernel), wCD_X12_which, by decide, by decide +kernel, by decide +kernel, by decide +kernel⟩
theorem wIM_X12_which : Cond.instanceMethod yX12_which ∈ jT := jT_t7 (i := 189) (by decide +kernel) (by decide +kernel)
theorem wSE_X12_which : Cond.selects yX12_which.cls yX12_which yX12_which ∈ jT := jT_t7 (i := 190) (by decide +kernel) (by decide +kernel)
theorem lkL_122 : jLk RL 122 yX11_answer MX11_answer 6 := ⟨jT_t4 (i := 229) (by decide +kernel) (by decide +kernel), jT_t1 (i := 1) (by decide +kernel) (by decide +kernel), wCD_X11_answer, by decide, by decide +kernel, by decide +kernel, by decide +kernel⟩
theorem wIM_X11_answer : Cond.instanceMethod yX11_answer ∈ jT := jT_t4 (i := 230) (by decide +kernel) (by decide +kernel)
theorem wSE_X11_answer : Cond.selects yX11_answer.cls yX11_answer yX11_answer ∈ jT := jT_t4 (i := 231) (by decide +kernel) (by decide +kernel)
theorem lkL_126 : jLk RL 126 yX12_answer MX12_answer 6 := ⟨jT_t7 (i := 192) (by decide +kernel) (by decide +kernel), jT_t1 (i := 14) (by decide +kernel) (by decide +kernel), wCD_X12_answer, by decide, by decide +kernel, by decide +kernel, by decide +kernel⟩
theorem wIM_X12_answer : Cond.instanceMethod yX12_answer ∈ jT := jT_t7 (i := 193) (by decide +kernel) (by decide +kernel)
theorem wSE_X12_answer : Cond.selects yX12_answer.cls yX12_answer yX12_answer ∈ jT := jT_t7 (i := 194) (by decide +kernel) (by decide +kernel)
theorem lkL_127 : jLk RL 127 yX11_back MX11_back 1 := ⟨jT_t5 (i := 9) (by decide +kernel) (by decide +kernel), jT_t1 (i := 1) (by decide +kernel) (by decide +kernel), wCD_X11_back, by decide, by decide +kernel, by decide +kernel, by decide +kernel⟩
theorem wIM_X11_back : Cond.instanceMethod yX11_back ∈ jT := jT_t5 (i := 10) (by decide +kernel) (by decide +kernel)
theorem wSE_X11_back : Cond.selects yX11_back.cls yX11_back yX11_back ∈ jT := jT_t5 (i := 11) (by decide +kernel) (by decide +kernel)
theorem lkL_130 : jLk RL 130 yX12_back MX12_back 1 := ⟨jT_t7 (i := 203) (by decide +kernel) (by decide +kernel), jT_t1 (i := 14) (by decide +kernel) (by decide +kernel), wCD_X12_back, by decide, by decide +kernel, by decide +kernel, by decide +kernel⟩
theorem wIM_X12_back : Cond.instanceMethod yX12_back ∈ jT := jT_t7 (i := 204) (by decide +kernel) (by decide +kernel)
theorem wSE_X12_back : Cond.selects yX12_back.cls yX12_back yX12_back ∈ jT := jT_t7 (i := 205) (by decide +kernel) (by decide +kernel)
theorem lkL_131 : jLk RL 131 yX11_backOdds MX11_backOdds 2 := ⟨jT_t5 (i := 19) (by decide +kernel) (by decide +kernel), jT_t1 (i := 1) (by decide +kernel) (by decide +kernel), wCD_X11_backOdds, by decide, by decide +kernel, by decide +kernel, by decide +kernel⟩
theorem wIM_X11_backOdds : Cond.instanceMethod yX11_backOdds ∈ jT := jT_t5 (i := 20) (by decide +kernel) (by decide +kernel)
theorem wSE_X11_backOdds : Cond.selects yX11_backOdds.cls yX11_backOdds yX11_backOdds ∈ jT := jT_t5 (i := 21) (by decide +kernel) (by decide +kernel)
theorem lkL_134 : jLk RL 134 yX12_backOdds MX12_backOdds 2 := ⟨jT_t7 (i := 219) (by decide +kernel) (by decide +kernel), jT_t1 (i := 14) (by decide +kernel) (by decide +kernel), wCD_X12_backOdds, by decide, by decide +kernel, by decide +kernel, by decide +kernel⟩
theorem wIM_X12_backOdds : Cond.instanceMethod yX12_backOdds ∈ jT := jT_t7 (i := 220) (by decide +kernel) (by decide +kernel)
theorem wSE_X12_backOdds : Cond.selects yX12_backOdds.cls yX12_backOdds yX12_backOdds ∈ jT := jT_t7 (i := 221) (by decide +kernel) (by decide +kernel)
theorem lkL_135 : jLk RL 135 yX11_parted MX11_parted 2 := ⟨jT_t5 (i := 23) (by decide +kernel) (by decide +kernel), jT_t1 (i := 1) (by decide +kernel) (by decide +kernel), wCD_X11_parted, by decide, by decide +kernel, by decide +kernel, by decide +kernel⟩
theorem wIM_X11_parted : Cond.instanceMethod yX11_parted ∈ jT := jT_t5 (i := 24) (by decide +kernel) (by decide +kernel)
theorem wSE_X11_parted : Cond.selects yX11_parted.cls yX11_parted yX11_parted ∈ jT := jT_t5 (i := 25) (by decide +kernel) (by decide +kernel)
theorem lkL_139 : jLk RL 139 yX12_parted MX12_parted 2 := ⟨jT_t7 (i := 224) (by decide +kernel) (by decide +kernel), jT_t1 (i := 14) (by decide +kernel) (by decide +kernel), wCD_X12_parted, by decide, by decide +kernel, by decide +kernel, by decide +kernel⟩
theorem wIM_X12_parted : Cond.instanceMethod yX12_parted ∈ jT := jT_t7 (i := 225) (by decide +kernel) (by decide +kernel)
theorem wSE_X12_parted : Cond.selects yX12_parted.cls yX12_parted yX12_parted ∈ jT := jT_t7 (i := 226) (by decide +kernel) (by decide +kernel)
theorem lkL_140 : jLk RL 140 yX11_muddled MX11_muddled 1 := ⟨jT_t5 (i := 36) (by decide +kernel) (by decide +kernel), jT_t1 (i := 1) (by decide +kernel) (by decide +kernel), wCD_X11_muddled, by decide, by decide +kernel, by decide +kernel, by decide +kernel⟩
theorem wIM_X11_muddled : Cond.instanceMethod yX11_muddled ∈ jT := jT_t5 (i := 37) (by decide +kernel) (by decide +kernel)
theorem wSE_X11_muddled : Cond.selects yX11_muddled.cls yX11_muddled yX11_muddled ∈ jT := jT_t5 (i := 38) (by decide +kernel) (by decide +kernel)
theorem lkL_143 : jLk RL 143 yX12_muddled MX12_muddled 1 := ⟨jT_t7 (i := 228) (by decide +kernel) (by decide +kernel), jT_t1 (i := 14) (by decide +kernel) (by decide +kernel), wCD_X12_muddled, by decide, by decide +kernel, by decide +kernel, by decide +kernel⟩
theorem wIM_X12_muddled : Cond.instanceMethod yX12_muddled ∈ jT := jT_t7 (i := 229) (by decide +kernel) (by decide +kernel)
theorem wSE_X12_muddled : Cond.selects yX12_muddled.cls yX12_muddled yX12_muddled ∈ jT := jT_t7 (i := 230) (by decide +kernel) (by decide +kernel)
theorem lkL_144 : jLk RL 144 yX11_glen MX11_glen 2 := ⟨jT_t5 (i := 48) (by decide +kernel) (by decide +kernel), jT_t1 (i := 1) (by decide +kernel) (by decide +kernel), wCD_X11_glen, by decide, by decide +kernel, by decide +kernel, by decide +kernel⟩
theorem wIM_X11_glen : Cond.instanceMethod yX11_glen ∈ jT := jT_t5 (i := 49) (by decide +kernel) (by decide +kernel)
theorem wSE_X11_glen : Cond.selects yX11_glen.cls yX11_glen yX11_glen ∈ jT := jT_t5 (i := 50) (by decide +kernel) (by decide +kernel)
theorem lkL_147 : jLk RL 147 yX12_glen MX12_glen 2 := ⟨jT_t7 (i := 236) (by decide +kernel) (by decide +kernel), jT_t1 (i := 14) (by decide +kernel) (by decide +kernel), wCD_X12_glen, by decide, by decide +kernel, by decide +kernel, by decide +kernel⟩
theorem wIM_X12_glen : Cond.instanceMethod yX12_glen ∈ jT := jT_t7 (i := 237) (by decide +kernel) (by decide +kernel)
theorem wSE_X12_glen : Cond.selects yX12_glen.cls yX12_glen yX12_glen ∈ jT := jT_t7 (i := 238) (by decide +kernel) (by decide +kernel)
theorem lkL_148 : jLk RL 148 yX11_paid MX11_paid 2 := ⟨jT_t5 (i := 57) (by decide +kernel) (by decide +kernel), jT_t1 (i := 1) (by decide +kernel) (by decide +kernel), wCD_X11_paid, by decide, by decide +kernel, by decide +kernel, by decide +kernel⟩
theorem wIM_X11_paid : Cond.instanceMethod yX11_paid ∈ jT := jT_t5 (i := 58) (by decide +kernel) (by decide +kernel)
theorem wSE_X11_paid : Cond.selects yX11_paid.cls yX11_paid yX11_paid ∈ jT := jT_t5 (i := 59) (by decide +kernel) (by decide +kernel)
theorem lkL_151 : jLk RL 151 yX12_paid MX12_paid 2 := ⟨jT_t8 (i := 1) (by decide +kernel) (by decide +kernel), jT_t1 (i := 14) (by decide +kernel) (by decide +kernel), wCD_X12_paid, by decide, by decide +kernel, by decide +kernel, by decide +kernel⟩
theorem wIM_X12_paid : Cond.instanceMethod yX12_paid ∈ jT := jT_t8 (i := 2) (by decide +kernel) (by decide +kernel)
theorem wSE_X12_paid : Cond.selects yX12_paid.cls yX12_paid yX12_paid ∈ jT := jT_t8 (i := 3) (by decide +kernel) (by decide +kernel)
theorem lkL_152 : jLk RL 152 yX11_pages MX11_pages 2 := ⟨jT_t5 (i := 66) (by decide +kernel) (by decide +kernel), jT_t1 (i := 1) (by decide +kernel) (by decide +kernel), wCD_X11_pages, by decide, by decide +kernel, by decide +kernel, by decide +kernel⟩
theorem wIM_X11_pages : Cond.instanceMethod yX11_pages ∈ jT := jT_t5 (i := 67) (by decide +kernel) (by decide +kernel)
theorem wSE_X11_pages : Cond.selects yX11_pages.cls yX11_pages yX11_pages ∈ jT := jT_t5 (i := 68) (by decide +kernel) (by decide +kernel)
theorem lkL_155 : jLk RL 155 yX12_pages MX12_pages 2 := ⟨jT_t8 (i := 6) (by decide +kernel) (by decide +kernel), jT_t1 (i := 14) (by decide +kernel) (by decide +kernel), wCD_X12_pages, by decide, by decide +kernel, by decide +kernel, by decide +kernel⟩
theorem wIM_X12_pages : Cond.instanceMethod yX12_pages ∈ jT := jT_t8 (i := 7) (by decide +kernel) (by decide +kernel)
theorem wSE_X12_pages : Cond.selects yX12_pages.cls yX12_pages yX12_pages ∈ jT := jT_t8 (i := 8) (by decide +kernel) (by decide +kernel)
theorem lkL_156 : jLk RL 156 yX11_more MX11_more 2 := ⟨jT_t5 (i := 75) (by decide +kernel) (by decide +kernel), jT_t1 (i := 1) (by decide +kernel) (by decide +kernel), wCD_X11_more, by decide, by decide +kernel, by decide +kernel, by decide +kernel⟩
theorem wIM_X11_more : Cond.instanceMethod yX11_more ∈ jT := jT_t5 (i := 76) (by decide +kernel) (by decide +kernel)
theorem wSE_X11_more : Cond.selects yX11_more.cls yX11_more yX11_more ∈ jT := jT_t5 (i := 77) (by decide +kernel) (by decide +kernel)
theorem lkL_159 : jLk RL 159 yX12_more MX12_more 2 := ⟨jT_t8 (i := 11) (by decide +kernel) (by decide +kernel), jT_t1 (i := 14) (by decide +kernel) (by decide +kernel), wCD_X12_more, by decide, by decide +kernel, by decide +kernel, by decide +kernel⟩
theorem wIM_X12_more : Cond.instanceMethod yX12_more ∈ jT := jT_t8 (i := 12) (by decide +kernel) (by decide +kernel)
theorem wSE_X12_more : Cond.selects yX12_more.cls yX12_more yX12_more ∈ jT := jT_t8 (i := 13) (by decide +kernel) (by decide +kernel)
theorem lkL_160 : jLk RL 160 yX11_free MX11_free 2 := ⟨jT_t5 (i := 91) (by decide +kernel) (by decide +kernel), jT_t1 (i := 1) (by decide +kernel) (by decide +kernel), wCD_X11_free, by decide, by decide +kernel, by decide +kernel, by decide +kernel⟩
theorem wIM_X11_free : Cond.instanceMethod yX11_free ∈ jT := jT_t5 (i := 92) (by decide +kernel) (by decide +kernel)
theorem wSE_X11_free : Cond.selects yX11_free.cls yX11_free yX11_free ∈ jT := jT_t5 (i := 93) (by decide +kernel) (by decide +kernel)
theorem lkL_163 : jLk RL 163 yX12_free MX12_free 2 := ⟨jT_t8 (i := 19) (by decide +kernel) (by decide +kernel), jT_t1 (i := 14) (by decide +kernel) (by decide +kernel), wCD_X12_free, by decide, by decide +kernel, by decide +kernel, by decide +kernel⟩
theorem wIM_X12_free : Cond.instanceMethod yX12_free ∈ jT := jT_t8 (i := 20) (by decide +kernel) (by decide +kernel)
theorem wSE_X12_free : Cond.selects yX12_free.cls yX12_free yX12_free ∈ jT := jT_t8 (i := 21) (by decide +kernel) (by decide +kernel)
theorem lkL_164 : jLk RL 164 yX11_rate MX11_rate 0 := ⟨jT_t5 (i := 99) (by decide +kernel) (by decide +kernel), jT_t1 (i := 1) (by decide +kernel) (by decide +kernel), wCD_X11_rate, by decide, by decide +kernel, by decide +kernel, by decide +kernel⟩
theorem wIM_X11_rate : Cond.instanceMethod yX11_rate ∈ jT := jT_t5 (i := 100) (by decide +kernel) (by decide +kernel)
theorem wSE_X11_rate : Cond.selects yX11_rate.cls yX11_rate yX11_rate ∈ jT := jT_t5 (i := 101) (by decide +kernel) (by decide +kernel)
theorem lkL_168 : jLk RL 168 yX12_rate MX12_rate 0 := ⟨jT_t8 (i := 23) (by decide +kernel) (by decide +kernel), jT_t1 (i := 14) (by decide +kernel) (by decide +kernel), wCD_X12_rate, by decide, by decide +kernel, by decide +kernel, by decide +kernel⟩
theorem wIM_X12_rate : Cond.instanceMethod yX12_rate ∈ jT := jT_t8 (i := 24) (by decide +kernel) (by decide +kernel)
theorem wSE_X12_rate : Cond.selects yX12_rate.cls yX12_rate yX12_rate ∈ jT := jT_t8 (i := 25) (by decide +kernel) (by decide +kernel)
theorem lkL_169 : jLk RL 169 yX11_world MX11_world 1 := ⟨jT_t5 (i := 117) (by decide +kernel) (by decide +kernel), jT_t1 (i := 1) (by decide +kernel) (by decide +kernel), wCD_X11_world, by decide, by decide +kernel, by decide +kernel, by decide +kernel⟩
theorem wIM_X11_world : Cond.instanceMethod yX11_world ∈ jT := jT_t5 (i := 118) (by decide +kernel) (by decide +kernel)
theorem wSE_X11_world : Cond.selects yX11_world.cls yX11_world yX11_world ∈ jT := jT_t5 (i := 119) (by decide +kernel) (by decide +kernel)
theorem lkL_172 : jLk RL 172 yX12_world MX12_world 1 := ⟨jT_t8 (i := 35) (by decide +kernel) (by decide +kernel), jT_t1 (i := 14) (by decide +kernel) (by decide +kernel), wCD_X12_world, by decide, by decide +kernel, by decide +kernel, by decide +kernel⟩
theorem wIM_X12_world : Cond.instanceMethod yX12_world ∈ jT := jT_t8 (i := 36) (by decide +kernel) (by decide +kernel)
theorem wSE_X12_world : Cond.selects yX12_world.cls yX12_world yX12_world ∈ jT := jT_t8 (i := 37) (by decide +kernel) (by decide +kernel)
theorem lkL_173 : jLk RL 173 yX11_says MX11_says 3 := ⟨jT_t5 (i := 125) (by decide +kernel) (by decide +kernel), jT_t1 (i := 1) (by decide +kernel) (by decide +kernel), wCD_X11_says, by decide, by decide +kernel, by decide +kernel, by decide +kernel⟩
theorem wIM_X11_says : Cond.instanceMethod yX11_says ∈ jT := jT_t5 (i := 126) (by decide +kernel) (by decide +kernel)
theorem wSE_X11_says : Cond.selects yX11_says.cls yX11_says yX11_says ∈ jT := jT_t5 (i := 127) (by decide +kernel) (by decide +kernel)
theorem lkL_176 : jLk RL 176 yX12_says MX12_says 3 := ⟨jT_t8 (i := 39) (by decide +kernel) (by decide +kernel), jT_t1 (i := 14) (by decide +kernel) (by decide +kernel), wCD_X12_says, by decide, by decide +kernel, by decide +kernel, by decide +kernel⟩
theorem wIM_X12_says : Cond.instanceMethod yX12_says ∈ jT := jT_t8 (i := 40) (by decide +kernel) (by decide +kernel)
theorem wSE_X12_says : Cond.selects yX12_says.cls yX12_says yX12_says ∈ jT := jT_t8 (i := 41) (by decide +kernel) (by decide +kernel)
theorem lkL_177 : jLk RL 177 yX11_ask MX11_ask 2 := ⟨jT_t5 (i := 138) (by decide +kernel) (by decide +kernel), jT_t1 (i := 1) (by decide +kernel) (by decide +kernel), wCD_X11_ask, by decide, by decide +kernel, by decide +kernel, by decide +kernel⟩
theorem wIM_X11_ask : Cond.instanceMethod yX11_ask ∈ jT := jT_t5 (i := 139) (by decide +kernel) (by decide +kernel)
theorem wSE_X11_ask : Cond.selects yX11_ask.cls yX11_ask yX11_ask ∈ jT := jT_t5 (i := 140) (by decide +kernel) (by decide +kernel)
theorem lkL_180 : jLk RL 180 yX12_ask MX12_ask 2 := ⟨jT_t8 (i := 43) (by decide +kernel) (by decide +kernel), jT_t1 (i := 14) (by decide +kernel) (by decide +kernel), wCD_X12_ask, by decide, by decide +kernel, by decide +kernel, by decide +kernel⟩
theorem wIM_X12_ask : Cond.instanceMethod yX12_ask ∈ jT := jT_t8 (i := 44) (by decide +kernel) (by decide +kernel)
theorem wSE_X12_ask : Cond.selects yX12_ask.cls yX12_ask yX12_ask ∈ jT := jT_t8 (i := 45) (by decide +kernel) (by decide +kernel)
theorem lkL_181 : jLk RL 181 yX11_row MX11_row 3 := ⟨jT_t5 (i := 168) (by decide +kernel) (by decide +kernel), jT_t1 (i := 1) (by decide +kernel) (by decide +kernel), wCD_X11_row, by decide, by decide +kernel, by decide +kernel, by decide +kernel⟩
theorem wIM_X11_row : Cond.instanceMethod yX11_row ∈ jT := jT_t5 (i := 169) (by decide +kernel) (by decide +kernel)
theorem wSE_X11_row : Cond.selects yX11_row.cls yX11_row yX11_row ∈ jT := jT_t5 (i := 170) (by decide +kernel) (by decide +kernel)
theorem lkL_184 : jLk RL 184 yX12_row MX12_row 3 := ⟨jT_t8 (i := 59) (by decide +kernel) (by decide +kernel), jT_t1 (i := 14) (by decide +kernel) (by decide +kernel), wCD_X12_row, by decide, by decide +kernel, by decide +kernel, by decide +kernel⟩
theorem wIM_X12_row : Cond.instanceMethod yX12_row ∈ jT := jT_t8 (i := 60) (by decide +kernel) (by decide +kernel)
theorem wSE_X12_row : Cond.selects yX12_row.cls yX12_row yX12_row ∈ jT := jT_t8 (i := 61) (by decide +kernel) (by decide +kernel)
theorem lkL_185 : jLk RL 185 yX11_write MX11_write 3 := ⟨jT_t5 (i := 188) (by decide +kernel) (by decide +kernel), jT_t1 (i := 1) (by decide +kernel) (by decide +kernel), wCD_X11_write, by decide, by decide +kernel, by decide +kernel, by decide +kernel⟩
theorem wIM_X11_write : Cond.instanceMethod yX11_write ∈ jT := jT_t5 (i := 189) (by decide +kernel) (by decide +kernel)
theorem wSE_X11_write : Cond.selects yX11_write.cls yX11_write yX11_write ∈ jT := jT_t5 (i := 190) (by decide +kernel) (by decide +kernel)
theorem lkL_189 : jLk RL 189 yX12_write MX12_write 3 := ⟨jT_t8 (i := 64) (by decide +kernel) (by decide +kernel), jT_t1 (i := 14) (by decide +kernel) (by decide +kernel), wCD_X12_write, by decide, by decide +kernel, by decide +kernel, by decide +kernel⟩
theorem wIM_X12_write : Cond.instanceMethod yX12_write ∈ jT := jT_t8 (i := 65) (by decide +kernel) (by decide +kernel)
theorem wSE_X12_write : Cond.selects yX12_write.cls yX12_write yX12_write ∈ jT := jT_t8 (i := 66) (by decide +kernel) (by decide +kernel)
theorem lkL_190 : jLk RL 190 yX11_minister MX11_minister 1 := ⟨jT_t5 (i := 199) (by decide +kernel) (by decide +kernel), jT_t1 (i := 1) (by decide +kernel) (by decide +kernel), wCD_X11_minister, by decide, by decide +kernel, by decide +kernel, by decide +kernel⟩
theorem wIM_X11_minister : Cond.instanceMethod yX11_minister ∈ jT := jT_t5 (i := 200) (by decide +kernel) (by decide +kernel)
theorem wSE_X11_minister : Cond.selects yX11_minister.cls yX11_minister yX11_minister ∈ jT := jT_t5 (i := 201) (by decide +kernel) (by decide +kernel)
theorem lkL_193 : jLk RL 193 yX12_minister MX12_minister 1 := ⟨jT_t8 (i := 71) (by decide +kernel) (by decide +kernel), jT_t1 (i := 14) (by decide +kernel) (by decide +kernel), wCD_X12_minister, by decide, by decide +kernel, by decide +kernel, by decide +kernel⟩
theorem wIM_X12_minister : Cond.instanceMethod yX12_minister ∈ jT := jT_t8 (i := 72) (by decide +kernel) (by decide +kernel)
theorem wSE_X12_minister : Cond.selects yX12_minister.cls yX12_minister yX12_minister ∈ jT := jT_t8 (i := 73) (by decide +kernel) (by decide +kernel)
theorem lkL_194 : jLk RL 194 yX11_say MX11_say 1 := ⟨jT_t5 (i := 210) (by decide +kernel) (by decide +kernel), jT_t1 (i := 1) (by decide +kernel) (by decide +kernel), wCD_X11_say, by decide, by decide +kernel, by decide +kernel, by decide +kernel⟩
theorem wIM_X11_say : Cond.instanceMethod yX11_say ∈ jT := jT_t5 (i := 211) (by decide +kernel) (by decide +kernel)
theorem wSE_X11_say : Cond.selects yX11_say.cls yX11_say yX11_say ∈ jT := jT_t5 (i := 212) (by decide +kernel) (by decide +kernel)
theorem lkL_197 : jLk RL 197 yX12_say MX12_say 1 := ⟨jT_t8 (i := 75) (by decide +kernel) (by decide +kernel), jT_t1 (i := 14) (by decide +kernel) (by decide +kernel), wCD_X12_say, by decide, by decide +kernel, by decide +kernel, by decide +kernel⟩
theorem wIM_X12_say : Cond.instanceMethod yX12_say ∈ jT := jT_t8 (i := 76) (by decide +kernel) (by decide +kernel)
theorem wSE_X12_say : Cond.selects yX12_say.cls yX12_say yX12_say ∈ jT := jT_t8 (i := 77) (by decide +kernel) (by decide +kernel)
theorem lkL_198 : jLk RL 198 yX11_image MX11_image 1 := ⟨jT_t5 (i := 219) (by decide +kernel) (by decide +kernel), jT_t1 (i := 1) (by decide +kernel) (by decide +kernel), wCD_X11_image, by decide, by decide +kernel, by decide +kernel, by decide +kernel⟩
theorem wIM_X11_image : Cond.instanceMethod yX11_image ∈ jT := jT_t5 (i := 220) (by decide +kernel) (by decide +kernel)
theorem wSE_X11_image : Cond.selects yX11_image.cls yX11_image yX11_image ∈ jT := jT_t5 (i := 221) (by decide +kernel) (by decide +kernel)
theorem lkL_201 : jLk RL 201 yX12_image MX12_image 1 := ⟨jT_t8 (i := 83) (by decide +kernel) (by decide +kernel), jT_t1 (i := 14) (by decide +kernel) (by decide +kernel), wCD_X12_image, by decide, by decide +kernel, by decide +kernel, by decide +kernel⟩
theorem wIM_X12_image : Cond.instanceMethod yX12_image ∈ jT := jT_t8 (i := 84) (by decide +kernel) (by decide +kernel)
theorem wSE_X12_image : Cond.selects yX12_image.cls yX12_image yX12_image ∈ jT := jT_t8 (i := 85) (by decide +kernel) (by decide +kernel)
theorem lkL_202 : jLk RL 202 yX11_restore MX11_restore 1 := ⟨jT_t6 (i := 13) (by decide +kernel) (by decide +kernel), jT_t1 (i := 1) (by decide +kernel) (by decide +kernel), wCD_X11_restore, by decide, by decide +kernel, by decide +kernel, by decide +kernel⟩
theorem wIM_X11_restore : Cond.instanceMethod yX11_restore ∈ jT := jT_t6 (i := 14) (by decide +kernel) (by decide +kernel)
theorem wSE_X11_restore : Cond.selects yX11_restore.cls yX11_restore yX11_restore ∈ jT := jT_t6 (i := 15) (by decide +kernel) (by decide +kernel)
theorem lkL_205 : jLk RL 205 yX12_restore MX12_restore 1 := ⟨jT_t8 (i := 91) (by decide +kernel) (by decide +kernel), jT_t1 (i := 14) (by decide +kernel) (by decide +kernel), wCD_X12_restore, by decide, by decide +kernel, by decide +kernel, by decide +kernel⟩
theorem wIM_X12_restore : Cond.instanceMethod yX12_restore ∈ jT := jT_t8 (i := 92) (by decide +kernel) (by decide +kernel)
theorem wSE_X12_restore : Cond.selects yX12_restore.cls yX12_restore yX12_restore ∈ jT := jT_t8 (i := 93) (by decide +kernel) (by decide +kernel)
theorem lkL_206 : jLk RL 206 yX11_status MX11_status 1 := ⟨jT_t6 (i := 17) (by decide +kernel) (by decide +kernel), jT_t1 (i := 1) (by decide +kernel) (by decide +kernel), wCD_X11_status, by decide, by decide +kernel, by decide +kernel, by decide +kernel⟩
theorem wIM_X11_status : Cond.instanceMethod yX11_status ∈ jT := jT_t6 (i := 18) (by decide +kernel) (by decide +kernel)
theorem wSE_X11_status : Cond.selects yX11_status.cls yX11_status yX11_status ∈ jT := jT_t6 (i := 19) (by decide +kernel) (by decide +kernel)
theorem lkL_209 : jLk RL 209 yX12_status MX12_status 1 := ⟨jT_t8 (i := 95) (by decide +kernel) (by decide +kernel), jT_t1 (i := 14) (by decide +kernel) (by decide +kernel), wCD_X12_status, by decide, by decide +kernel, by decide +kernel, by decide +kernel⟩
theorem wIM_X12_status : Cond.instanceMethod yX12_status ∈ jT := jT_t8 (i := 96) (by decide +kernel) (by decide +kernel)
theorem wSE_X12_status : Cond.selects yX12_status.cls yX12_status yX12_status ∈ jT := jT_t8 (i := 97) (by decide +kernel) (by decide +kernel)
theorem lkL_210 : jLk RL 210 yX11_count MX11_count 1 := ⟨jT_t6 (i := 22) (by decide +kernel) (by decide +kernel), jT_t1 (i := 1) (by decide +kernel) (by decide +kernel), wCD_X11_count, by decide, by decide +kernel, by decide +kernel, by decide +kernel⟩
theorem wIM_X11_count : Cond.instanceMethod yX11_count ∈ jT := jT_t6 (i := 23) (by decide +kernel) (by decide +kernel)
theorem wSE_X11_count : Cond.selects yX11_count.cls yX11_count yX11_count ∈ jT := jT_t6 (i := 24) (by decide +kernel) (by decide +kernel)
theorem lkL_213 : jLk RL 213 yX12_count MX12_count 1 := ⟨jT_t8 (i := 100) (by decide +kernel) (by decide +kernel), jT_t1 (i := 14) (by decide +kernel) (by decide +kernel), wCD_X12_count, by decide, by decide +kernel, by decide +kernel, by decide +kernel⟩
theorem wIM_X12_count : Cond.instanceMethod yX12_count ∈ jT := jT_t8 (i := 101) (by decide +kernel) (by decide +kernel)
theorem wSE_X12_count : Cond.selects yX12_count.cls yX12_count yX12_count ∈ jT := jT_t8 (i := 102) (by decide +kernel) (by decide +kernel)
/-- case 0: open -/
def jS_open (R : jWd → Prop) : Prop := ∀ (w : jWd) (a0 : Int32) (a1 : Int32) (a2 : Int32) (a3 : Int32), R w → ∃ (v : Int32) (w1 w2 : jWd), JM yX11_open MX11_open 3 [.ref 0, .int a0, .int a1, .int a2, .int a3] w (some (.int v)) w1 ∧ JM yX12_open MX12_open 2 [.ref 205, .int a0, .int a1, .int a2, .int a3] w1 (some (.int v)) w2 ∧ R w2
set_option maxHeartbeats 4000000 in
set_option maxRecDepth 100000 in
theorem jc_open {L i : Nat} {xs : Nat → Int32} (hL : L ≤ 4096) (hi : i + 8 ≤ L) {w w1 w2 : jWd} {v : Int32}
    (h1 : JM yX11_open MX11_open 3 [.ref 0, .int (xs (i + 1)), .int (xs (i + 2)), .int (xs (i + 3)), .int (xs (i + 4))] w (some (.int v)) w1) (h2 : JM yX12_open MX12_open 2 [.ref 205, .int (xs (i + 1)), .int (xs (i + 2)), .int (xs (i + 3)), .int (xs (i + 4))] w1 (some (.int v)) w2)
    (kk : JL L xs w2 2066 [(0, .ref 3001), (1, .ref 0), (2, .ref 205), (3, .int (nI i))] []) : JL L xs w 232 [(0, .ref 3001), (1, .ref 0), (2, .ref 205), (3, .int (nI i))] [] := by
  refine jx_aload_n dL_law_232 rfl 1 rfl ?_
  refine jx_aload_n dL_law_233 rfl 0 rfl ?_
  refine jx_iload_n dL_law_234 rfl 3 rfl ?_
  refine jx_iconst (v := (1 : Int32)) dL_law_235 (by decide) ?_
  refine jx_iadd dL_law_236 ?_
  refine jx_sld (k := 1) rfl (by omega) hL dL_law_237 ?_
  refine jx_aload_n dL_law_238 rfl 0 rfl ?_
  refine jx_iload_n dL_law_239 rfl 3 rfl ?_
  refine jx_iconst (v := (2 : Int32)) dL_law_240 (by decide) ?_
  refine jx_iadd dL_law_241 ?_
  refine jx_sld (k := 2) rfl (by omega) hL dL_law_242 ?_
  refine jx_aload_n dL_law_243 rfl 0 rfl ?_
  refine jx_iload_n dL_law_244 rfl 3 rfl ?_
  refine jx_iconst (v := (3 : Int32)) dL_law_245 (by decide) ?_
  refine jx_iadd dL_law_246 ?_
  refine jx_sld (k := 3) rfl (by omega) hL dL_law_247 ?_
  refine jx_aload_n dL_law_248 rfl 0 rfl ?_
  refine jx_iload_n dL_law_249 rfl 3 rfl ?_
  refine jx_iconst (v := (4 : Int32)) dL_law_250 (by decide) ?_
  refine jx_iadd dL_law_251 ?_
  refine jx_sld (k := 4) rfl (by omega) hL dL_law_252 ?_
  refine jx_call lkL_13 wIM_X11_open wSE_X11_open (q := 10) (by decide +kernel) (by decide) rfl h1 (by omega) rfl rfl (Nat.le_of_ble_eq_true rfl) dL_law_253 ?_
  refine jx_aload_n dL_law_256 rfl 2 rfl ?_
  refine jx_aload_n dL_law_257 rfl 0 rfl ?_
  refine jx_iload_n dL_law_258 rfl 3 rfl ?_
  refine jx_iconst (v := (1 : Int32)) dL_law_259 (by decide) ?_
  refine jx_iadd dL_law_260 ?_
  refine jx_sld (k := 1) rfl (by omega) hL dL_law_261 ?_
  refine jx_aload_n dL_law_262 rfl 0 rfl ?_
  refine jx_iload_n dL_law_263 rfl 3 rfl ?_
  refine jx_iconst (v := (2 : Int32)) dL_law_264 (by decide) ?_
  refine jx_iadd dL_law_265 ?_
  refine jx_sld (k := 2) rfl (by omega) hL dL_law_266 ?_
  refine jx_aload_n dL_law_267 rfl 0 rfl ?_
  refine jx_iload_n dL_law_268 rfl 3 rfl ?_
  refine jx_iconst (v := (3 : Int32)) dL_law_269 (by decide) ?_
  refine jx_iadd dL_law_270 ?_
  refine jx_sld (k := 3) rfl (by omega) hL dL_law_271 ?_
  refine jx_aload_n dL_law_272 rfl 0 rfl ?_
  refine jx_iload_n dL_law_273 rfl 3 rfl ?_
  refine jx_iconst (v := (4 : Int32)) dL_law_274 (by decide) ?_
  refine jx_iadd dL_law_275 ?_
  refine jx_sld (k := 4) rfl (by omega) hL dL_law_276 ?_
  refine jx_call lkL_17 wIM_X12_open wSE_X12_open (q := 11) (by decide +kernel) (by decide) rfl h2 (by omega) rfl rfl (Nat.le_of_ble_eq_true rfl) dL_law_277 ?_
  refine jx_icmp_eq (tgt := 2066) (nxt := 283) dL_law_280 (by decide) rfl (fun _ => ?_) (fun hc => absurd rfl hc)
  exact kk
/-- case 1: line -/
def jS_line (R : jWd → Prop) : Prop := ∀ (w : jWd) (a0 : Int32) (a1 : Int32) (a2 : Int32) (a3 : Int64), R w → ∃ (v : Int32) (w1 w2 : jWd), JM yX11_line MX11_line 8 [.ref 0, .int a0, .int a1, .int a2, .long a3] w (some (.int v)) w1 ∧ JM yX12_line MX12_line 4 [.ref 205, .int a0, .int a1, .int a2, .long a3] w1 (some (.int v)) w2 ∧ R w2
set_option maxHeartbeats 4000000 in
set_option maxRecDepth 100000 in
theorem jc_line {L i : Nat} {xs : Nat → Int32} (hL : L ≤ 4096) (hi : i + 8 ≤ L) {w w1 w2 : jWd} {v : Int32}
    (h1 : JM yX11_line MX11_line 8 [.ref 0, .int (xs (i + 1)), .int (xs (i + 2)), .int (xs (i + 3)), .long (lkL (xs (i + 4)) (xs (i + 5)))] w (some (.int v)) w1) (h2 : JM yX12_line MX12_line 4 [.ref 205, .int (xs (i + 1)), .int (xs (i + 2)), .int (xs (i + 3)), .long (lkL (xs (i + 4)) (xs (i + 5)))] w1 (some (.int v)) w2)
    (kk : JL L xs w2 2066 [(0, .ref 3001), (1, .ref 0), (2, .ref 205), (3, .int (nI i))] []) : JL L xs w 285 [(0, .ref 3001), (1, .ref 0), (2, .ref 205), (3, .int (nI i))] [] := by
  refine jx_aload_n dL_law_285 rfl 1 rfl ?_
  refine jx_aload_n dL_law_286 rfl 0 rfl ?_
  refine jx_iload_n dL_law_287 rfl 3 rfl ?_
  refine jx_iconst (v := (1 : Int32)) dL_law_288 (by decide) ?_
  refine jx_iadd dL_law_289 ?_
  refine jx_sld (k := 1) rfl (by omega) hL dL_law_290 ?_
  refine jx_aload_n dL_law_291 rfl 0 rfl ?_
  refine jx_iload_n dL_law_292 rfl 3 rfl ?_
  refine jx_iconst (v := (2 : Int32)) dL_law_293 (by decide) ?_
  refine jx_iadd dL_law_294 ?_
  refine jx_sld (k := 2) rfl (by omega) hL dL_law_295 ?_
  refine jx_aload_n dL_law_296 rfl 0 rfl ?_
  refine jx_iload_n dL_law_297 rfl 3 rfl ?_
  refine jx_iconst (v := (3 : Int32)) dL_law_298 (by decide) ?_
  refine jx_iadd dL_law_299 ?_
  refine jx_sld (k := 3) rfl (by omega) hL dL_law_300 ?_
  refine jx_aload_n dL_law_301 rfl 0 rfl ?_
  refine jx_iload_n dL_law_302 rfl 3 rfl ?_
  refine jx_iconst (v := (4 : Int32)) dL_law_303 (by decide) ?_
  refine jx_iadd dL_law_304 ?_
  refine jx_sld (k := 4) rfl (by omega) hL dL_law_305 ?_
  refine jx_i2l dL_law_306 ?_
  refine jx_bipush (v := (32 : Int32)) dL_law_307 (by decide) ?_
  refine jx_lshl dL_law_309 ?_
  refine jx_aload_n dL_law_310 rfl 0 rfl ?_
  refine jx_iload_n dL_law_311 rfl 3 rfl ?_
  refine jx_iconst (v := (5 : Int32)) dL_law_312 (by decide) ?_
  refine jx_iadd dL_law_313 ?_
  refine jx_sld (k := 5) rfl (by omega) hL dL_law_314 ?_
  refine jx_i2l dL_law_315 ?_
  refine jx_ldc2 xCL dL_law_316 ?_
  refine jx_land dL_law_319 ?_
  refine jx_lor dL_law_320 ?_
  refine jx_call lkL_20 wIM_X11_line wSE_X11_line (q := 10) (by decide +kernel) (by decide) rfl h1 (by omega) rfl rfl (Nat.le_of_ble_eq_true rfl) dL_law_321 ?_
  refine jx_aload_n dL_law_324 rfl 2 rfl ?_
  refine jx_aload_n dL_law_325 rfl 0 rfl ?_
  refine jx_iload_n dL_law_326 rfl 3 rfl ?_
  refine jx_iconst (v := (1 : Int32)) dL_law_327 (by decide) ?_
  refine jx_iadd dL_law_328 ?_
  refine jx_sld (k := 1) rfl (by omega) hL dL_law_329 ?_
  refine jx_aload_n dL_law_330 rfl 0 rfl ?_
  refine jx_iload_n dL_law_331 rfl 3 rfl ?_
  refine jx_iconst (v := (2 : Int32)) dL_law_332 (by decide) ?_
  refine jx_iadd dL_law_333 ?_
  refine jx_sld (k := 2) rfl (by omega) hL dL_law_334 ?_
  refine jx_aload_n dL_law_335 rfl 0 rfl ?_
  refine jx_iload_n dL_law_336 rfl 3 rfl ?_
  refine jx_iconst (v := (3 : Int32)) dL_law_337 (by decide) ?_
  refine jx_iadd dL_law_338 ?_
  refine jx_sld (k := 3) rfl (by omega) hL dL_law_339 ?_
  refine jx_aload_n dL_law_340 rfl 0 rfl ?_
  refine jx_iload_n dL_law_341 rfl 3 rfl ?_
  refine jx_iconst (v := (4 : Int32)) dL_law_342 (by decide) ?_
  refine jx_iadd dL_law_343 ?_
  refine jx_sld (k := 4) rfl (by omega) hL dL_law_344 ?_
  refine jx_i2l dL_law_345 ?_
  refine jx_bipush (v := (32 : Int32)) dL_law_346 (by decide) ?_
  refine jx_lshl dL_law_348 ?_
  refine jx_aload_n dL_law_349 rfl 0 rfl ?_
  refine jx_iload_n dL_law_350 rfl 3 rfl ?_
  refine jx_iconst (v := (5 : Int32)) dL_law_351 (by decide) ?_
  refine jx_iadd dL_law_352 ?_
  refine jx_sld (k := 5) rfl (by omega) hL dL_law_353 ?_
  refine jx_i2l dL_law_354 ?_
  refine jx_ldc2 xCL dL_law_355 ?_
  refine jx_land dL_law_358 ?_
  refine jx_lor dL_law_359 ?_
  refine jx_call lkL_24 wIM_X12_line wSE_X12_line (q := 11) (by decide +kernel) (by decide) rfl h2 (by omega) rfl rfl (Nat.le_of_ble_eq_true rfl) dL_law_360 ?_
  refine jx_icmp_eq (tgt := 2066) (nxt := 366) dL_law_363 (by decide) rfl (fun _ => ?_) (fun hc => absurd rfl hc)
  exact kk
/-- case 2: print -/
def jS_print (R : jWd → Prop) : Prop := ∀ (w : jWd) (a0 : Int32), R w → ∃ (v : Int32) (w1 w2 : jWd), JM yX11_print MX11_print 2 [.ref 0, .int a0] w (some (.int v)) w1 ∧ JM yX12_print MX12_print 2 [.ref 205, .int a0] w1 (some (.int v)) w2 ∧ R w2
set_option maxHeartbeats 4000000 in
set_option maxRecDepth 100000 in
theorem jc_print {L i : Nat} {xs : Nat → Int32} (hL : L ≤ 4096) (hi : i + 8 ≤ L) {w w1 w2 : jWd} {v : Int32}
    (h1 : JM yX11_print MX11_print 2 [.ref 0, .int (xs (i + 1))] w (some (.int v)) w1) (h2 : JM yX12_print MX12_print 2 [.ref 205, .int (xs (i + 1))] w1 (some (.int v)) w2)
    (kk : JL L xs w2 2066 [(0, .ref 3001), (1, .ref 0), (2, .ref 205), (3, .int (nI i))] []) : JL L xs w 368 [(0, .ref 3001), (1, .ref 0), (2, .ref 205), (3, .int (nI i))] [] := by
  refine jx_aload_n dL_law_368 rfl 1 rfl ?_
  refine jx_aload_n dL_law_369 rfl 0 rfl ?_
  refine jx_iload_n dL_law_370 rfl 3 rfl ?_
  refine jx_iconst (v := (1 : Int32)) dL_law_371 (by decide) ?_
  refine jx_iadd dL_law_372 ?_
  refine jx_sld (k := 1) rfl (by omega) hL dL_law_373 ?_
  refine jx_call lkL_25 wIM_X11_print wSE_X11_print (q := 10) (by decide +kernel) (by decide) rfl h1 (by omega) rfl rfl (Nat.le_of_ble_eq_true rfl) dL_law_374 ?_
  refine jx_aload_n dL_law_377 rfl 2 rfl ?_
  refine jx_aload_n dL_law_378 rfl 0 rfl ?_
  refine jx_iload_n dL_law_379 rfl 3 rfl ?_
  refine jx_iconst (v := (1 : Int32)) dL_law_380 (by decide) ?_
  refine jx_iadd dL_law_381 ?_
  refine jx_sld (k := 1) rfl (by omega) hL dL_law_382 ?_
  refine jx_call lkL_29 wIM_X12_print wSE_X12_print (q := 11) (by decide +kernel) (by decide) rfl h2 (by omega) rfl rfl (Nat.le_of_ble_eq_true rfl) dL_law_383 ?_
  refine jx_icmp_eq (tgt := 2066) (nxt := 389) dL_law_386 (by decide) rfl (fun _ => ?_) (fun hc => absurd rfl hc)
  exact kk
/-- case 3: bounds -/
def jS_bounds (R : jWd → Prop) : Prop := ∀ (w : jWd) (a0 : Int32) (a1 : Int32), R w → ∃ (v : Int32) (w1 w2 : jWd), JM yX11_bounds MX11_bounds 2 [.ref 0, .int a0, .int a1] w (some (.int v)) w1 ∧ JM yX12_bounds MX12_bounds 2 [.ref 205, .int a0, .int a1] w1 (some (.int v)) w2 ∧ R w2
set_option maxHeartbeats 4000000 in
set_option maxRecDepth 100000 in
theorem jc_bounds {L i : Nat} {xs : Nat → Int32} (hL : L ≤ 4096) (hi : i + 8 ≤ L) {w w1 w2 : jWd} {v : Int32}
    (h1 : JM yX11_bounds MX11_bounds 2 [.ref 0, .int (xs (i + 1)), .int (xs (i + 2))] w (some (.int v)) w1) (h2 : JM yX12_bounds MX12_bounds 2 [.ref 205, .int (xs (i + 1)), .int (xs (i + 2))] w1 (some (.int v)) w2)
    (kk : JL L xs w2 2066 [(0, .ref 3001), (1, .ref 0), (2, .ref 205), (3, .int (nI i))] []) : JL L xs w 391 [(0, .ref 3001), (1, .ref 0), (2, .ref 205), (3, .int (nI i))] [] := by
  refine jx_aload_n dL_law_391 rfl 1 rfl ?_
  refine jx_aload_n dL_law_392 rfl 0 rfl ?_
  refine jx_iload_n dL_law_393 rfl 3 rfl ?_
  refine jx_iconst (v := (1 : Int32)) dL_law_394 (by decide) ?_
  refine jx_iadd dL_law_395 ?_
  refine jx_sld (k := 1) rfl (by omega) hL dL_law_396 ?_
  refine jx_aload_n dL_law_397 rfl 0 rfl ?_
  refine jx_iload_n dL_law_398 rfl 3 rfl ?_
  refine jx_iconst (v := (2 : Int32)) dL_law_399 (by decide) ?_
  refine jx_iadd dL_law_400 ?_
  refine jx_sld (k := 2) rfl (by omega) hL dL_law_401 ?_
  refine jx_call lkL_30 wIM_X11_bounds wSE_X11_bounds (q := 10) (by decide +kernel) (by decide) rfl h1 (by omega) rfl rfl (Nat.le_of_ble_eq_true rfl) dL_law_402 ?_
  refine jx_aload_n dL_law_405 rfl 2 rfl ?_
  refine jx_aload_n dL_law_406 rfl 0 rfl ?_
  refine jx_iload_n dL_law_407 rfl 3 rfl ?_
  refine jx_iconst (v := (1 : Int32)) dL_law_408 (by decide) ?_
  refine jx_iadd dL_law_409 ?_
  refine jx_sld (k := 1) rfl (by omega) hL dL_law_410 ?_
  refine jx_aload_n dL_law_411 rfl 0 rfl ?_
  refine jx_iload_n dL_law_412 rfl 3 rfl ?_
  refine jx_iconst (v := (2 : Int32)) dL_law_413 (by decide) ?_
  refine jx_iadd dL_law_414 ?_
  refine jx_sld (k := 2) rfl (by omega) hL dL_law_415 ?_
  refine jx_call lkL_34 wIM_X12_bounds wSE_X12_bounds (q := 11) (by decide +kernel) (by decide) rfl h2 (by omega) rfl rfl (Nat.le_of_ble_eq_true rfl) dL_law_416 ?_
  refine jx_icmp_eq (tgt := 2066) (nxt := 422) dL_law_419 (by decide) rfl (fun _ => ?_) (fun hc => absurd rfl hc)
  exact kk
/-- case 4: words -/
def jS_words (R : jWd → Prop) : Prop := ∀ (w : jWd) (a0 : Int32) (a1 : Int32) (a2 : Int32), R w → ∃ (v : Int64) (w1 w2 : jWd), JM yX11_words MX11_words 4 [.ref 0, .int a0, .int a1, .int a2] w (some (.long v)) w1 ∧ JM yX12_words MX12_words 3 [.ref 205, .int a0, .int a1, .int a2] w1 (some (.long v)) w2 ∧ R w2
set_option maxHeartbeats 4000000 in
set_option maxRecDepth 100000 in
theorem jc_words {L i : Nat} {xs : Nat → Int32} (hL : L ≤ 4096) (hi : i + 8 ≤ L) {w w1 w2 : jWd} {v : Int64}
    (h1 : JM yX11_words MX11_words 4 [.ref 0, .int (xs (i + 1)), .int (xs (i + 2)), .int (xs (i + 3))] w (some (.long v)) w1) (h2 : JM yX12_words MX12_words 3 [.ref 205, .int (xs (i + 1)), .int (xs (i + 2)), .int (xs (i + 3))] w1 (some (.long v)) w2)
    (kk : JL L xs w2 2066 [(0, .ref 3001), (1, .ref 0), (2, .ref 205), (3, .int (nI i))] []) : JL L xs w 424 [(0, .ref 3001), (1, .ref 0), (2, .ref 205), (3, .int (nI i))] [] := by
  refine jx_aload_n dL_law_424 rfl 1 rfl ?_
  refine jx_aload_n dL_law_425 rfl 0 rfl ?_
  refine jx_iload_n dL_law_426 rfl 3 rfl ?_
  refine jx_iconst (v := (1 : Int32)) dL_law_427 (by decide) ?_
  refine jx_iadd dL_law_428 ?_
  refine jx_sld (k := 1) rfl (by omega) hL dL_law_429 ?_
  refine jx_aload_n dL_law_430 rfl 0 rfl ?_
  refine jx_iload_n dL_law_431 rfl 3 rfl ?_
  refine jx_iconst (v := (2 : Int32)) dL_law_432 (by decide) ?_
  refine jx_iadd dL_law_433 ?_
  refine jx_sld (k := 2) rfl (by omega) hL dL_law_434 ?_
  refine jx_aload_n dL_law_435 rfl 0 rfl ?_
  refine jx_iload_n dL_law_436 rfl 3 rfl ?_
  refine jx_iconst (v := (3 : Int32)) dL_law_437 (by decide) ?_
  refine jx_iadd dL_law_438 ?_
  refine jx_sld (k := 3) rfl (by omega) hL dL_law_439 ?_
  refine jx_call lkL_35 wIM_X11_words wSE_X11_words (q := 10) (by decide +kernel) (by decide) rfl h1 (by omega) rfl rfl (Nat.le_of_ble_eq_true rfl) dL_law_440 ?_
  refine jx_aload_n dL_law_443 rfl 2 rfl ?_
  refine jx_aload_n dL_law_444 rfl 0 rfl ?_
  refine jx_iload_n dL_law_445 rfl 3 rfl ?_
  refine jx_iconst (v := (1 : Int32)) dL_law_446 (by decide) ?_
  refine jx_iadd dL_law_447 ?_
  refine jx_sld (k := 1) rfl (by omega) hL dL_law_448 ?_
  refine jx_aload_n dL_law_449 rfl 0 rfl ?_
  refine jx_iload_n dL_law_450 rfl 3 rfl ?_
  refine jx_iconst (v := (2 : Int32)) dL_law_451 (by decide) ?_
  refine jx_iadd dL_law_452 ?_
  refine jx_sld (k := 2) rfl (by omega) hL dL_law_453 ?_
  refine jx_aload_n dL_law_454 rfl 0 rfl ?_
  refine jx_iload_n dL_law_455 rfl 3 rfl ?_
  refine jx_iconst (v := (3 : Int32)) dL_law_456 (by decide) ?_
  refine jx_iadd dL_law_457 ?_
  refine jx_sld (k := 3) rfl (by omega) hL dL_law_458 ?_
  refine jx_call lkL_39 wIM_X12_words wSE_X12_words (q := 11) (by decide +kernel) (by decide) rfl h2 (by omega) rfl rfl (Nat.le_of_ble_eq_true rfl) dL_law_459 ?_
  refine jx_lcmp dL_law_462 ?_
  refine jx_if_eq (tgt := 2066) (nxt := 466) dL_law_463 (by decide) rfl (fun _ => ?_) (fun hc => absurd (by simp [lg_cmp]) hc)
  exact kk
/-- case 5: like -/
def jS_like (R : jWd → Prop) : Prop := ∀ (w : jWd) (a0 : Int64) (a1 : Int64), R w → ∃ (v : Int32) (w1 w2 : jWd), JM yX11_like MX11_like 4 [.ref 0, .long a0, .long a1] w (some (.int v)) w1 ∧ JM yX12_like MX12_like 4 [.ref 205, .long a0, .long a1] w1 (some (.int v)) w2 ∧ R w2
set_option maxHeartbeats 4000000 in
set_option maxRecDepth 100000 in
theorem jc_like {L i : Nat} {xs : Nat → Int32} (hL : L ≤ 4096) (hi : i + 8 ≤ L) {w w1 w2 : jWd} {v : Int32}
    (h1 : JM yX11_like MX11_like 4 [.ref 0, .long (lkL (xs (i + 1)) (xs (i + 2))), .long (lkL (xs (i + 3)) (xs (i + 4)))] w (some (.int v)) w1) (h2 : JM yX12_like MX12_like 4 [.ref 205, .long (lkL (xs (i + 1)) (xs (i + 2))), .long (lkL (xs (i + 3)) (xs (i + 4)))] w1 (some (.int v)) w2)
    (kk : JL L xs w2 2066 [(0, .ref 3001), (1, .ref 0), (2, .ref 205), (3, .int (nI i))] []) : JL L xs w 468 [(0, .ref 3001), (1, .ref 0), (2, .ref 205), (3, .int (nI i))] [] := by
  refine jx_aload_n dL_law_468 rfl 1 rfl ?_
  refine jx_aload_n dL_law_469 rfl 0 rfl ?_
  refine jx_iload_n dL_law_470 rfl 3 rfl ?_
  refine jx_iconst (v := (1 : Int32)) dL_law_471 (by decide) ?_
  refine jx_iadd dL_law_472 ?_
  refine jx_sld (k := 1) rfl (by omega) hL dL_law_473 ?_
  refine jx_i2l dL_law_474 ?_
  refine jx_bipush (v := (32 : Int32)) dL_law_475 (by decide) ?_
  refine jx_lshl dL_law_477 ?_
  refine jx_aload_n dL_law_478 rfl 0 rfl ?_
  refine jx_iload_n dL_law_479 rfl 3 rfl ?_
  refine jx_iconst (v := (2 : Int32)) dL_law_480 (by decide) ?_
  refine jx_iadd dL_law_481 ?_
  refine jx_sld (k := 2) rfl (by omega) hL dL_law_482 ?_
  refine jx_i2l dL_law_483 ?_
  refine jx_ldc2 xCL dL_law_484 ?_
  refine jx_land dL_law_487 ?_
  refine jx_lor dL_law_488 ?_
  refine jx_aload_n dL_law_489 rfl 0 rfl ?_
  refine jx_iload_n dL_law_490 rfl 3 rfl ?_
  refine jx_iconst (v := (3 : Int32)) dL_law_491 (by decide) ?_
  refine jx_iadd dL_law_492 ?_
  refine jx_sld (k := 3) rfl (by omega) hL dL_law_493 ?_
  refine jx_i2l dL_law_494 ?_
  refine jx_bipush (v := (32 : Int32)) dL_law_495 (by decide) ?_
  refine jx_lshl dL_law_497 ?_
  refine jx_aload_n dL_law_498 rfl 0 rfl ?_
  refine jx_iload_n dL_law_499 rfl 3 rfl ?_
  refine jx_iconst (v := (4 : Int32)) dL_law_500 (by decide) ?_
  refine jx_iadd dL_law_501 ?_
  refine jx_sld (k := 4) rfl (by omega) hL dL_law_502 ?_
  refine jx_i2l dL_law_503 ?_
  refine jx_ldc2 xCL dL_law_504 ?_
  refine jx_land dL_law_507 ?_
  refine jx_lor dL_law_508 ?_
  refine jx_call lkL_40 wIM_X11_like wSE_X11_like (q := 10) (by decide +kernel) (by decide) rfl h1 (by omega) rfl rfl (Nat.le_of_ble_eq_true rfl) dL_law_509 ?_
  refine jx_aload_n dL_law_512 rfl 2 rfl ?_
  refine jx_aload_n dL_law_513 rfl 0 rfl ?_
  refine jx_iload_n dL_law_514 rfl 3 rfl ?_
  refine jx_iconst (v := (1 : Int32)) dL_law_515 (by decide) ?_
  refine jx_iadd dL_law_516 ?_
  refine jx_sld (k := 1) rfl (by omega) hL dL_law_517 ?_
  refine jx_i2l dL_law_518 ?_
  refine jx_bipush (v := (32 : Int32)) dL_law_519 (by decide) ?_
  refine jx_lshl dL_law_521 ?_
  refine jx_aload_n dL_law_522 rfl 0 rfl ?_
  refine jx_iload_n dL_law_523 rfl 3 rfl ?_
  refine jx_iconst (v := (2 : Int32)) dL_law_524 (by decide) ?_
  refine jx_iadd dL_law_525 ?_
  refine jx_sld (k := 2) rfl (by omega) hL dL_law_526 ?_
  refine jx_i2l dL_law_527 ?_
  refine jx_ldc2 xCL dL_law_528 ?_
  refine jx_land dL_law_531 ?_
  refine jx_lor dL_law_532 ?_
  refine jx_aload_n dL_law_533 rfl 0 rfl ?_
  refine jx_iload_n dL_law_534 rfl 3 rfl ?_
  refine jx_iconst (v := (3 : Int32)) dL_law_535 (by decide) ?_
  refine jx_iadd dL_law_536 ?_
  refine jx_sld (k := 3) rfl (by omega) hL dL_law_537 ?_
  refine jx_i2l dL_law_538 ?_
  refine jx_bipush (v := (32 : Int32)) dL_law_539 (by decide) ?_
  refine jx_lshl dL_law_541 ?_
  refine jx_aload_n dL_law_542 rfl 0 rfl ?_
  refine jx_iload_n dL_law_543 rfl 3 rfl ?_
  refine jx_iconst (v := (4 : Int32)) dL_law_544 (by decide) ?_
  refine jx_iadd dL_law_545 ?_
  refine jx_sld (k := 4) rfl (by omega) hL dL_law_546 ?_
  refine jx_i2l dL_law_547 ?_
  refine jx_ldc2 xCL dL_law_548 ?_
  refine jx_land dL_law_551 ?_
  refine jx_lor dL_law_552 ?_
  refine jx_call lkL_44 wIM_X12_like wSE_X12_like (q := 11) (by decide +kernel) (by decide) rfl h2 (by omega) rfl rfl (Nat.le_of_ble_eq_true rfl) dL_law_553 ?_
  refine jx_icmp_eq (tgt := 2066) (nxt := 559) dL_law_556 (by decide) rfl (fun _ => ?_) (fun hc => absurd rfl hc)
  exact kk
/-- case 6: feed -/
def jS_feed (R : jWd → Prop) : Prop := ∀ (w : jWd) (a0 : Int32) (a1 : Int32) (a2 : Int32) (a3 : Int32) (a4 : Int32), R w → ∃ (v : Int32) (w1 w2 : jWd), JM yX11_feed MX11_feed 2 [.ref 0, .int a0, .int a1, .int a2, .int a3, .int a4] w (some (.int v)) w1 ∧ JM yX12_feed MX12_feed 2 [.ref 205, .int a0, .int a1, .int a2, .int a3, .int a4] w1 (some (.int v)) w2 ∧ R w2
set_option maxHeartbeats 4000000 in
set_option maxRecDepth 100000 in
theorem jc_feed {L i : Nat} {xs : Nat → Int32} (hL : L ≤ 4096) (hi : i + 8 ≤ L) {w w1 w2 : jWd} {v : Int32}
    (h1 : JM yX11_feed MX11_feed 2 [.ref 0, .int (xs (i + 1)), .int (xs (i + 2)), .int (xs (i + 3)), .int (xs (i + 4)), .int (xs (i + 5))] w (some (.int v)) w1) (h2 : JM yX12_feed MX12_feed 2 [.ref 205, .int (xs (i + 1)), .int (xs (i + 2)), .int (xs (i + 3)), .int (xs (i + 4)), .int (xs (i + 5))] w1 (some (.int v)) w2)
    (kk : JL L xs w2 2066 [(0, .ref 3001), (1, .ref 0), (2, .ref 205), (3, .int (nI i))] []) : JL L xs w 561 [(0, .ref 3001), (1, .ref 0), (2, .ref 205), (3, .int (nI i))] [] := by
  refine jx_aload_n dL_law_561 rfl 1 rfl ?_
  refine jx_aload_n dL_law_562 rfl 0 rfl ?_
  refine jx_iload_n dL_law_563 rfl 3 rfl ?_
  refine jx_iconst (v := (1 : Int32)) dL_law_564 (by decide) ?_
  refine jx_iadd dL_law_565 ?_
  refine jx_sld (k := 1) rfl (by omega) hL dL_law_566 ?_
  refine jx_aload_n dL_law_567 rfl 0 rfl ?_
  refine jx_iload_n dL_law_568 rfl 3 rfl ?_
  refine jx_iconst (v := (2 : Int32)) dL_law_569 (by decide) ?_
  refine jx_iadd dL_law_570 ?_
  refine jx_sld (k := 2) rfl (by omega) hL dL_law_571 ?_
  refine jx_aload_n dL_law_572 rfl 0 rfl ?_
  refine jx_iload_n dL_law_573 rfl 3 rfl ?_
  refine jx_iconst (v := (3 : Int32)) dL_law_574 (by decide) ?_
  refine jx_iadd dL_law_575 ?_
  refine jx_sld (k := 3) rfl (by omega) hL dL_law_576 ?_
  refine jx_aload_n dL_law_577 rfl 0 rfl ?_
  refine jx_iload_n dL_law_578 rfl 3 rfl ?_
  refine jx_iconst (v := (4 : Int32)) dL_law_579 (by decide) ?_
  refine jx_iadd dL_law_580 ?_
  refine jx_sld (k := 4) rfl (by omega) hL dL_law_581 ?_
  refine jx_aload_n dL_law_582 rfl 0 rfl ?_
  refine jx_iload_n dL_law_583 rfl 3 rfl ?_
  refine jx_iconst (v := (5 : Int32)) dL_law_584 (by decide) ?_
  refine jx_iadd dL_law_585 ?_
  refine jx_sld (k := 5) rfl (by omega) hL dL_law_586 ?_
  refine jx_call lkL_45 wIM_X11_feed wSE_X11_feed (q := 10) (by decide +kernel) (by decide) rfl h1 (by omega) rfl rfl (Nat.le_of_ble_eq_true rfl) dL_law_587 ?_
  refine jx_aload_n dL_law_590 rfl 2 rfl ?_
  refine jx_aload_n dL_law_591 rfl 0 rfl ?_
  refine jx_iload_n dL_law_592 rfl 3 rfl ?_
  refine jx_iconst (v := (1 : Int32)) dL_law_593 (by decide) ?_
  refine jx_iadd dL_law_594 ?_
  refine jx_sld (k := 1) rfl (by omega) hL dL_law_595 ?_
  refine jx_aload_n dL_law_596 rfl 0 rfl ?_
  refine jx_iload_n dL_law_597 rfl 3 rfl ?_
  refine jx_iconst (v := (2 : Int32)) dL_law_598 (by decide) ?_
  refine jx_iadd dL_law_599 ?_
  refine jx_sld (k := 2) rfl (by omega) hL dL_law_600 ?_
  refine jx_aload_n dL_law_601 rfl 0 rfl ?_
  refine jx_iload_n dL_law_602 rfl 3 rfl ?_
  refine jx_iconst (v := (3 : Int32)) dL_law_603 (by decide) ?_
  refine jx_iadd dL_law_604 ?_
  refine jx_sld (k := 3) rfl (by omega) hL dL_law_605 ?_
  refine jx_aload_n dL_law_606 rfl 0 rfl ?_
  refine jx_iload_n dL_law_607 rfl 3 rfl ?_
  refine jx_iconst (v := (4 : Int32)) dL_law_608 (by decide) ?_
  refine jx_iadd dL_law_609 ?_
  refine jx_sld (k := 4) rfl (by omega) hL dL_law_610 ?_
  refine jx_aload_n dL_law_611 rfl 0 rfl ?_
  refine jx_iload_n dL_law_612 rfl 3 rfl ?_
  refine jx_iconst (v := (5 : Int32)) dL_law_613 (by decide) ?_
  refine jx_iadd dL_law_614 ?_
  refine jx_sld (k := 5) rfl (by omega) hL dL_law_615 ?_
  refine jx_call lkL_49 wIM_X12_feed wSE_X12_feed (q := 11) (by decide +kernel) (by decide) rfl h2 (by omega) rfl rfl (Nat.le_of_ble_eq_true rfl) dL_law_616 ?_
  refine jx_icmp_eq (tgt := 2066) (nxt := 622) dL_law_619 (by decide) rfl (fun _ => ?_) (fun hc => absurd rfl hc)
  exact kk
/-- case 7: text -/
def jS_text (R : jWd → Prop) : Prop := ∀ (w : jWd) (a0 : Int32) (a1 : Int32), R w → ∃ (v : Int32) (w1 w2 : jWd), JM yX11_text MX11_text 44 [.ref 0, .int a0, .int a1] w (some (.int v)) w1 ∧ JM yX12_text MX12_text 51 [.ref 205, .int a0, .int a1] w1 (some (.int v)) w2 ∧ R w2
set_option maxHeartbeats 4000000 in
set_option maxRecDepth 100000 in
theorem jc_text {L i : Nat} {xs : Nat → Int32} (hL : L ≤ 4096) (hi : i + 8 ≤ L) {w w1 w2 : jWd} {v : Int32}
    (h1 : JM yX11_text MX11_text 44 [.ref 0, .int (xs (i + 1)), .int (xs (i + 2))] w (some (.int v)) w1) (h2 : JM yX12_text MX12_text 51 [.ref 205, .int (xs (i + 1)), .int (xs (i + 2))] w1 (some (.int v)) w2)
    (kk : JL L xs w2 2066 [(0, .ref 3001), (1, .ref 0), (2, .ref 205), (3, .int (nI i))] []) : JL L xs w 624 [(0, .ref 3001), (1, .ref 0), (2, .ref 205), (3, .int (nI i))] [] := by
  refine jx_aload_n dL_law_624 rfl 1 rfl ?_
  refine jx_aload_n dL_law_625 rfl 0 rfl ?_
  refine jx_iload_n dL_law_626 rfl 3 rfl ?_
  refine jx_iconst (v := (1 : Int32)) dL_law_627 (by decide) ?_
  refine jx_iadd dL_law_628 ?_
  refine jx_sld (k := 1) rfl (by omega) hL dL_law_629 ?_
  refine jx_aload_n dL_law_630 rfl 0 rfl ?_
  refine jx_iload_n dL_law_631 rfl 3 rfl ?_
  refine jx_iconst (v := (2 : Int32)) dL_law_632 (by decide) ?_
  refine jx_iadd dL_law_633 ?_
  refine jx_sld (k := 2) rfl (by omega) hL dL_law_634 ?_
  refine jx_call lkL_50 wIM_X11_text wSE_X11_text (q := 10) (by decide +kernel) (by decide) rfl h1 (by omega) rfl rfl (Nat.le_of_ble_eq_true rfl) dL_law_635 ?_
  refine jx_aload_n dL_law_638 rfl 2 rfl ?_
  refine jx_aload_n dL_law_639 rfl 0 rfl ?_
  refine jx_iload_n dL_law_640 rfl 3 rfl ?_
  refine jx_iconst (v := (1 : Int32)) dL_law_641 (by decide) ?_
  refine jx_iadd dL_law_642 ?_
  refine jx_sld (k := 1) rfl (by omega) hL dL_law_643 ?_
  refine jx_aload_n dL_law_644 rfl 0 rfl ?_
  refine jx_iload_n dL_law_645 rfl 3 rfl ?_
  refine jx_iconst (v := (2 : Int32)) dL_law_646 (by decide) ?_
  refine jx_iadd dL_law_647 ?_
  refine jx_sld (k := 2) rfl (by omega) hL dL_law_648 ?_
  refine jx_call lkL_53 wIM_X12_text wSE_X12_text (q := 11) (by decide +kernel) (by decide) rfl h2 (by omega) rfl rfl (Nat.le_of_ble_eq_true rfl) dL_law_649 ?_
  refine jx_icmp_eq (tgt := 2066) (nxt := 655) dL_law_652 (by decide) rfl (fun _ => ?_) (fun hc => absurd rfl hc)
  exact kk
/-- case 8: fault -/
def jS_fault (R : jWd → Prop) : Prop := ∀ (w : jWd) (a0 : Int32), R w → ∃ (v : Int32) (w1 w2 : jWd), JM yX11_fault MX11_fault 1 [.ref 0, .int a0] w (some (.int v)) w1 ∧ JM yX12_fault MX12_fault 1 [.ref 205, .int a0] w1 (some (.int v)) w2 ∧ R w2
set_option maxHeartbeats 4000000 in
set_option maxRecDepth 100000 in
theorem jc_fault {L i : Nat} {xs : Nat → Int32} (hL : L ≤ 4096) (hi : i + 8 ≤ L) {w w1 w2 : jWd} {v : Int32}
    (h1 : JM yX11_fault MX11_fault 1 [.ref 0, .int (xs (i + 1))] w (some (.int v)) w1) (h2 : JM yX12_fault MX12_fault 1 [.ref 205, .int (xs (i + 1))] w1 (some (.int v)) w2)
    (kk : JL L xs w2 2066 [(0, .ref 3001), (1, .ref 0), (2, .ref 205), (3, .int (nI i))] []) : JL L xs w 657 [(0, .ref 3001), (1, .ref 0), (2, .ref 205), (3, .int (nI i))] [] := by
  refine jx_aload_n dL_law_657 rfl 1 rfl ?_
  refine jx_aload_n dL_law_658 rfl 0 rfl ?_
  refine jx_iload_n dL_law_659 rfl 3 rfl ?_
  refine jx_iconst (v := (1 : Int32)) dL_law_660 (by decide) ?_
  refine jx_iadd dL_law_661 ?_
  refine jx_sld (k := 1) rfl (by omega) hL dL_law_662 ?_
  refine jx_call lkL_54 wIM_X11_fault wSE_X11_fault (q := 10) (by decide +kernel) (by decide) rfl h1 (by omega) rfl rfl (Nat.le_of_ble_eq_true rfl) dL_law_663 ?_
  refine jx_aload_n dL_law_666 rfl 2 rfl ?_
  refine jx_aload_n dL_law_667 rfl 0 rfl ?_
  refine jx_iload_n dL_law_668 rfl 3 rfl ?_
  refine jx_iconst (v := (1 : Int32)) dL_law_669 (by decide) ?_
  refine jx_iadd dL_law_670 ?_
  refine jx_sld (k := 1) rfl (by omega) hL dL_law_671 ?_
  refine jx_call lkL_57 wIM_X12_fault wSE_X12_fault (q := 11) (by decide +kernel) (by decide) rfl h2 (by omega) rfl rfl (Nat.le_of_ble_eq_true rfl) dL_law_672 ?_
  refine jx_icmp_eq (tgt := 2066) (nxt := 678) dL_law_675 (by decide) rfl (fun _ => ?_) (fun hc => absurd rfl hc)
  exact kk
/-- case 9: smoothed -/
def jS_smoothed (R : jWd → Prop) : Prop := ∀ (w : jWd) (a0 : Int64) (a1 : Int32), R w → ∃ (v : Int64) (w1 w2 : jWd), JM yX11_smoothed MX11_smoothed 7 [.ref 0, .long a0, .int a1] w (some (.long v)) w1 ∧ JM yX12_smoothed MX12_smoothed 5 [.ref 205, .long a0, .int a1] w1 (some (.long v)) w2 ∧ R w2
set_option maxHeartbeats 4000000 in
set_option maxRecDepth 100000 in
theorem jc_smoothed {L i : Nat} {xs : Nat → Int32} (hL : L ≤ 4096) (hi : i + 8 ≤ L) {w w1 w2 : jWd} {v : Int64}
    (h1 : JM yX11_smoothed MX11_smoothed 7 [.ref 0, .long (lkL (xs (i + 1)) (xs (i + 2))), .int (xs (i + 3))] w (some (.long v)) w1) (h2 : JM yX12_smoothed MX12_smoothed 5 [.ref 205, .long (lkL (xs (i + 1)) (xs (i + 2))), .int (xs (i + 3))] w1 (some (.long v)) w2)
    (kk : JL L xs w2 2066 [(0, .ref 3001), (1, .ref 0), (2, .ref 205), (3, .int (nI i))] []) : JL L xs w 680 [(0, .ref 3001), (1, .ref 0), (2, .ref 205), (3, .int (nI i))] [] := by
  refine jx_aload_n dL_law_680 rfl 1 rfl ?_
  refine jx_aload_n dL_law_681 rfl 0 rfl ?_
  refine jx_iload_n dL_law_682 rfl 3 rfl ?_
  refine jx_iconst (v := (1 : Int32)) dL_law_683 (by decide) ?_
  refine jx_iadd dL_law_684 ?_
  refine jx_sld (k := 1) rfl (by omega) hL dL_law_685 ?_
  refine jx_i2l dL_law_686 ?_
  refine jx_bipush (v := (32 : Int32)) dL_law_687 (by decide) ?_
  refine jx_lshl dL_law_689 ?_
  refine jx_aload_n dL_law_690 rfl 0 rfl ?_
  refine jx_iload_n dL_law_691 rfl 3 rfl ?_
  refine jx_iconst (v := (2 : Int32)) dL_law_692 (by decide) ?_
  refine jx_iadd dL_law_693 ?_
  refine jx_sld (k := 2) rfl (by omega) hL dL_law_694 ?_
  refine jx_i2l dL_law_695 ?_
  refine jx_ldc2 xCL dL_law_696 ?_
  refine jx_land dL_law_699 ?_
  refine jx_lor dL_law_700 ?_
  refine jx_aload_n dL_law_701 rfl 0 rfl ?_
  refine jx_iload_n dL_law_702 rfl 3 rfl ?_
  refine jx_iconst (v := (3 : Int32)) dL_law_703 (by decide) ?_
  refine jx_iadd dL_law_704 ?_
  refine jx_sld (k := 3) rfl (by omega) hL dL_law_705 ?_
  refine jx_call lkL_58 wIM_X11_smoothed wSE_X11_smoothed (q := 10) (by decide +kernel) (by decide) rfl h1 (by omega) rfl rfl (Nat.le_of_ble_eq_true rfl) dL_law_706 ?_
  refine jx_aload_n dL_law_709 rfl 2 rfl ?_
  refine jx_aload_n dL_law_710 rfl 0 rfl ?_
  refine jx_iload_n dL_law_711 rfl 3 rfl ?_
  refine jx_iconst (v := (1 : Int32)) dL_law_712 (by decide) ?_
  refine jx_iadd dL_law_713 ?_
  refine jx_sld (k := 1) rfl (by omega) hL dL_law_714 ?_
  refine jx_i2l dL_law_715 ?_
  refine jx_bipush (v := (32 : Int32)) dL_law_716 (by decide) ?_
  refine jx_lshl dL_law_718 ?_
  refine jx_aload_n dL_law_719 rfl 0 rfl ?_
  refine jx_iload_n dL_law_720 rfl 3 rfl ?_
  refine jx_iconst (v := (2 : Int32)) dL_law_721 (by decide) ?_
  refine jx_iadd dL_law_722 ?_
  refine jx_sld (k := 2) rfl (by omega) hL dL_law_723 ?_
  refine jx_i2l dL_law_724 ?_
  refine jx_ldc2 xCL dL_law_725 ?_
  refine jx_land dL_law_728 ?_
  refine jx_lor dL_law_729 ?_
  refine jx_aload_n dL_law_730 rfl 0 rfl ?_
  refine jx_iload_n dL_law_731 rfl 3 rfl ?_
  refine jx_iconst (v := (3 : Int32)) dL_law_732 (by decide) ?_
  refine jx_iadd dL_law_733 ?_
  refine jx_sld (k := 3) rfl (by omega) hL dL_law_734 ?_
  refine jx_call lkL_62 wIM_X12_smoothed wSE_X12_smoothed (q := 11) (by decide +kernel) (by decide) rfl h2 (by omega) rfl rfl (Nat.le_of_ble_eq_true rfl) dL_law_735 ?_
  refine jx_lcmp dL_law_738 ?_
  refine jx_if_eq (tgt := 2066) (nxt := 742) dL_law_739 (by decide) rfl (fun _ => ?_) (fun hc => absurd (by simp [lg_cmp]) hc)
  exact kk
/-- case 10: told -/
def jS_told (R : jWd → Prop) : Prop := ∀ (w : jWd) (a0 : Int32) (a1 : Int32) (a2 : Int32) (a3 : Int32), R w → ∃ (v : Int32) (w1 w2 : jWd), JM yX11_told MX11_told 8 [.ref 0, .int a0, .int a1, .int a2, .int a3] w (some (.int v)) w1 ∧ JM yX12_told MX12_told 5 [.ref 205, .int a0, .int a1, .int a2, .int a3] w1 (some (.int v)) w2 ∧ R w2
set_option maxHeartbeats 4000000 in
set_option maxRecDepth 100000 in
theorem jc_told {L i : Nat} {xs : Nat → Int32} (hL : L ≤ 4096) (hi : i + 8 ≤ L) {w w1 w2 : jWd} {v : Int32}
    (h1 : JM yX11_told MX11_told 8 [.ref 0, .int (xs (i + 1)), .int (xs (i + 2)), .int (xs (i + 3)), .int (xs (i + 4))] w (some (.int v)) w1) (h2 : JM yX12_told MX12_told 5 [.ref 205, .int (xs (i + 1)), .int (xs (i + 2)), .int (xs (i + 3)), .int (xs (i + 4))] w1 (some (.int v)) w2)
    (kk : JL L xs w2 2066 [(0, .ref 3001), (1, .ref 0), (2, .ref 205), (3, .int (nI i))] []) : JL L xs w 744 [(0, .ref 3001), (1, .ref 0), (2, .ref 205), (3, .int (nI i))] [] := by
  refine jx_aload_n dL_law_744 rfl 1 rfl ?_
  refine jx_aload_n dL_law_745 rfl 0 rfl ?_
  refine jx_iload_n dL_law_746 rfl 3 rfl ?_
  refine jx_iconst (v := (1 : Int32)) dL_law_747 (by decide) ?_
  refine jx_iadd dL_law_748 ?_
  refine jx_sld (k := 1) rfl (by omega) hL dL_law_749 ?_
  refine jx_aload_n dL_law_750 rfl 0 rfl ?_
  refine jx_iload_n dL_law_751 rfl 3 rfl ?_
  refine jx_iconst (v := (2 : Int32)) dL_law_752 (by decide) ?_
  refine jx_iadd dL_law_753 ?_
  refine jx_sld (k := 2) rfl (by omega) hL dL_law_754 ?_
  refine jx_aload_n dL_law_755 rfl 0 rfl ?_
  refine jx_iload_n dL_law_756 rfl 3 rfl ?_
  refine jx_iconst (v := (3 : Int32)) dL_law_757 (by decide) ?_
  refine jx_iadd dL_law_758 ?_
  refine jx_sld (k := 3) rfl (by omega) hL dL_law_759 ?_
  refine jx_aload_n dL_law_760 rfl 0 rfl ?_
  refine jx_iload_n dL_law_761 rfl 3 rfl ?_
  refine jx_iconst (v := (4 : Int32)) dL_law_762 (by decide) ?_
  refine jx_iadd dL_law_763 ?_
  refine jx_sld (k := 4) rfl (by omega) hL dL_law_764 ?_
  refine jx_call lkL_63 wIM_X11_told wSE_X11_told (q := 10) (by decide +kernel) (by decide) rfl h1 (by omega) rfl rfl (Nat.le_of_ble_eq_true rfl) dL_law_765 ?_
  refine jx_aload_n dL_law_768 rfl 2 rfl ?_
  refine jx_aload_n dL_law_769 rfl 0 rfl ?_
  refine jx_iload_n dL_law_770 rfl 3 rfl ?_
  refine jx_iconst (v := (1 : Int32)) dL_law_771 (by decide) ?_
  refine jx_iadd dL_law_772 ?_
  refine jx_sld (k := 1) rfl (by omega) hL dL_law_773 ?_
  refine jx_aload_n dL_law_774 rfl 0 rfl ?_
  refine jx_iload_n dL_law_775 rfl 3 rfl ?_
  refine jx_iconst (v := (2 : Int32)) dL_law_776 (by decide) ?_
  refine jx_iadd dL_law_777 ?_
  refine jx_sld (k := 2) rfl (by omega) hL dL_law_778 ?_
  refine jx_aload_n dL_law_779 rfl 0 rfl ?_
  refine jx_iload_n dL_law_780 rfl 3 rfl ?_
  refine jx_iconst (v := (3 : Int32)) dL_law_781 (by decide) ?_
  refine jx_iadd dL_law_782 ?_
  refine jx_sld (k := 3) rfl (by omega) hL dL_law_783 ?_
  refine jx_aload_n dL_law_784 rfl 0 rfl ?_
  refine jx_iload_n dL_law_785 rfl 3 rfl ?_
  refine jx_iconst (v := (4 : Int32)) dL_law_786 (by decide) ?_
  refine jx_iadd dL_law_787 ?_
  refine jx_sld (k := 4) rfl (by omega) hL dL_law_788 ?_
  refine jx_call lkL_66 wIM_X12_told wSE_X12_told (q := 11) (by decide +kernel) (by decide) rfl h2 (by omega) rfl rfl (Nat.le_of_ble_eq_true rfl) dL_law_789 ?_
  refine jx_icmp_eq (tgt := 2066) (nxt := 795) dL_law_792 (by decide) rfl (fun _ => ?_) (fun hc => absurd rfl hc)
  exact kk
/-- case 11: whose -/
def jS_whose (R : jWd → Prop) : Prop := ∀ (w : jWd) (a0 : Int32) (a1 : Int32), R w → ∃ (v : Int32) (w1 w2 : jWd), JM yX11_whose MX11_whose 6 [.ref 0, .int a0, .int a1] w (some (.int v)) w1 ∧ JM yX12_whose MX12_whose 7 [.ref 205, .int a0, .int a1] w1 (some (.int v)) w2 ∧ R w2
set_option maxHeartbeats 4000000 in
set_option maxRecDepth 100000 in
theorem jc_whose {L i : Nat} {xs : Nat → Int32} (hL : L ≤ 4096) (hi : i + 8 ≤ L) {w w1 w2 : jWd} {v : Int32}
    (h1 : JM yX11_whose MX11_whose 6 [.ref 0, .int (xs (i + 1)), .int (xs (i + 2))] w (some (.int v)) w1) (h2 : JM yX12_whose MX12_whose 7 [.ref 205, .int (xs (i + 1)), .int (xs (i + 2))] w1 (some (.int v)) w2)
    (kk : JL L xs w2 2066 [(0, .ref 3001), (1, .ref 0), (2, .ref 205), (3, .int (nI i))] []) : JL L xs w 797 [(0, .ref 3001), (1, .ref 0), (2, .ref 205), (3, .int (nI i))] [] := by
  refine jx_aload_n dL_law_797 rfl 1 rfl ?_
  refine jx_aload_n dL_law_798 rfl 0 rfl ?_
  refine jx_iload_n dL_law_799 rfl 3 rfl ?_
  refine jx_iconst (v := (1 : Int32)) dL_law_800 (by decide) ?_
  refine jx_iadd dL_law_801 ?_
  refine jx_sld (k := 1) rfl (by omega) hL dL_law_802 ?_
  refine jx_aload_n dL_law_803 rfl 0 rfl ?_
  refine jx_iload_n dL_law_804 rfl 3 rfl ?_
  refine jx_iconst (v := (2 : Int32)) dL_law_805 (by decide) ?_
  refine jx_iadd dL_law_806 ?_
  refine jx_sld (k := 2) rfl (by omega) hL dL_law_807 ?_
  refine jx_call lkL_67 wIM_X11_whose wSE_X11_whose (q := 10) (by decide +kernel) (by decide) rfl h1 (by omega) rfl rfl (Nat.le_of_ble_eq_true rfl) dL_law_808 ?_
  refine jx_aload_n dL_law_811 rfl 2 rfl ?_
  refine jx_aload_n dL_law_812 rfl 0 rfl ?_
  refine jx_iload_n dL_law_813 rfl 3 rfl ?_
  refine jx_iconst (v := (1 : Int32)) dL_law_814 (by decide) ?_
  refine jx_iadd dL_law_815 ?_
  refine jx_sld (k := 1) rfl (by omega) hL dL_law_816 ?_
  refine jx_aload_n dL_law_817 rfl 0 rfl ?_
  refine jx_iload_n dL_law_818 rfl 3 rfl ?_
  refine jx_iconst (v := (2 : Int32)) dL_law_819 (by decide) ?_
  refine jx_iadd dL_law_820 ?_
  refine jx_sld (k := 2) rfl (by omega) hL dL_law_821 ?_
  refine jx_call lkL_70 wIM_X12_whose wSE_X12_whose (q := 11) (by decide +kernel) (by decide) rfl h2 (by omega) rfl rfl (Nat.le_of_ble_eq_true rfl) dL_law_822 ?_
  refine jx_icmp_eq (tgt := 2066) (nxt := 828) dL_law_825 (by decide) rfl (fun _ => ?_) (fun hc => absurd rfl hc)
  exact kk
/-- case 12: late -/
def jS_late (R : jWd → Prop) : Prop := ∀ (w : jWd) (a0 : Int32) (a1 : Int32), R w → ∃ (v : Int32) (w1 w2 : jWd), JM yX11_late MX11_late 5 [.ref 0, .int a0, .int a1] w (some (.int v)) w1 ∧ JM yX12_late MX12_late 5 [.ref 205, .int a0, .int a1] w1 (some (.int v)) w2 ∧ R w2
set_option maxHeartbeats 4000000 in
set_option maxRecDepth 100000 in
theorem jc_late {L i : Nat} {xs : Nat → Int32} (hL : L ≤ 4096) (hi : i + 8 ≤ L) {w w1 w2 : jWd} {v : Int32}
    (h1 : JM yX11_late MX11_late 5 [.ref 0, .int (xs (i + 1)), .int (xs (i + 2))] w (some (.int v)) w1) (h2 : JM yX12_late MX12_late 5 [.ref 205, .int (xs (i + 1)), .int (xs (i + 2))] w1 (some (.int v)) w2)
    (kk : JL L xs w2 2066 [(0, .ref 3001), (1, .ref 0), (2, .ref 205), (3, .int (nI i))] []) : JL L xs w 830 [(0, .ref 3001), (1, .ref 0), (2, .ref 205), (3, .int (nI i))] [] := by
  refine jx_aload_n dL_law_830 rfl 1 rfl ?_
  refine jx_aload_n dL_law_831 rfl 0 rfl ?_
  refine jx_iload_n dL_law_832 rfl 3 rfl ?_
  refine jx_iconst (v := (1 : Int32)) dL_law_833 (by decide) ?_
  refine jx_iadd dL_law_834 ?_
  refine jx_sld (k := 1) rfl (by omega) hL dL_law_835 ?_
  refine jx_aload_n dL_law_836 rfl 0 rfl ?_
  refine jx_iload_n dL_law_837 rfl 3 rfl ?_
  refine jx_iconst (v := (2 : Int32)) dL_law_838 (by decide) ?_
  refine jx_iadd dL_law_839 ?_
  refine jx_sld (k := 2) rfl (by omega) hL dL_law_840 ?_
  refine jx_call lkL_71 wIM_X11_late wSE_X11_late (q := 10) (by decide +kernel) (by decide) rfl h1 (by omega) rfl rfl (Nat.le_of_ble_eq_true rfl) dL_law_841 ?_
  refine jx_aload_n dL_law_844 rfl 2 rfl ?_
  refine jx_aload_n dL_law_845 rfl 0 rfl ?_
  refine jx_iload_n dL_law_846 rfl 3 rfl ?_
  refine jx_iconst (v := (1 : Int32)) dL_law_847 (by decide) ?_
  refine jx_iadd dL_law_848 ?_
  refine jx_sld (k := 1) rfl (by omega) hL dL_law_849 ?_
  refine jx_aload_n dL_law_850 rfl 0 rfl ?_
  refine jx_iload_n dL_law_851 rfl 3 rfl ?_
  refine jx_iconst (v := (2 : Int32)) dL_law_852 (by decide) ?_
  refine jx_iadd dL_law_853 ?_
  refine jx_sld (k := 2) rfl (by omega) hL dL_law_854 ?_
  refine jx_call lkL_74 wIM_X12_late wSE_X12_late (q := 11) (by decide +kernel) (by decide) rfl h2 (by omega) rfl rfl (Nat.le_of_ble_eq_true rfl) dL_law_855 ?_
  refine jx_icmp_eq (tgt := 2066) (nxt := 861) dL_law_858 (by decide) rfl (fun _ => ?_) (fun hc => absurd rfl hc)
  exact kk
/-- case 13: share -/
def jS_share (R : jWd → Prop) : Prop := ∀ (w : jWd) (a0 : Int32) (a1 : Int32), R w → ∃ (v : Int32) (w1 w2 : jWd), JM yX11_share MX11_share 7 [.ref 0, .int a0, .int a1] w (some (.int v)) w1 ∧ JM yX12_share MX12_share 8 [.ref 205, .int a0, .int a1] w1 (some (.int v)) w2 ∧ R w2
set_option maxHeartbeats 4000000 in
set_option maxRecDepth 100000 in
theorem jc_share {L i : Nat} {xs : Nat → Int32} (hL : L ≤ 4096) (hi : i + 8 ≤ L) {w w1 w2 : jWd} {v : Int32}
    (h1 : JM yX11_share MX11_share 7 [.ref 0, .int (xs (i + 1)), .int (xs (i + 2))] w (some (.int v)) w1) (h2 : JM yX12_share MX12_share 8 [.ref 205, .int (xs (i + 1)), .int (xs (i + 2))] w1 (some (.int v)) w2)
    (kk : JL L xs w2 2066 [(0, .ref 3001), (1, .ref 0), (2, .ref 205), (3, .int (nI i))] []) : JL L xs w 863 [(0, .ref 3001), (1, .ref 0), (2, .ref 205), (3, .int (nI i))] [] := by
  refine jx_aload_n dL_law_863 rfl 1 rfl ?_
  refine jx_aload_n dL_law_864 rfl 0 rfl ?_
  refine jx_iload_n dL_law_865 rfl 3 rfl ?_
  refine jx_iconst (v := (1 : Int32)) dL_law_866 (by decide) ?_
  refine jx_iadd dL_law_867 ?_
  refine jx_sld (k := 1) rfl (by omega) hL dL_law_868 ?_
  refine jx_aload_n dL_law_869 rfl 0 rfl ?_
  refine jx_iload_n dL_law_870 rfl 3 rfl ?_
  refine jx_iconst (v := (2 : Int32)) dL_law_871 (by decide) ?_
  refine jx_iadd dL_law_872 ?_
  refine jx_sld (k := 2) rfl (by omega) hL dL_law_873 ?_
  refine jx_call lkL_75 wIM_X11_share wSE_X11_share (q := 10) (by decide +kernel) (by decide) rfl h1 (by omega) rfl rfl (Nat.le_of_ble_eq_true rfl) dL_law_874 ?_
  refine jx_aload_n dL_law_877 rfl 2 rfl ?_
  refine jx_aload_n dL_law_878 rfl 0 rfl ?_
  refine jx_iload_n dL_law_879 rfl 3 rfl ?_
  refine jx_iconst (v := (1 : Int32)) dL_law_880 (by decide) ?_
  refine jx_iadd dL_law_881 ?_
  refine jx_sld (k := 1) rfl (by omega) hL dL_law_882 ?_
  refine jx_aload_n dL_law_883 rfl 0 rfl ?_
  refine jx_iload_n dL_law_884 rfl 3 rfl ?_
  refine jx_iconst (v := (2 : Int32)) dL_law_885 (by decide) ?_
  refine jx_iadd dL_law_886 ?_
  refine jx_sld (k := 2) rfl (by omega) hL dL_law_887 ?_
  refine jx_call lkL_78 wIM_X12_share wSE_X12_share (q := 11) (by decide +kernel) (by decide) rfl h2 (by omega) rfl rfl (Nat.le_of_ble_eq_true rfl) dL_law_888 ?_
  refine jx_icmp_eq (tgt := 2066) (nxt := 894) dL_law_891 (by decide) rfl (fun _ => ?_) (fun hc => absurd rfl hc)
  exact kk
/-- case 14: span -/
def jS_span (R : jWd → Prop) : Prop := ∀ (w : jWd) (a0 : Int32), R w → ∃ (v : Int32) (w1 w2 : jWd), JM yX11_span MX11_span 7 [.ref 0, .int a0] w (some (.int v)) w1 ∧ JM yX12_span MX12_span 8 [.ref 205, .int a0] w1 (some (.int v)) w2 ∧ R w2
set_option maxHeartbeats 4000000 in
set_option maxRecDepth 100000 in
theorem jc_span {L i : Nat} {xs : Nat → Int32} (hL : L ≤ 4096) (hi : i + 8 ≤ L) {w w1 w2 : jWd} {v : Int32}
    (h1 : JM yX11_span MX11_span 7 [.ref 0, .int (xs (i + 1))] w (some (.int v)) w1) (h2 : JM yX12_span MX12_span 8 [.ref 205, .int (xs (i + 1))] w1 (some (.int v)) w2)
    (kk : JL L xs w2 2066 [(0, .ref 3001), (1, .ref 0), (2, .ref 205), (3, .int (nI i))] []) : JL L xs w 896 [(0, .ref 3001), (1, .ref 0), (2, .ref 205), (3, .int (nI i))] [] := by
  refine jx_aload_n dL_law_896 rfl 1 rfl ?_
  refine jx_aload_n dL_law_897 rfl 0 rfl ?_
  refine jx_iload_n dL_law_898 rfl 3 rfl ?_
  refine jx_iconst (v := (1 : Int32)) dL_law_899 (by decide) ?_
  refine jx_iadd dL_law_900 ?_
  refine jx_sld (k := 1) rfl (by omega) hL dL_law_901 ?_
  refine jx_call lkL_79 wIM_X11_span wSE_X11_span (q := 10) (by decide +kernel) (by decide) rfl h1 (by omega) rfl rfl (Nat.le_of_ble_eq_true rfl) dL_law_902 ?_
  refine jx_aload_n dL_law_905 rfl 2 rfl ?_
  refine jx_aload_n dL_law_906 rfl 0 rfl ?_
  refine jx_iload_n dL_law_907 rfl 3 rfl ?_
  refine jx_iconst (v := (1 : Int32)) dL_law_908 (by decide) ?_
  refine jx_iadd dL_law_909 ?_
  refine jx_sld (k := 1) rfl (by omega) hL dL_law_910 ?_
  refine jx_call lkL_82 wIM_X12_span wSE_X12_span (q := 11) (by decide +kernel) (by decide) rfl h2 (by omega) rfl rfl (Nat.le_of_ble_eq_true rfl) dL_law_911 ?_
  refine jx_icmp_eq (tgt := 2066) (nxt := 917) dL_law_914 (by decide) rfl (fun _ => ?_) (fun hc => absurd rfl hc)
  exact kk
/-- case 15: chance -/
def jS_chance (R : jWd → Prop) : Prop := ∀ (w : jWd) (a0 : Int32) (a1 : Int32), R w → ∃ (v : Int32) (w1 w2 : jWd), JM yX11_chance MX11_chance 6 [.ref 0, .int a0, .int a1] w (some (.int v)) w1 ∧ JM yX12_chance MX12_chance 5 [.ref 205, .int a0, .int a1] w1 (some (.int v)) w2 ∧ R w2
set_option maxHeartbeats 4000000 in
set_option maxRecDepth 100000 in
theorem jc_chance {L i : Nat} {xs : Nat → Int32} (hL : L ≤ 4096) (hi : i + 8 ≤ L) {w w1 w2 : jWd} {v : Int32}
    (h1 : JM yX11_chance MX11_chance 6 [.ref 0, .int (xs (i + 1)), .int (xs (i + 2))] w (some (.int v)) w1) (h2 : JM yX12_chance MX12_chance 5 [.ref 205, .int (xs (i + 1)), .int (xs (i + 2))] w1 (some (.int v)) w2)
    (kk : JL L xs w2 2066 [(0, .ref 3001), (1, .ref 0), (2, .ref 205), (3, .int (nI i))] []) : JL L xs w 919 [(0, .ref 3001), (1, .ref 0), (2, .ref 205), (3, .int (nI i))] [] := by
  refine jx_aload_n dL_law_919 rfl 1 rfl ?_
  refine jx_aload_n dL_law_920 rfl 0 rfl ?_
  refine jx_iload_n dL_law_921 rfl 3 rfl ?_
  refine jx_iconst (v := (1 : Int32)) dL_law_922 (by decide) ?_
  refine jx_iadd dL_law_923 ?_
  refine jx_sld (k := 1) rfl (by omega) hL dL_law_924 ?_
  refine jx_aload_n dL_law_925 rfl 0 rfl ?_
  refine jx_iload_n dL_law_926 rfl 3 rfl ?_
  refine jx_iconst (v := (2 : Int32)) dL_law_927 (by decide) ?_
  refine jx_iadd dL_law_928 ?_
  refine jx_sld (k := 2) rfl (by omega) hL dL_law_929 ?_
  refine jx_call lkL_83 wIM_X11_chance wSE_X11_chance (q := 10) (by decide +kernel) (by decide) rfl h1 (by omega) rfl rfl (Nat.le_of_ble_eq_true rfl) dL_law_930 ?_
  refine jx_aload_n dL_law_933 rfl 2 rfl ?_
  refine jx_aload_n dL_law_934 rfl 0 rfl ?_
  refine jx_iload_n dL_law_935 rfl 3 rfl ?_
  refine jx_iconst (v := (1 : Int32)) dL_law_936 (by decide) ?_
  refine jx_iadd dL_law_937 ?_
  refine jx_sld (k := 1) rfl (by omega) hL dL_law_938 ?_
  refine jx_aload_n dL_law_939 rfl 0 rfl ?_
  refine jx_iload_n dL_law_940 rfl 3 rfl ?_
  refine jx_iconst (v := (2 : Int32)) dL_law_941 (by decide) ?_
  refine jx_iadd dL_law_942 ?_
  refine jx_sld (k := 2) rfl (by omega) hL dL_law_943 ?_
  refine jx_call lkL_86 wIM_X12_chance wSE_X12_chance (q := 11) (by decide +kernel) (by decide) rfl h2 (by omega) rfl rfl (Nat.le_of_ble_eq_true rfl) dL_law_944 ?_
  refine jx_icmp_eq (tgt := 2066) (nxt := 950) dL_law_947 (by decide) rfl (fun _ => ?_) (fun hc => absurd rfl hc)
  exact kk
/-- case 16: odds -/
def jS_odds (R : jWd → Prop) : Prop := ∀ (w : jWd) (a0 : Int32) (a1 : Int32), R w → ∃ (v : Int64) (w1 w2 : jWd), JM yX11_odds MX11_odds 6 [.ref 0, .int a0, .int a1] w (some (.long v)) w1 ∧ JM yX12_odds MX12_odds 5 [.ref 205, .int a0, .int a1] w1 (some (.long v)) w2 ∧ R w2
set_option maxHeartbeats 4000000 in
set_option maxRecDepth 100000 in
theorem jc_odds {L i : Nat} {xs : Nat → Int32} (hL : L ≤ 4096) (hi : i + 8 ≤ L) {w w1 w2 : jWd} {v : Int64}
    (h1 : JM yX11_odds MX11_odds 6 [.ref 0, .int (xs (i + 1)), .int (xs (i + 2))] w (some (.long v)) w1) (h2 : JM yX12_odds MX12_odds 5 [.ref 205, .int (xs (i + 1)), .int (xs (i + 2))] w1 (some (.long v)) w2)
    (kk : JL L xs w2 2066 [(0, .ref 3001), (1, .ref 0), (2, .ref 205), (3, .int (nI i))] []) : JL L xs w 952 [(0, .ref 3001), (1, .ref 0), (2, .ref 205), (3, .int (nI i))] [] := by
  refine jx_aload_n dL_law_952 rfl 1 rfl ?_
  refine jx_aload_n dL_law_953 rfl 0 rfl ?_
  refine jx_iload_n dL_law_954 rfl 3 rfl ?_
  refine jx_iconst (v := (1 : Int32)) dL_law_955 (by decide) ?_
  refine jx_iadd dL_law_956 ?_
  refine jx_sld (k := 1) rfl (by omega) hL dL_law_957 ?_
  refine jx_aload_n dL_law_958 rfl 0 rfl ?_
  refine jx_iload_n dL_law_959 rfl 3 rfl ?_
  refine jx_iconst (v := (2 : Int32)) dL_law_960 (by decide) ?_
  refine jx_iadd dL_law_961 ?_
  refine jx_sld (k := 2) rfl (by omega) hL dL_law_962 ?_
  refine jx_call lkL_87 wIM_X11_odds wSE_X11_odds (q := 10) (by decide +kernel) (by decide) rfl h1 (by omega) rfl rfl (Nat.le_of_ble_eq_true rfl) dL_law_963 ?_
  refine jx_aload_n dL_law_966 rfl 2 rfl ?_
  refine jx_aload_n dL_law_967 rfl 0 rfl ?_
  refine jx_iload_n dL_law_968 rfl 3 rfl ?_
  refine jx_iconst (v := (1 : Int32)) dL_law_969 (by decide) ?_
  refine jx_iadd dL_law_970 ?_
  refine jx_sld (k := 1) rfl (by omega) hL dL_law_971 ?_
  refine jx_aload_n dL_law_972 rfl 0 rfl ?_
  refine jx_iload_n dL_law_973 rfl 3 rfl ?_
  refine jx_iconst (v := (2 : Int32)) dL_law_974 (by decide) ?_
  refine jx_iadd dL_law_975 ?_
  refine jx_sld (k := 2) rfl (by omega) hL dL_law_976 ?_
  refine jx_call lkL_91 wIM_X12_odds wSE_X12_odds (q := 11) (by decide +kernel) (by decide) rfl h2 (by omega) rfl rfl (Nat.le_of_ble_eq_true rfl) dL_law_977 ?_
  refine jx_lcmp dL_law_980 ?_
  refine jx_if_eq (tgt := 2066) (nxt := 984) dL_law_981 (by decide) rfl (fun _ => ?_) (fun hc => absurd (by simp [lg_cmp]) hc)
  exact kk
/-- case 17: matches -/
def jS_matches (R : jWd → Prop) : Prop := ∀ (w : jWd) (a0 : Int32) (a1 : Int32), R w → ∃ (v : Int32) (w1 w2 : jWd), JM yX11_matches MX11_matches 6 [.ref 0, .int a0, .int a1] w (some (.int v)) w1 ∧ JM yX12_matches MX12_matches 5 [.ref 205, .int a0, .int a1] w1 (some (.int v)) w2 ∧ R w2
set_option maxHeartbeats 4000000 in
set_option maxRecDepth 100000 in
theorem jc_matches {L i : Nat} {xs : Nat → Int32} (hL : L ≤ 4096) (hi : i + 8 ≤ L) {w w1 w2 : jWd} {v : Int32}
    (h1 : JM yX11_matches MX11_matches 6 [.ref 0, .int (xs (i + 1)), .int (xs (i + 2))] w (some (.int v)) w1) (h2 : JM yX12_matches MX12_matches 5 [.ref 205, .int (xs (i + 1)), .int (xs (i + 2))] w1 (some (.int v)) w2)
    (kk : JL L xs w2 2066 [(0, .ref 3001), (1, .ref 0), (2, .ref 205), (3, .int (nI i))] []) : JL L xs w 986 [(0, .ref 3001), (1, .ref 0), (2, .ref 205), (3, .int (nI i))] [] := by
  refine jx_aload_n dL_law_986 rfl 1 rfl ?_
  refine jx_aload_n dL_law_987 rfl 0 rfl ?_
  refine jx_iload_n dL_law_988 rfl 3 rfl ?_
  refine jx_iconst (v := (1 : Int32)) dL_law_989 (by decide) ?_
  refine jx_iadd dL_law_990 ?_
  refine jx_sld (k := 1) rfl (by omega) hL dL_law_991 ?_
  refine jx_aload_n dL_law_992 rfl 0 rfl ?_
  refine jx_iload_n dL_law_993 rfl 3 rfl ?_
  refine jx_iconst (v := (2 : Int32)) dL_law_994 (by decide) ?_
  refine jx_iadd dL_law_995 ?_
  refine jx_sld (k := 2) rfl (by omega) hL dL_law_996 ?_
  refine jx_call lkL_92 wIM_X11_matches wSE_X11_matches (q := 10) (by decide +kernel) (by decide) rfl h1 (by omega) rfl rfl (Nat.le_of_ble_eq_true rfl) dL_law_997 ?_
  refine jx_aload_n dL_law_1000 rfl 2 rfl ?_
  refine jx_aload_n dL_law_1001 rfl 0 rfl ?_
  refine jx_iload_n dL_law_1002 rfl 3 rfl ?_
  refine jx_iconst (v := (1 : Int32)) dL_law_1003 (by decide) ?_
  refine jx_iadd dL_law_1004 ?_
  refine jx_sld (k := 1) rfl (by omega) hL dL_law_1005 ?_
  refine jx_aload_n dL_law_1006 rfl 0 rfl ?_
  refine jx_iload_n dL_law_1007 rfl 3 rfl ?_
  refine jx_iconst (v := (2 : Int32)) dL_law_1008 (by decide) ?_
  refine jx_iadd dL_law_1009 ?_
  refine jx_sld (k := 2) rfl (by omega) hL dL_law_1010 ?_
  refine jx_call lkL_95 wIM_X12_matches wSE_X12_matches (q := 11) (by decide +kernel) (by decide) rfl h2 (by omega) rfl rfl (Nat.le_of_ble_eq_true rfl) dL_law_1011 ?_
  refine jx_icmp_eq (tgt := 2066) (nxt := 1017) dL_law_1014 (by decide) rfl (fun _ => ?_) (fun hc => absurd rfl hc)
  exact kk
/-- case 18: most -/
def jS_most (R : jWd → Prop) : Prop := ∀ (w : jWd) (a0 : Int32) (a1 : Int32), R w → ∃ (v : Int32) (w1 w2 : jWd), JM yX11_most MX11_most 6 [.ref 0, .int a0, .int a1] w (some (.int v)) w1 ∧ JM yX12_most MX12_most 5 [.ref 205, .int a0, .int a1] w1 (some (.int v)) w2 ∧ R w2
set_option maxHeartbeats 4000000 in
set_option maxRecDepth 100000 in
theorem jc_most {L i : Nat} {xs : Nat → Int32} (hL : L ≤ 4096) (hi : i + 8 ≤ L) {w w1 w2 : jWd} {v : Int32}
    (h1 : JM yX11_most MX11_most 6 [.ref 0, .int (xs (i + 1)), .int (xs (i + 2))] w (some (.int v)) w1) (h2 : JM yX12_most MX12_most 5 [.ref 205, .int (xs (i + 1)), .int (xs (i + 2))] w1 (some (.int v)) w2)
    (kk : JL L xs w2 2066 [(0, .ref 3001), (1, .ref 0), (2, .ref 205), (3, .int (nI i))] []) : JL L xs w 1019 [(0, .ref 3001), (1, .ref 0), (2, .ref 205), (3, .int (nI i))] [] := by
  refine jx_aload_n dL_law_1019 rfl 1 rfl ?_
  refine jx_aload_n dL_law_1020 rfl 0 rfl ?_
  refine jx_iload_n dL_law_1021 rfl 3 rfl ?_
  refine jx_iconst (v := (1 : Int32)) dL_law_1022 (by decide) ?_
  refine jx_iadd dL_law_1023 ?_
  refine jx_sld (k := 1) rfl (by omega) hL dL_law_1024 ?_
  refine jx_aload_n dL_law_1025 rfl 0 rfl ?_
  refine jx_iload_n dL_law_1026 rfl 3 rfl ?_
  refine jx_iconst (v := (2 : Int32)) dL_law_1027 (by decide) ?_
  refine jx_iadd dL_law_1028 ?_
  refine jx_sld (k := 2) rfl (by omega) hL dL_law_1029 ?_
  refine jx_call lkL_96 wIM_X11_most wSE_X11_most (q := 10) (by decide +kernel) (by decide) rfl h1 (by omega) rfl rfl (Nat.le_of_ble_eq_true rfl) dL_law_1030 ?_
  refine jx_aload_n dL_law_1033 rfl 2 rfl ?_
  refine jx_aload_n dL_law_1034 rfl 0 rfl ?_
  refine jx_iload_n dL_law_1035 rfl 3 rfl ?_
  refine jx_iconst (v := (1 : Int32)) dL_law_1036 (by decide) ?_
  refine jx_iadd dL_law_1037 ?_
  refine jx_sld (k := 1) rfl (by omega) hL dL_law_1038 ?_
  refine jx_aload_n dL_law_1039 rfl 0 rfl ?_
  refine jx_iload_n dL_law_1040 rfl 3 rfl ?_
  refine jx_iconst (v := (2 : Int32)) dL_law_1041 (by decide) ?_
  refine jx_iadd dL_law_1042 ?_
  refine jx_sld (k := 2) rfl (by omega) hL dL_law_1043 ?_
  refine jx_call lkL_99 wIM_X12_most wSE_X12_most (q := 11) (by decide +kernel) (by decide) rfl h2 (by omega) rfl rfl (Nat.le_of_ble_eq_true rfl) dL_law_1044 ?_
  refine jx_icmp_eq (tgt := 2066) (nxt := 1050) dL_law_1047 (by decide) rfl (fun _ => ?_) (fun hc => absurd rfl hc)
  exact kk
/-- case 19: adds -/
def jS_adds (R : jWd → Prop) : Prop := ∀ (w : jWd) (a0 : Int32) (a1 : Int32), R w → ∃ (v : Int32) (w1 w2 : jWd), JM yX11_adds MX11_adds 8 [.ref 0, .int a0, .int a1] w (some (.int v)) w1 ∧ JM yX12_adds MX12_adds 8 [.ref 205, .int a0, .int a1] w1 (some (.int v)) w2 ∧ R w2
set_option maxHeartbeats 4000000 in
set_option maxRecDepth 100000 in
theorem jc_adds {L i : Nat} {xs : Nat → Int32} (hL : L ≤ 4096) (hi : i + 8 ≤ L) {w w1 w2 : jWd} {v : Int32}
    (h1 : JM yX11_adds MX11_adds 8 [.ref 0, .int (xs (i + 1)), .int (xs (i + 2))] w (some (.int v)) w1) (h2 : JM yX12_adds MX12_adds 8 [.ref 205, .int (xs (i + 1)), .int (xs (i + 2))] w1 (some (.int v)) w2)
    (kk : JL L xs w2 2066 [(0, .ref 3001), (1, .ref 0), (2, .ref 205), (3, .int (nI i))] []) : JL L xs w 1052 [(0, .ref 3001), (1, .ref 0), (2, .ref 205), (3, .int (nI i))] [] := by
  refine jx_aload_n dL_law_1052 rfl 1 rfl ?_
  refine jx_aload_n dL_law_1053 rfl 0 rfl ?_
  refine jx_iload_n dL_law_1054 rfl 3 rfl ?_
  refine jx_iconst (v := (1 : Int32)) dL_law_1055 (by decide) ?_
  refine jx_iadd dL_law_1056 ?_
  refine jx_sld (k := 1) rfl (by omega) hL dL_law_1057 ?_
  refine jx_aload_n dL_law_1058 rfl 0 rfl ?_
  refine jx_iload_n dL_law_1059 rfl 3 rfl ?_
  refine jx_iconst (v := (2 : Int32)) dL_law_1060 (by decide) ?_
  refine jx_iadd dL_law_1061 ?_
  refine jx_sld (k := 2) rfl (by omega) hL dL_law_1062 ?_
  refine jx_call lkL_100 wIM_X11_adds wSE_X11_adds (q := 10) (by decide +kernel) (by decide) rfl h1 (by omega) rfl rfl (Nat.le_of_ble_eq_true rfl) dL_law_1063 ?_
  refine jx_aload_n dL_law_1066 rfl 2 rfl ?_
  refine jx_aload_n dL_law_1067 rfl 0 rfl ?_
  refine jx_iload_n dL_law_1068 rfl 3 rfl ?_
  refine jx_iconst (v := (1 : Int32)) dL_law_1069 (by decide) ?_
  refine jx_iadd dL_law_1070 ?_
  refine jx_sld (k := 1) rfl (by omega) hL dL_law_1071 ?_
  refine jx_aload_n dL_law_1072 rfl 0 rfl ?_
  refine jx_iload_n dL_law_1073 rfl 3 rfl ?_
  refine jx_iconst (v := (2 : Int32)) dL_law_1074 (by decide) ?_
  refine jx_iadd dL_law_1075 ?_
  refine jx_sld (k := 2) rfl (by omega) hL dL_law_1076 ?_
  refine jx_call lkL_103 wIM_X12_adds wSE_X12_adds (q := 11) (by decide +kernel) (by decide) rfl h2 (by omega) rfl rfl (Nat.le_of_ble_eq_true rfl) dL_law_1077 ?_
  refine jx_icmp_eq (tgt := 2066) (nxt := 1083) dL_law_1080 (by decide) rfl (fun _ => ?_) (fun hc => absurd rfl hc)
  exact kk
/-- case 20: added -/
def jS_added (R : jWd → Prop) : Prop := ∀ (w : jWd) (a0 : Int32) (a1 : Int32) (a2 : Int32), R w → ∃ (v : Int32) (w1 w2 : jWd), JM yX11_added MX11_added 8 [.ref 0, .int a0, .int a1, .int a2] w (some (.int v)) w1 ∧ JM yX12_added MX12_added 8 [.ref 205, .int a0, .int a1, .int a2] w1 (some (.int v)) w2 ∧ R w2
set_option maxHeartbeats 4000000 in
set_option maxRecDepth 100000 in
theorem jc_added {L i : Nat} {xs : Nat → Int32} (hL : L ≤ 4096) (hi : i + 8 ≤ L) {w w1 w2 : jWd} {v : Int32}
    (h1 : JM yX11_added MX11_added 8 [.ref 0, .int (xs (i + 1)), .int (xs (i + 2)), .int (xs (i + 3))] w (some (.int v)) w1) (h2 : JM yX12_added MX12_added 8 [.ref 205, .int (xs (i + 1)), .int (xs (i + 2)), .int (xs (i + 3))] w1 (some (.int v)) w2)
    (kk : JL L xs w2 2066 [(0, .ref 3001), (1, .ref 0), (2, .ref 205), (3, .int (nI i))] []) : JL L xs w 1085 [(0, .ref 3001), (1, .ref 0), (2, .ref 205), (3, .int (nI i))] [] := by
  refine jx_aload_n dL_law_1085 rfl 1 rfl ?_
  refine jx_aload_n dL_law_1086 rfl 0 rfl ?_
  refine jx_iload_n dL_law_1087 rfl 3 rfl ?_
  refine jx_iconst (v := (1 : Int32)) dL_law_1088 (by decide) ?_
  refine jx_iadd dL_law_1089 ?_
  refine jx_sld (k := 1) rfl (by omega) hL dL_law_1090 ?_
  refine jx_aload_n dL_law_1091 rfl 0 rfl ?_
  refine jx_iload_n dL_law_1092 rfl 3 rfl ?_
  refine jx_iconst (v := (2 : Int32)) dL_law_1093 (by decide) ?_
  refine jx_iadd dL_law_1094 ?_
  refine jx_sld (k := 2) rfl (by omega) hL dL_law_1095 ?_
  refine jx_aload_n dL_law_1096 rfl 0 rfl ?_
  refine jx_iload_n dL_law_1097 rfl 3 rfl ?_
  refine jx_iconst (v := (3 : Int32)) dL_law_1098 (by decide) ?_
  refine jx_iadd dL_law_1099 ?_
  refine jx_sld (k := 3) rfl (by omega) hL dL_law_1100 ?_
  refine jx_call lkL_104 wIM_X11_added wSE_X11_added (q := 10) (by decide +kernel) (by decide) rfl h1 (by omega) rfl rfl (Nat.le_of_ble_eq_true rfl) dL_law_1101 ?_
  refine jx_aload_n dL_law_1104 rfl 2 rfl ?_
  refine jx_aload_n dL_law_1105 rfl 0 rfl ?_
  refine jx_iload_n dL_law_1106 rfl 3 rfl ?_
  refine jx_iconst (v := (1 : Int32)) dL_law_1107 (by decide) ?_
  refine jx_iadd dL_law_1108 ?_
  refine jx_sld (k := 1) rfl (by omega) hL dL_law_1109 ?_
  refine jx_aload_n dL_law_1110 rfl 0 rfl ?_
  refine jx_iload_n dL_law_1111 rfl 3 rfl ?_
  refine jx_iconst (v := (2 : Int32)) dL_law_1112 (by decide) ?_
  refine jx_iadd dL_law_1113 ?_
  refine jx_sld (k := 2) rfl (by omega) hL dL_law_1114 ?_
  refine jx_aload_n dL_law_1115 rfl 0 rfl ?_
  refine jx_iload_n dL_law_1116 rfl 3 rfl ?_
  refine jx_iconst (v := (3 : Int32)) dL_law_1117 (by decide) ?_
  refine jx_iadd dL_law_1118 ?_
  refine jx_sld (k := 3) rfl (by omega) hL dL_law_1119 ?_
  refine jx_call lkL_108 wIM_X12_added wSE_X12_added (q := 11) (by decide +kernel) (by decide) rfl h2 (by omega) rfl rfl (Nat.le_of_ble_eq_true rfl) dL_law_1120 ?_
  refine jx_icmp_eq (tgt := 2066) (nxt := 1126) dL_law_1123 (by decide) rfl (fun _ => ?_) (fun hc => absurd rfl hc)
  exact kk
/-- case 21: year -/
def jS_year (R : jWd → Prop) : Prop := ∀ (w : jWd) (a0 : Int32) (a1 : Int32), R w → ∃ (v : Int32) (w1 w2 : jWd), JM yX11_year MX11_year 2 [.ref 0, .int a0, .int a1] w (some (.int v)) w1 ∧ JM yX12_year MX12_year 2 [.ref 205, .int a0, .int a1] w1 (some (.int v)) w2 ∧ R w2
set_option maxHeartbeats 4000000 in
set_option maxRecDepth 100000 in
theorem jc_year {L i : Nat} {xs : Nat → Int32} (hL : L ≤ 4096) (hi : i + 8 ≤ L) {w w1 w2 : jWd} {v : Int32}
    (h1 : JM yX11_year MX11_year 2 [.ref 0, .int (xs (i + 1)), .int (xs (i + 2))] w (some (.int v)) w1) (h2 : JM yX12_year MX12_year 2 [.ref 205, .int (xs (i + 1)), .int (xs (i + 2))] w1 (some (.int v)) w2)
    (kk : JL L xs w2 2066 [(0, .ref 3001), (1, .ref 0), (2, .ref 205), (3, .int (nI i))] []) : JL L xs w 1128 [(0, .ref 3001), (1, .ref 0), (2, .ref 205), (3, .int (nI i))] [] := by
  refine jx_aload_n dL_law_1128 rfl 1 rfl ?_
  refine jx_aload_n dL_law_1129 rfl 0 rfl ?_
  refine jx_iload_n dL_law_1130 rfl 3 rfl ?_
  refine jx_iconst (v := (1 : Int32)) dL_law_1131 (by decide) ?_
  refine jx_iadd dL_law_1132 ?_
  refine jx_sld (k := 1) rfl (by omega) hL dL_law_1133 ?_
  refine jx_aload_n dL_law_1134 rfl 0 rfl ?_
  refine jx_iload_n dL_law_1135 rfl 3 rfl ?_
  refine jx_iconst (v := (2 : Int32)) dL_law_1136 (by decide) ?_
  refine jx_iadd dL_law_1137 ?_
  refine jx_sld (k := 2) rfl (by omega) hL dL_law_1138 ?_
  refine jx_call lkL_109 wIM_X11_year wSE_X11_year (q := 10) (by decide +kernel) (by decide) rfl h1 (by omega) rfl rfl (Nat.le_of_ble_eq_true rfl) dL_law_1139 ?_
  refine jx_aload_n dL_law_1142 rfl 2 rfl ?_
  refine jx_aload_n dL_law_1143 rfl 0 rfl ?_
  refine jx_iload_n dL_law_1144 rfl 3 rfl ?_
  refine jx_iconst (v := (1 : Int32)) dL_law_1145 (by decide) ?_
  refine jx_iadd dL_law_1146 ?_
  refine jx_sld (k := 1) rfl (by omega) hL dL_law_1147 ?_
  refine jx_aload_n dL_law_1148 rfl 0 rfl ?_
  refine jx_iload_n dL_law_1149 rfl 3 rfl ?_
  refine jx_iconst (v := (2 : Int32)) dL_law_1150 (by decide) ?_
  refine jx_iadd dL_law_1151 ?_
  refine jx_sld (k := 2) rfl (by omega) hL dL_law_1152 ?_
  refine jx_call lkL_112 wIM_X12_year wSE_X12_year (q := 11) (by decide +kernel) (by decide) rfl h2 (by omega) rfl rfl (Nat.le_of_ble_eq_true rfl) dL_law_1153 ?_
  refine jx_icmp_eq (tgt := 2066) (nxt := 1159) dL_law_1156 (by decide) rfl (fun _ => ?_) (fun hc => absurd rfl hc)
  exact kk
/-- case 22: version -/
def jS_version (R : jWd → Prop) : Prop := ∀ (w : jWd) (a0 : Int64) (a1 : Int64) (a2 : Int32) (a3 : Int32), R w → ∃ (v : Int32) (w1 w2 : jWd), JM yX11_version MX11_version 4 [.ref 0, .long a0, .long a1, .int a2, .int a3] w (some (.int v)) w1 ∧ JM yX12_version MX12_version 4 [.ref 205, .long a0, .long a1, .int a2, .int a3] w1 (some (.int v)) w2 ∧ R w2
set_option maxHeartbeats 4000000 in
set_option maxRecDepth 100000 in
theorem jc_version {L i : Nat} {xs : Nat → Int32} (hL : L ≤ 4096) (hi : i + 8 ≤ L) {w w1 w2 : jWd} {v : Int32}
    (h1 : JM yX11_version MX11_version 4 [.ref 0, .long (lkL (xs (i + 1)) (xs (i + 2))), .long (lkL (xs (i + 3)) (xs (i + 4))), .int (xs (i + 5)), .int (xs (i + 6))] w (some (.int v)) w1) (h2 : JM yX12_version MX12_version 4 [.ref 205, .long (lkL (xs (i + 1)) (xs (i + 2))), .long (lkL (xs (i + 3)) (xs (i + 4))), .int (xs (i + 5)), .int (xs (i + 6))] w1 (some (.int v)) w2)
    (kk : JL L xs w2 2066 [(0, .ref 3001), (1, .ref 0), (2, .ref 205), (3, .int (nI i))] []) : JL L xs w 1161 [(0, .ref 3001), (1, .ref 0), (2, .ref 205), (3, .int (nI i))] [] := by
  refine jx_aload_n dL_law_1161 rfl 1 rfl ?_
  refine jx_aload_n dL_law_1162 rfl 0 rfl ?_
  refine jx_iload_n dL_law_1163 rfl 3 rfl ?_
  refine jx_iconst (v := (1 : Int32)) dL_law_1164 (by decide) ?_
  refine jx_iadd dL_law_1165 ?_
  refine jx_sld (k := 1) rfl (by omega) hL dL_law_1166 ?_
  refine jx_i2l dL_law_1167 ?_
  refine jx_bipush (v := (32 : Int32)) dL_law_1168 (by decide) ?_
  refine jx_lshl dL_law_1170 ?_
  refine jx_aload_n dL_law_1171 rfl 0 rfl ?_
  refine jx_iload_n dL_law_1172 rfl 3 rfl ?_
  refine jx_iconst (v := (2 : Int32)) dL_law_1173 (by decide) ?_
  refine jx_iadd dL_law_1174 ?_
  refine jx_sld (k := 2) rfl (by omega) hL dL_law_1175 ?_
  refine jx_i2l dL_law_1176 ?_
  refine jx_ldc2 xCL dL_law_1177 ?_
  refine jx_land dL_law_1180 ?_
  refine jx_lor dL_law_1181 ?_
  refine jx_aload_n dL_law_1182 rfl 0 rfl ?_
  refine jx_iload_n dL_law_1183 rfl 3 rfl ?_
  refine jx_iconst (v := (3 : Int32)) dL_law_1184 (by decide) ?_
  refine jx_iadd dL_law_1185 ?_
  refine jx_sld (k := 3) rfl (by omega) hL dL_law_1186 ?_
  refine jx_i2l dL_law_1187 ?_
  refine jx_bipush (v := (32 : Int32)) dL_law_1188 (by decide) ?_
  refine jx_lshl dL_law_1190 ?_
  refine jx_aload_n dL_law_1191 rfl 0 rfl ?_
  refine jx_iload_n dL_law_1192 rfl 3 rfl ?_
  refine jx_iconst (v := (4 : Int32)) dL_law_1193 (by decide) ?_
  refine jx_iadd dL_law_1194 ?_
  refine jx_sld (k := 4) rfl (by omega) hL dL_law_1195 ?_
  refine jx_i2l dL_law_1196 ?_
  refine jx_ldc2 xCL dL_law_1197 ?_
  refine jx_land dL_law_1200 ?_
  refine jx_lor dL_law_1201 ?_
  refine jx_aload_n dL_law_1202 rfl 0 rfl ?_
  refine jx_iload_n dL_law_1203 rfl 3 rfl ?_
  refine jx_iconst (v := (5 : Int32)) dL_law_1204 (by decide) ?_
  refine jx_iadd dL_law_1205 ?_
  refine jx_sld (k := 5) rfl (by omega) hL dL_law_1206 ?_
  refine jx_aload_n dL_law_1207 rfl 0 rfl ?_
  refine jx_iload_n dL_law_1208 rfl 3 rfl ?_
  refine jx_bipush (v := (6 : Int32)) dL_law_1209 (by decide) ?_
  refine jx_iadd dL_law_1211 ?_
  refine jx_sld (k := 6) rfl (by omega) hL dL_law_1212 ?_
  refine jx_call lkL_113 wIM_X11_version wSE_X11_version (q := 10) (by decide +kernel) (by decide) rfl h1 (by omega) rfl rfl (Nat.le_of_ble_eq_true rfl) dL_law_1213 ?_
  refine jx_aload_n dL_law_1216 rfl 2 rfl ?_
  refine jx_aload_n dL_law_1217 rfl 0 rfl ?_
  refine jx_iload_n dL_law_1218 rfl 3 rfl ?_
  refine jx_iconst (v := (1 : Int32)) dL_law_1219 (by decide) ?_
  refine jx_iadd dL_law_1220 ?_
  refine jx_sld (k := 1) rfl (by omega) hL dL_law_1221 ?_
  refine jx_i2l dL_law_1222 ?_
  refine jx_bipush (v := (32 : Int32)) dL_law_1223 (by decide) ?_
  refine jx_lshl dL_law_1225 ?_
  refine jx_aload_n dL_law_1226 rfl 0 rfl ?_
  refine jx_iload_n dL_law_1227 rfl 3 rfl ?_
  refine jx_iconst (v := (2 : Int32)) dL_law_1228 (by decide) ?_
  refine jx_iadd dL_law_1229 ?_
  refine jx_sld (k := 2) rfl (by omega) hL dL_law_1230 ?_
  refine jx_i2l dL_law_1231 ?_
  refine jx_ldc2 xCL dL_law_1232 ?_
  refine jx_land dL_law_1235 ?_
  refine jx_lor dL_law_1236 ?_
  refine jx_aload_n dL_law_1237 rfl 0 rfl ?_
  refine jx_iload_n dL_law_1238 rfl 3 rfl ?_
  refine jx_iconst (v := (3 : Int32)) dL_law_1239 (by decide) ?_
  refine jx_iadd dL_law_1240 ?_
  refine jx_sld (k := 3) rfl (by omega) hL dL_law_1241 ?_
  refine jx_i2l dL_law_1242 ?_
  refine jx_bipush (v := (32 : Int32)) dL_law_1243 (by decide) ?_
  refine jx_lshl dL_law_1245 ?_
  refine jx_aload_n dL_law_1246 rfl 0 rfl ?_
  refine jx_iload_n dL_law_1247 rfl 3 rfl ?_
  refine jx_iconst (v := (4 : Int32)) dL_law_1248 (by decide) ?_
  refine jx_iadd dL_law_1249 ?_
  refine jx_sld (k := 4) rfl (by omega) hL dL_law_1250 ?_
  refine jx_i2l dL_law_1251 ?_
  refine jx_ldc2 xCL dL_law_1252 ?_
  refine jx_land dL_law_1255 ?_
  refine jx_lor dL_law_1256 ?_
  refine jx_aload_n dL_law_1257 rfl 0 rfl ?_
  refine jx_iload_n dL_law_1258 rfl 3 rfl ?_
  refine jx_iconst (v := (5 : Int32)) dL_law_1259 (by decide) ?_
  refine jx_iadd dL_law_1260 ?_
  refine jx_sld (k := 5) rfl (by omega) hL dL_law_1261 ?_
  refine jx_aload_n dL_law_1262 rfl 0 rfl ?_
  refine jx_iload_n dL_law_1263 rfl 3 rfl ?_
  refine jx_bipush (v := (6 : Int32)) dL_law_1264 (by decide) ?_
  refine jx_iadd dL_law_1266 ?_
  refine jx_sld (k := 6) rfl (by omega) hL dL_law_1267 ?_
  refine jx_call lkL_117 wIM_X12_version wSE_X12_version (q := 11) (by decide +kernel) (by decide) rfl h2 (by omega) rfl rfl (Nat.le_of_ble_eq_true rfl) dL_law_1268 ?_
  refine jx_icmp_eq (tgt := 2066) (nxt := 1274) dL_law_1271 (by decide) rfl (fun _ => ?_) (fun hc => absurd rfl hc)
  exact kk
/-- case 23: which -/
def jS_which (R : jWd → Prop) : Prop := ∀ (w : jWd) (a0 : Int32), R w → ∃ (v : Int32) (w1 w2 : jWd), JM yX11_which MX11_which 7 [.ref 0, .int a0] w (some (.int v)) w1 ∧ JM yX12_which MX12_which 5 [.ref 205, .int a0] w1 (some (.int v)) w2 ∧ R w2
set_option maxHeartbeats 4000000 in
set_option maxRecDepth 100000 in
theorem jc_which {L i : Nat} {xs : Nat → Int32} (hL : L ≤ 4096) (hi : i + 8 ≤ L) {w w1 w2 : jWd} {v : Int32}
    (h1 : JM yX11_which MX11_which 7 [.ref 0, .int (xs (i + 1))] w (some (.int v)) w1) (h2 : JM yX12_which MX12_which 5 [.ref 205, .int (xs (i + 1))] w1 (some (.int v)) w2)
    (kk : JL L xs w2 2066 [(0, .ref 3001), (1, .ref 0), (2, .ref 205), (3, .int (nI i))] []) : JL L xs w 1276 [(0, .ref 3001), (1, .ref 0), (2, .ref 205), (3, .int (nI i))] [] := by
  refine jx_aload_n dL_law_1276 rfl 1 rfl ?_
  refine jx_aload_n dL_law_1277 rfl 0 rfl ?_
  refine jx_iload_n dL_law_1278 rfl 3 rfl ?_
  refine jx_iconst (v := (1 : Int32)) dL_law_1279 (by decide) ?_
  refine jx_iadd dL_law_1280 ?_
  refine jx_sld (k := 1) rfl (by omega) hL dL_law_1281 ?_
  refine jx_call lkL_118 wIM_X11_which wSE_X11_which (q := 10) (by decide +kernel) (by decide) rfl h1 (by omega) rfl rfl (Nat.le_of_ble_eq_true rfl) dL_law_1282 ?_
  refine jx_aload_n dL_law_1285 rfl 2 rfl ?_
  refine jx_aload_n dL_law_1286 rfl 0 rfl ?_
  refine jx_iload_n dL_law_1287 rfl 3 rfl ?_
  refine jx_iconst (v := (1 : Int32)) dL_law_1288 (by decide) ?_
  refine jx_iadd dL_law_1289 ?_
  refine jx_sld (k := 1) rfl (by omega) hL dL_law_1290 ?_
  refine jx_call lkL_121 wIM_X12_which wSE_X12_which (q := 11) (by decide +kernel) (by decide) rfl h2 (by omega) rfl rfl (Nat.le_of_ble_eq_true rfl) dL_law_1291 ?_
  refine jx_icmp_eq (tgt := 2066) (nxt := 1297) dL_law_1294 (by decide) rfl (fun _ => ?_) (fun hc => absurd rfl hc)
  exact kk
/-- case 24: answer -/
def jS_answer (R : jWd → Prop) : Prop := ∀ (w : jWd) (a0 : Int32) (a1 : Int32) (a2 : Int32) (a3 : Int32) (a4 : Int32) (a5 : Int64), R w → ∃ (v : Int32) (w1 w2 : jWd), JM yX11_answer MX11_answer 4 [.ref 0, .int a0, .int a1, .int a2, .int a3, .int a4, .long a5] w (some (.int v)) w1 ∧ JM yX12_answer MX12_answer 5 [.ref 205, .int a0, .int a1, .int a2, .int a3, .int a4, .long a5] w1 (some (.int v)) w2 ∧ R w2
set_option maxHeartbeats 4000000 in
set_option maxRecDepth 100000 in
theorem jc_answer {L i : Nat} {xs : Nat → Int32} (hL : L ≤ 4096) (hi : i + 8 ≤ L) {w w1 w2 : jWd} {v : Int32}
    (h1 : JM yX11_answer MX11_answer 4 [.ref 0, .int (xs (i + 1)), .int (xs (i + 2)), .int (xs (i + 3)), .int (xs (i + 4)), .int (xs (i + 5)), .long (lkL (xs (i + 6)) (xs (i + 7)))] w (some (.int v)) w1) (h2 : JM yX12_answer MX12_answer 5 [.ref 205, .int (xs (i + 1)), .int (xs (i + 2)), .int (xs (i + 3)), .int (xs (i + 4)), .int (xs (i + 5)), .long (lkL (xs (i + 6)) (xs (i + 7)))] w1 (some (.int v)) w2)
    (kk : JL L xs w2 2066 [(0, .ref 3001), (1, .ref 0), (2, .ref 205), (3, .int (nI i))] []) : JL L xs w 1299 [(0, .ref 3001), (1, .ref 0), (2, .ref 205), (3, .int (nI i))] [] := by
  refine jx_aload_n dL_law_1299 rfl 1 rfl ?_
  refine jx_aload_n dL_law_1300 rfl 0 rfl ?_
  refine jx_iload_n dL_law_1301 rfl 3 rfl ?_
  refine jx_iconst (v := (1 : Int32)) dL_law_1302 (by decide) ?_
  refine jx_iadd dL_law_1303 ?_
  refine jx_sld (k := 1) rfl (by omega) hL dL_law_1304 ?_
  refine jx_aload_n dL_law_1305 rfl 0 rfl ?_
  refine jx_iload_n dL_law_1306 rfl 3 rfl ?_
  refine jx_iconst (v := (2 : Int32)) dL_law_1307 (by decide) ?_
  refine jx_iadd dL_law_1308 ?_
  refine jx_sld (k := 2) rfl (by omega) hL dL_law_1309 ?_
  refine jx_aload_n dL_law_1310 rfl 0 rfl ?_
  refine jx_iload_n dL_law_1311 rfl 3 rfl ?_
  refine jx_iconst (v := (3 : Int32)) dL_law_1312 (by decide) ?_
  refine jx_iadd dL_law_1313 ?_
  refine jx_sld (k := 3) rfl (by omega) hL dL_law_1314 ?_
  refine jx_aload_n dL_law_1315 rfl 0 rfl ?_
  refine jx_iload_n dL_law_1316 rfl 3 rfl ?_
  refine jx_iconst (v := (4 : Int32)) dL_law_1317 (by decide) ?_
  refine jx_iadd dL_law_1318 ?_
  refine jx_sld (k := 4) rfl (by omega) hL dL_law_1319 ?_
  refine jx_aload_n dL_law_1320 rfl 0 rfl ?_
  refine jx_iload_n dL_law_1321 rfl 3 rfl ?_
  refine jx_iconst (v := (5 : Int32)) dL_law_1322 (by decide) ?_
  refine jx_iadd dL_law_1323 ?_
  refine jx_sld (k := 5) rfl (by omega) hL dL_law_1324 ?_
  refine jx_aload_n dL_law_1325 rfl 0 rfl ?_
  refine jx_iload_n dL_law_1326 rfl 3 rfl ?_
  refine jx_bipush (v := (6 : Int32)) dL_law_1327 (by decide) ?_
  refine jx_iadd dL_law_1329 ?_
  refine jx_sld (k := 6) rfl (by omega) hL dL_law_1330 ?_
  refine jx_i2l dL_law_1331 ?_
  refine jx_bipush (v := (32 : Int32)) dL_law_1332 (by decide) ?_
  refine jx_lshl dL_law_1334 ?_
  refine jx_aload_n dL_law_1335 rfl 0 rfl ?_
  refine jx_iload_n dL_law_1336 rfl 3 rfl ?_
  refine jx_bipush (v := (7 : Int32)) dL_law_1337 (by decide) ?_
  refine jx_iadd dL_law_1339 ?_
  refine jx_sld (k := 7) rfl (by omega) hL dL_law_1340 ?_
  refine jx_i2l dL_law_1341 ?_
  refine jx_ldc2 xCL dL_law_1342 ?_
  refine jx_land dL_law_1345 ?_
  refine jx_lor dL_law_1346 ?_
  refine jx_call lkL_122 wIM_X11_answer wSE_X11_answer (q := 10) (by decide +kernel) (by decide) rfl h1 (by omega) rfl rfl (Nat.le_of_ble_eq_true rfl) dL_law_1347 ?_
  refine jx_aload_n dL_law_1350 rfl 2 rfl ?_
  refine jx_aload_n dL_law_1351 rfl 0 rfl ?_
  refine jx_iload_n dL_law_1352 rfl 3 rfl ?_
  refine jx_iconst (v := (1 : Int32)) dL_law_1353 (by decide) ?_
  refine jx_iadd dL_law_1354 ?_
  refine jx_sld (k := 1) rfl (by omega) hL dL_law_1355 ?_
  refine jx_aload_n dL_law_1356 rfl 0 rfl ?_
  refine jx_iload_n dL_law_1357 rfl 3 rfl ?_
  refine jx_iconst (v := (2 : Int32)) dL_law_1358 (by decide) ?_
  refine jx_iadd dL_law_1359 ?_
  refine jx_sld (k := 2) rfl (by omega) hL dL_law_1360 ?_
  refine jx_aload_n dL_law_1361 rfl 0 rfl ?_
  refine jx_iload_n dL_law_1362 rfl 3 rfl ?_
  refine jx_iconst (v := (3 : Int32)) dL_law_1363 (by decide) ?_
  refine jx_iadd dL_law_1364 ?_
  refine jx_sld (k := 3) rfl (by omega) hL dL_law_1365 ?_
  refine jx_aload_n dL_law_1366 rfl 0 rfl ?_
  refine jx_iload_n dL_law_1367 rfl 3 rfl ?_
  refine jx_iconst (v := (4 : Int32)) dL_law_1368 (by decide) ?_
  refine jx_iadd dL_law_1369 ?_
  refine jx_sld (k := 4) rfl (by omega) hL dL_law_1370 ?_
  refine jx_aload_n dL_law_1371 rfl 0 rfl ?_
  refine jx_iload_n dL_law_1372 rfl 3 rfl ?_
  refine jx_iconst (v := (5 : Int32)) dL_law_1373 (by decide) ?_
  refine jx_iadd dL_law_1374 ?_
  refine jx_sld (k := 5) rfl (by omega) hL dL_law_1375 ?_
  refine jx_aload_n dL_law_1376 rfl 0 rfl ?_
  refine jx_iload_n dL_law_1377 rfl 3 rfl ?_
  refine jx_bipush (v := (6 : Int32)) dL_law_1378 (by decide) ?_
  refine jx_iadd dL_law_1380 ?_
  refine jx_sld (k := 6) rfl (by omega) hL dL_law_1381 ?_
  refine jx_i2l dL_law_1382 ?_
  refine jx_bipush (v := (32 : Int32)) dL_law_1383 (by decide) ?_
  refine jx_lshl dL_law_1385 ?_
  refine jx_aload_n dL_law_1386 rfl 0 rfl ?_
  refine jx_iload_n dL_law_1387 rfl 3 rfl ?_
  refine jx_bipush (v := (7 : Int32)) dL_law_1388 (by decide) ?_
  refine jx_iadd dL_law_1390 ?_
  refine jx_sld (k := 7) rfl (by omega) hL dL_law_1391 ?_
  refine jx_i2l dL_law_1392 ?_
  refine jx_ldc2 xCL dL_law_1393 ?_
  refine jx_land dL_law_1396 ?_
  refine jx_lor dL_law_1397 ?_
  refine jx_call lkL_126 wIM_X12_answer wSE_X12_answer (q := 11) (by decide +kernel) (by decide) rfl h2 (by omega) rfl rfl (Nat.le_of_ble_eq_true rfl) dL_law_1398 ?_
  refine jx_icmp_eq (tgt := 2066) (nxt := 1404) dL_law_1401 (by decide) rfl (fun _ => ?_) (fun hc => absurd rfl hc)
  exact kk
/-- case 25: back -/
def jS_back (R : jWd → Prop) : Prop := ∀ (w : jWd) (a0 : Int32), R w → ∃ (v : Int32) (w1 w2 : jWd), JM yX11_back MX11_back 6 [.ref 0, .int a0] w (some (.int v)) w1 ∧ JM yX12_back MX12_back 6 [.ref 205, .int a0] w1 (some (.int v)) w2 ∧ R w2
set_option maxHeartbeats 4000000 in
set_option maxRecDepth 100000 in
theorem jc_back {L i : Nat} {xs : Nat → Int32} (hL : L ≤ 4096) (hi : i + 8 ≤ L) {w w1 w2 : jWd} {v : Int32}
    (h1 : JM yX11_back MX11_back 6 [.ref 0, .int (xs (i + 1))] w (some (.int v)) w1) (h2 : JM yX12_back MX12_back 6 [.ref 205, .int (xs (i + 1))] w1 (some (.int v)) w2)
    (kk : JL L xs w2 2066 [(0, .ref 3001), (1, .ref 0), (2, .ref 205), (3, .int (nI i))] []) : JL L xs w 1406 [(0, .ref 3001), (1, .ref 0), (2, .ref 205), (3, .int (nI i))] [] := by
  refine jx_aload_n dL_law_1406 rfl 1 rfl ?_
  refine jx_aload_n dL_law_1407 rfl 0 rfl ?_
  refine jx_iload_n dL_law_1408 rfl 3 rfl ?_
  refine jx_iconst (v := (1 : Int32)) dL_law_1409 (by decide) ?_
  refine jx_iadd dL_law_1410 ?_
  refine jx_sld (k := 1) rfl (by omega) hL dL_law_1411 ?_
  refine jx_call lkL_127 wIM_X11_back wSE_X11_back (q := 10) (by decide +kernel) (by decide) rfl h1 (by omega) rfl rfl (Nat.le_of_ble_eq_true rfl) dL_law_1412 ?_
  refine jx_aload_n dL_law_1415 rfl 2 rfl ?_
  refine jx_aload_n dL_law_1416 rfl 0 rfl ?_
  refine jx_iload_n dL_law_1417 rfl 3 rfl ?_
  refine jx_iconst (v := (1 : Int32)) dL_law_1418 (by decide) ?_
  refine jx_iadd dL_law_1419 ?_
  refine jx_sld (k := 1) rfl (by omega) hL dL_law_1420 ?_
  refine jx_call lkL_130 wIM_X12_back wSE_X12_back (q := 11) (by decide +kernel) (by decide) rfl h2 (by omega) rfl rfl (Nat.le_of_ble_eq_true rfl) dL_law_1421 ?_
  refine jx_icmp_eq (tgt := 2066) (nxt := 1427) dL_law_1424 (by decide) rfl (fun _ => ?_) (fun hc => absurd rfl hc)
  exact kk
/-- case 26: backOdds -/
def jS_backOdds (R : jWd → Prop) : Prop := ∀ (w : jWd) (a0 : Int32) (a1 : Int32), R w → ∃ (v : Int32) (w1 w2 : jWd), JM yX11_backOdds MX11_backOdds 5 [.ref 0, .int a0, .int a1] w (some (.int v)) w1 ∧ JM yX12_backOdds MX12_backOdds 5 [.ref 205, .int a0, .int a1] w1 (some (.int v)) w2 ∧ R w2
set_option maxHeartbeats 4000000 in
set_option maxRecDepth 100000 in
theorem jc_backOdds {L i : Nat} {xs : Nat → Int32} (hL : L ≤ 4096) (hi : i + 8 ≤ L) {w w1 w2 : jWd} {v : Int32}
    (h1 : JM yX11_backOdds MX11_backOdds 5 [.ref 0, .int (xs (i + 1)), .int (xs (i + 2))] w (some (.int v)) w1) (h2 : JM yX12_backOdds MX12_backOdds 5 [.ref 205, .int (xs (i + 1)), .int (xs (i + 2))] w1 (some (.int v)) w2)
    (kk : JL L xs w2 2066 [(0, .ref 3001), (1, .ref 0), (2, .ref 205), (3, .int (nI i))] []) : JL L xs w 1429 [(0, .ref 3001), (1, .ref 0), (2, .ref 205), (3, .int (nI i))] [] := by
  refine jx_aload_n dL_law_1429 rfl 1 rfl ?_
  refine jx_aload_n dL_law_1430 rfl 0 rfl ?_
  refine jx_iload_n dL_law_1431 rfl 3 rfl ?_
  refine jx_iconst (v := (1 : Int32)) dL_law_1432 (by decide) ?_
  refine jx_iadd dL_law_1433 ?_
  refine jx_sld (k := 1) rfl (by omega) hL dL_law_1434 ?_
  refine jx_aload_n dL_law_1435 rfl 0 rfl ?_
  refine jx_iload_n dL_law_1436 rfl 3 rfl ?_
  refine jx_iconst (v := (2 : Int32)) dL_law_1437 (by decide) ?_
  refine jx_iadd dL_law_1438 ?_
  refine jx_sld (k := 2) rfl (by omega) hL dL_law_1439 ?_
  refine jx_call lkL_131 wIM_X11_backOdds wSE_X11_backOdds (q := 10) (by decide +kernel) (by decide) rfl h1 (by omega) rfl rfl (Nat.le_of_ble_eq_true rfl) dL_law_1440 ?_
  refine jx_aload_n dL_law_1443 rfl 2 rfl ?_
  refine jx_aload_n dL_law_1444 rfl 0 rfl ?_
  refine jx_iload_n dL_law_1445 rfl 3 rfl ?_
  refine jx_iconst (v := (1 : Int32)) dL_law_1446 (by decide) ?_
  refine jx_iadd dL_law_1447 ?_
  refine jx_sld (k := 1) rfl (by omega) hL dL_law_1448 ?_
  refine jx_aload_n dL_law_1449 rfl 0 rfl ?_
  refine jx_iload_n dL_law_1450 rfl 3 rfl ?_
  refine jx_iconst (v := (2 : Int32)) dL_law_1451 (by decide) ?_
  refine jx_iadd dL_law_1452 ?_
  refine jx_sld (k := 2) rfl (by omega) hL dL_law_1453 ?_
  refine jx_call lkL_134 wIM_X12_backOdds wSE_X12_backOdds (q := 11) (by decide +kernel) (by decide) rfl h2 (by omega) rfl rfl (Nat.le_of_ble_eq_true rfl) dL_law_1454 ?_
  refine jx_icmp_eq (tgt := 2066) (nxt := 1460) dL_law_1457 (by decide) rfl (fun _ => ?_) (fun hc => absurd rfl hc)
  exact kk
/-- case 27: parted -/
def jS_parted (R : jWd → Prop) : Prop := ∀ (w : jWd) (a0 : Int32) (a1 : Int32), R w → ∃ (v : Int32) (w1 w2 : jWd), JM yX11_parted MX11_parted 7 [.ref 0, .int a0, .int a1] w (some (.int v)) w1 ∧ JM yX12_parted MX12_parted 6 [.ref 205, .int a0, .int a1] w1 (some (.int v)) w2 ∧ R w2
set_option maxHeartbeats 4000000 in
set_option maxRecDepth 100000 in
theorem jc_parted {L i : Nat} {xs : Nat → Int32} (hL : L ≤ 4096) (hi : i + 8 ≤ L) {w w1 w2 : jWd} {v : Int32}
    (h1 : JM yX11_parted MX11_parted 7 [.ref 0, .int (xs (i + 1)), .int (lkB (xs (i + 2)))] w (some (.int v)) w1) (h2 : JM yX12_parted MX12_parted 6 [.ref 205, .int (xs (i + 1)), .int (lkB (xs (i + 2)))] w1 (some (.int v)) w2)
    (kk : JL L xs w2 2066 [(0, .ref 3001), (1, .ref 0), (2, .ref 205), (3, .int (nI i))] []) : JL L xs w 1462 [(0, .ref 3001), (1, .ref 0), (2, .ref 205), (3, .int (nI i))] [] := by
  refine jx_aload_n dL_law_1462 rfl 1 rfl ?_
  refine jx_aload_n dL_law_1463 rfl 0 rfl ?_
  refine jx_iload_n dL_law_1464 rfl 3 rfl ?_
  refine jx_iconst (v := (1 : Int32)) dL_law_1465 (by decide) ?_
  refine jx_iadd dL_law_1466 ?_
  refine jx_sld (k := 1) rfl (by omega) hL dL_law_1467 ?_
  refine jx_aload_n dL_law_1468 rfl 0 rfl ?_
  refine jx_iload_n dL_law_1469 rfl 3 rfl ?_
  refine jx_iconst (v := (2 : Int32)) dL_law_1470 (by decide) ?_
  refine jx_iadd dL_law_1471 ?_
  refine jx_sld (k := 2) rfl (by omega) hL dL_law_1472 ?_
  refine jx_if_eq (tgt := 1480) (nxt := 1476) dL_law_1473 (by decide) rfl (fun hb => ?_) (fun hb => ?_)
  · have hbv : lkB (xs (i + 2)) = 0 := if_pos hb
    rw [hbv] at h1 h2
    refine jx_iconst (v := (0 : Int32)) dL_law_1480 (by decide) ?_
    refine jx_call lkL_135 wIM_X11_parted wSE_X11_parted (q := 10) (by decide +kernel) (by decide) rfl h1 (by omega) rfl rfl (Nat.le_of_ble_eq_true rfl) dL_law_1481 ?_
    refine jx_aload_n dL_law_1484 rfl 2 rfl ?_
    refine jx_aload_n dL_law_1485 rfl 0 rfl ?_
    refine jx_iload_n dL_law_1486 rfl 3 rfl ?_
    refine jx_iconst (v := (1 : Int32)) dL_law_1487 (by decide) ?_
    refine jx_iadd dL_law_1488 ?_
    refine jx_sld (k := 1) rfl (by omega) hL dL_law_1489 ?_
    refine jx_aload_n dL_law_1490 rfl 0 rfl ?_
    refine jx_iload_n dL_law_1491 rfl 3 rfl ?_
    refine jx_iconst (v := (2 : Int32)) dL_law_1492 (by decide) ?_
    refine jx_iadd dL_law_1493 ?_
    refine jx_sld (k := 2) rfl (by omega) hL dL_law_1494 ?_
    refine jx_if_eq (tgt := 1502) (nxt := 1498) dL_law_1495 (by decide) rfl (fun _ => ?_) (fun hc => absurd hb hc)
    refine jx_iconst (v := (0 : Int32)) dL_law_1502 (by decide) ?_
    refine jx_call lkL_139 wIM_X12_parted wSE_X12_parted (q := 11) (by decide +kernel) (by decide) rfl h2 (by omega) rfl rfl (Nat.le_of_ble_eq_true rfl) dL_law_1503 ?_
    refine jx_icmp_eq (tgt := 2066) (nxt := 1509) dL_law_1506 (by decide) rfl (fun _ => ?_) (fun hc => absurd rfl hc)
    exact kk
  · have hbv : lkB (xs (i + 2)) = 1 := if_neg hb
    rw [hbv] at h1 h2
    refine jx_iconst (v := (1 : Int32)) dL_law_1476 (by decide) ?_
    refine jx_goto (tgt := 1481) dL_law_1477 (by decide) ?_
    refine jx_call lkL_135 wIM_X11_parted wSE_X11_parted (q := 10) (by decide +kernel) (by decide) rfl h1 (by omega) rfl rfl (Nat.le_of_ble_eq_true rfl) dL_law_1481 ?_
    refine jx_aload_n dL_law_1484 rfl 2 rfl ?_
    refine jx_aload_n dL_law_1485 rfl 0 rfl ?_
    refine jx_iload_n dL_law_1486 rfl 3 rfl ?_
    refine jx_iconst (v := (1 : Int32)) dL_law_1487 (by decide) ?_
    refine jx_iadd dL_law_1488 ?_
    refine jx_sld (k := 1) rfl (by omega) hL dL_law_1489 ?_
    refine jx_aload_n dL_law_1490 rfl 0 rfl ?_
    refine jx_iload_n dL_law_1491 rfl 3 rfl ?_
    refine jx_iconst (v := (2 : Int32)) dL_law_1492 (by decide) ?_
    refine jx_iadd dL_law_1493 ?_
    refine jx_sld (k := 2) rfl (by omega) hL dL_law_1494 ?_
    refine jx_if_eq (tgt := 1502) (nxt := 1498) dL_law_1495 (by decide) rfl (fun hc => absurd hc hb) (fun _ => ?_)
    refine jx_iconst (v := (1 : Int32)) dL_law_1498 (by decide) ?_
    refine jx_goto (tgt := 1503) dL_law_1499 (by decide) ?_
    refine jx_call lkL_139 wIM_X12_parted wSE_X12_parted (q := 11) (by decide +kernel) (by decide) rfl h2 (by omega) rfl rfl (Nat.le_of_ble_eq_true rfl) dL_law_1503 ?_
    refine jx_icmp_eq (tgt := 2066) (nxt := 1509) dL_law_1506 (by decide) rfl (fun _ => ?_) (fun hc => absurd rfl hc)
    exact kk
/-- case 28: muddled -/
def jS_muddled (R : jWd → Prop) : Prop := ∀ (w : jWd) (a0 : Int32), R w → ∃ (v : Int32) (w1 w2 : jWd), JM yX11_muddled MX11_muddled 7 [.ref 0, .int a0] w (some (.int v)) w1 ∧ JM yX12_muddled MX12_muddled 6 [.ref 205, .int a0] w1 (some (.int v)) w2 ∧ R w2
set_option maxHeartbeats 4000000 in
set_option maxRecDepth 100000 in
theorem jc_muddled {L i : Nat} {xs : Nat → Int32} (hL : L ≤ 4096) (hi : i + 8 ≤ L) {w w1 w2 : jWd} {v : Int32}
    (h1 : JM yX11_muddled MX11_muddled 7 [.ref 0, .int (xs (i + 1))] w (some (.int v)) w1) (h2 : JM yX12_muddled MX12_muddled 6 [.ref 205, .int (xs (i + 1))] w1 (some (.int v)) w2)
    (kk : JL L xs w2 2066 [(0, .ref 3001), (1, .ref 0), (2, .ref 205), (3, .int (nI i))] []) : JL L xs w 1511 [(0, .ref 3001), (1, .ref 0), (2, .ref 205), (3, .int (nI i))] [] := by
  refine jx_aload_n dL_law_1511 rfl 1 rfl ?_
  refine jx_aload_n dL_law_1512 rfl 0 rfl ?_
  refine jx_iload_n dL_law_1513 rfl 3 rfl ?_
  refine jx_iconst (v := (1 : Int32)) dL_law_1514 (by decide) ?_
  refine jx_iadd dL_law_1515 ?_
  refine jx_sld (k := 1) rfl (by omega) hL dL_law_1516 ?_
  refine jx_call lkL_140 wIM_X11_muddled wSE_X11_muddled (q := 10) (by decide +kernel) (by decide) rfl h1 (by omega) rfl rfl (Nat.le_of_ble_eq_true rfl) dL_law_1517 ?_
  refine jx_aload_n dL_law_1520 rfl 2 rfl ?_
  refine jx_aload_n dL_law_1521 rfl 0 rfl ?_
  refine jx_iload_n dL_law_1522 rfl 3 rfl ?_
  refine jx_iconst (v := (1 : Int32)) dL_law_1523 (by decide) ?_
  refine jx_iadd dL_law_1524 ?_
  refine jx_sld (k := 1) rfl (by omega) hL dL_law_1525 ?_
  refine jx_call lkL_143 wIM_X12_muddled wSE_X12_muddled (q := 11) (by decide +kernel) (by decide) rfl h2 (by omega) rfl rfl (Nat.le_of_ble_eq_true rfl) dL_law_1526 ?_
  refine jx_icmp_eq (tgt := 2066) (nxt := 1532) dL_law_1529 (by decide) rfl (fun _ => ?_) (fun hc => absurd rfl hc)
  exact kk
/-- case 29: glen -/
def jS_glen (R : jWd → Prop) : Prop := ∀ (w : jWd) (a0 : Int32) (a1 : Int32), R w → ∃ (v : Int32) (w1 w2 : jWd), JM yX11_glen MX11_glen 7 [.ref 0, .int a0, .int a1] w (some (.int v)) w1 ∧ JM yX12_glen MX12_glen 6 [.ref 205, .int a0, .int a1] w1 (some (.int v)) w2 ∧ R w2
set_option maxHeartbeats 4000000 in
set_option maxRecDepth 100000 in
theorem jc_glen {L i : Nat} {xs : Nat → Int32} (hL : L ≤ 4096) (hi : i + 8 ≤ L) {w w1 w2 : jWd} {v : Int32}
    (h1 : JM yX11_glen MX11_glen 7 [.ref 0, .int (xs (i + 1)), .int (xs (i + 2))] w (some (.int v)) w1) (h2 : JM yX12_glen MX12_glen 6 [.ref 205, .int (xs (i + 1)), .int (xs (i + 2))] w1 (some (.int v)) w2)
    (kk : JL L xs w2 2066 [(0, .ref 3001), (1, .ref 0), (2, .ref 205), (3, .int (nI i))] []) : JL L xs w 1534 [(0, .ref 3001), (1, .ref 0), (2, .ref 205), (3, .int (nI i))] [] := by
  refine jx_aload_n dL_law_1534 rfl 1 rfl ?_
  refine jx_aload_n dL_law_1535 rfl 0 rfl ?_
  refine jx_iload_n dL_law_1536 rfl 3 rfl ?_
  refine jx_iconst (v := (1 : Int32)) dL_law_1537 (by decide) ?_
  refine jx_iadd dL_law_1538 ?_
  refine jx_sld (k := 1) rfl (by omega) hL dL_law_1539 ?_
  refine jx_aload_n dL_law_1540 rfl 0 rfl ?_
  refine jx_iload_n dL_law_1541 rfl 3 rfl ?_
  refine jx_iconst (v := (2 : Int32)) dL_law_1542 (by decide) ?_
  refine jx_iadd dL_law_1543 ?_
  refine jx_sld (k := 2) rfl (by omega) hL dL_law_1544 ?_
  refine jx_call lkL_144 wIM_X11_glen wSE_X11_glen (q := 10) (by decide +kernel) (by decide) rfl h1 (by omega) rfl rfl (Nat.le_of_ble_eq_true rfl) dL_law_1545 ?_
  refine jx_aload_n dL_law_1548 rfl 2 rfl ?_
  refine jx_aload_n dL_law_1549 rfl 0 rfl ?_
  refine jx_iload_n dL_law_1550 rfl 3 rfl ?_
  refine jx_iconst (v := (1 : Int32)) dL_law_1551 (by decide) ?_
  refine jx_iadd dL_law_1552 ?_
  refine jx_sld (k := 1) rfl (by omega) hL dL_law_1553 ?_
  refine jx_aload_n dL_law_1554 rfl 0 rfl ?_
  refine jx_iload_n dL_law_1555 rfl 3 rfl ?_
  refine jx_iconst (v := (2 : Int32)) dL_law_1556 (by decide) ?_
  refine jx_iadd dL_law_1557 ?_
  refine jx_sld (k := 2) rfl (by omega) hL dL_law_1558 ?_
  refine jx_call lkL_147 wIM_X12_glen wSE_X12_glen (q := 11) (by decide +kernel) (by decide) rfl h2 (by omega) rfl rfl (Nat.le_of_ble_eq_true rfl) dL_law_1559 ?_
  refine jx_icmp_eq (tgt := 2066) (nxt := 1565) dL_law_1562 (by decide) rfl (fun _ => ?_) (fun hc => absurd rfl hc)
  exact kk
/-- case 30: paid -/
def jS_paid (R : jWd → Prop) : Prop := ∀ (w : jWd) (a0 : Int32) (a1 : Int32), R w → ∃ (v : Int32) (w1 w2 : jWd), JM yX11_paid MX11_paid 2 [.ref 0, .int a0, .int a1] w (some (.int v)) w1 ∧ JM yX12_paid MX12_paid 2 [.ref 205, .int a0, .int a1] w1 (some (.int v)) w2 ∧ R w2
set_option maxHeartbeats 4000000 in
set_option maxRecDepth 100000 in
theorem jc_paid {L i : Nat} {xs : Nat → Int32} (hL : L ≤ 4096) (hi : i + 8 ≤ L) {w w1 w2 : jWd} {v : Int32}
    (h1 : JM yX11_paid MX11_paid 2 [.ref 0, .int (xs (i + 1)), .int (xs (i + 2))] w (some (.int v)) w1) (h2 : JM yX12_paid MX12_paid 2 [.ref 205, .int (xs (i + 1)), .int (xs (i + 2))] w1 (some (.int v)) w2)
    (kk : JL L xs w2 2066 [(0, .ref 3001), (1, .ref 0), (2, .ref 205), (3, .int (nI i))] []) : JL L xs w 1567 [(0, .ref 3001), (1, .ref 0), (2, .ref 205), (3, .int (nI i))] [] := by
  refine jx_aload_n dL_law_1567 rfl 1 rfl ?_
  refine jx_aload_n dL_law_1568 rfl 0 rfl ?_
  refine jx_iload_n dL_law_1569 rfl 3 rfl ?_
  refine jx_iconst (v := (1 : Int32)) dL_law_1570 (by decide) ?_
  refine jx_iadd dL_law_1571 ?_
  refine jx_sld (k := 1) rfl (by omega) hL dL_law_1572 ?_
  refine jx_aload_n dL_law_1573 rfl 0 rfl ?_
  refine jx_iload_n dL_law_1574 rfl 3 rfl ?_
  refine jx_iconst (v := (2 : Int32)) dL_law_1575 (by decide) ?_
  refine jx_iadd dL_law_1576 ?_
  refine jx_sld (k := 2) rfl (by omega) hL dL_law_1577 ?_
  refine jx_call lkL_148 wIM_X11_paid wSE_X11_paid (q := 10) (by decide +kernel) (by decide) rfl h1 (by omega) rfl rfl (Nat.le_of_ble_eq_true rfl) dL_law_1578 ?_
  refine jx_aload_n dL_law_1581 rfl 2 rfl ?_
  refine jx_aload_n dL_law_1582 rfl 0 rfl ?_
  refine jx_iload_n dL_law_1583 rfl 3 rfl ?_
  refine jx_iconst (v := (1 : Int32)) dL_law_1584 (by decide) ?_
  refine jx_iadd dL_law_1585 ?_
  refine jx_sld (k := 1) rfl (by omega) hL dL_law_1586 ?_
  refine jx_aload_n dL_law_1587 rfl 0 rfl ?_
  refine jx_iload_n dL_law_1588 rfl 3 rfl ?_
  refine jx_iconst (v := (2 : Int32)) dL_law_1589 (by decide) ?_
  refine jx_iadd dL_law_1590 ?_
  refine jx_sld (k := 2) rfl (by omega) hL dL_law_1591 ?_
  refine jx_call lkL_151 wIM_X12_paid wSE_X12_paid (q := 11) (by decide +kernel) (by decide) rfl h2 (by omega) rfl rfl (Nat.le_of_ble_eq_true rfl) dL_law_1592 ?_
  refine jx_icmp_eq (tgt := 2066) (nxt := 1598) dL_law_1595 (by decide) rfl (fun _ => ?_) (fun hc => absurd rfl hc)
  exact kk
/-- case 31: pages -/
def jS_pages (R : jWd → Prop) : Prop := ∀ (w : jWd) (a0 : Int32) (a1 : Int32), R w → ∃ (v : Int32) (w1 w2 : jWd), JM yX11_pages MX11_pages 2 [.ref 0, .int a0, .int a1] w (some (.int v)) w1 ∧ JM yX12_pages MX12_pages 2 [.ref 205, .int a0, .int a1] w1 (some (.int v)) w2 ∧ R w2
set_option maxHeartbeats 4000000 in
set_option maxRecDepth 100000 in
theorem jc_pages {L i : Nat} {xs : Nat → Int32} (hL : L ≤ 4096) (hi : i + 8 ≤ L) {w w1 w2 : jWd} {v : Int32}
    (h1 : JM yX11_pages MX11_pages 2 [.ref 0, .int (xs (i + 1)), .int (xs (i + 2))] w (some (.int v)) w1) (h2 : JM yX12_pages MX12_pages 2 [.ref 205, .int (xs (i + 1)), .int (xs (i + 2))] w1 (some (.int v)) w2)
    (kk : JL L xs w2 2066 [(0, .ref 3001), (1, .ref 0), (2, .ref 205), (3, .int (nI i))] []) : JL L xs w 1600 [(0, .ref 3001), (1, .ref 0), (2, .ref 205), (3, .int (nI i))] [] := by
  refine jx_aload_n dL_law_1600 rfl 1 rfl ?_
  refine jx_aload_n dL_law_1601 rfl 0 rfl ?_
  refine jx_iload_n dL_law_1602 rfl 3 rfl ?_
  refine jx_iconst (v := (1 : Int32)) dL_law_1603 (by decide) ?_
  refine jx_iadd dL_law_1604 ?_
  refine jx_sld (k := 1) rfl (by omega) hL dL_law_1605 ?_
  refine jx_aload_n dL_law_1606 rfl 0 rfl ?_
  refine jx_iload_n dL_law_1607 rfl 3 rfl ?_
  refine jx_iconst (v := (2 : Int32)) dL_law_1608 (by decide) ?_
  refine jx_iadd dL_law_1609 ?_
  refine jx_sld (k := 2) rfl (by omega) hL dL_law_1610 ?_
  refine jx_call lkL_152 wIM_X11_pages wSE_X11_pages (q := 10) (by decide +kernel) (by decide) rfl h1 (by omega) rfl rfl (Nat.le_of_ble_eq_true rfl) dL_law_1611 ?_
  refine jx_aload_n dL_law_1614 rfl 2 rfl ?_
  refine jx_aload_n dL_law_1615 rfl 0 rfl ?_
  refine jx_iload_n dL_law_1616 rfl 3 rfl ?_
  refine jx_iconst (v := (1 : Int32)) dL_law_1617 (by decide) ?_
  refine jx_iadd dL_law_1618 ?_
  refine jx_sld (k := 1) rfl (by omega) hL dL_law_1619 ?_
  refine jx_aload_n dL_law_1620 rfl 0 rfl ?_
  refine jx_iload_n dL_law_1621 rfl 3 rfl ?_
  refine jx_iconst (v := (2 : Int32)) dL_law_1622 (by decide) ?_
  refine jx_iadd dL_law_1623 ?_
  refine jx_sld (k := 2) rfl (by omega) hL dL_law_1624 ?_
  refine jx_call lkL_155 wIM_X12_pages wSE_X12_pages (q := 11) (by decide +kernel) (by decide) rfl h2 (by omega) rfl rfl (Nat.le_of_ble_eq_true rfl) dL_law_1625 ?_
  refine jx_icmp_eq (tgt := 2066) (nxt := 1631) dL_law_1628 (by decide) rfl (fun _ => ?_) (fun hc => absurd rfl hc)
  exact kk
/-- case 32: more -/
def jS_more (R : jWd → Prop) : Prop := ∀ (w : jWd) (a0 : Int32) (a1 : Int32), R w → ∃ (v : Int32) (w1 w2 : jWd), JM yX11_more MX11_more 3 [.ref 0, .int a0, .int a1] w (some (.int v)) w1 ∧ JM yX12_more MX12_more 3 [.ref 205, .int a0, .int a1] w1 (some (.int v)) w2 ∧ R w2
set_option maxHeartbeats 4000000 in
set_option maxRecDepth 100000 in
theorem jc_more {L i : Nat} {xs : Nat → Int32} (hL : L ≤ 4096) (hi : i + 8 ≤ L) {w w1 w2 : jWd} {v : Int32}
    (h1 : JM yX11_more MX11_more 3 [.ref 0, .int (xs (i + 1)), .int (xs (i + 2))] w (some (.int v)) w1) (h2 : JM yX12_more MX12_more 3 [.ref 205, .int (xs (i + 1)), .int (xs (i + 2))] w1 (some (.int v)) w2)
    (kk : JL L xs w2 2066 [(0, .ref 3001), (1, .ref 0), (2, .ref 205), (3, .int (nI i))] []) : JL L xs w 1633 [(0, .ref 3001), (1, .ref 0), (2, .ref 205), (3, .int (nI i))] [] := by
  refine jx_aload_n dL_law_1633 rfl 1 rfl ?_
  refine jx_aload_n dL_law_1634 rfl 0 rfl ?_
  refine jx_iload_n dL_law_1635 rfl 3 rfl ?_
  refine jx_iconst (v := (1 : Int32)) dL_law_1636 (by decide) ?_
  refine jx_iadd dL_law_1637 ?_
  refine jx_sld (k := 1) rfl (by omega) hL dL_law_1638 ?_
  refine jx_aload_n dL_law_1639 rfl 0 rfl ?_
  refine jx_iload_n dL_law_1640 rfl 3 rfl ?_
  refine jx_iconst (v := (2 : Int32)) dL_law_1641 (by decide) ?_
  refine jx_iadd dL_law_1642 ?_
  refine jx_sld (k := 2) rfl (by omega) hL dL_law_1643 ?_
  refine jx_call lkL_156 wIM_X11_more wSE_X11_more (q := 10) (by decide +kernel) (by decide) rfl h1 (by omega) rfl rfl (Nat.le_of_ble_eq_true rfl) dL_law_1644 ?_
  refine jx_aload_n dL_law_1647 rfl 2 rfl ?_
  refine jx_aload_n dL_law_1648 rfl 0 rfl ?_
  refine jx_iload_n dL_law_1649 rfl 3 rfl ?_
  refine jx_iconst (v := (1 : Int32)) dL_law_1650 (by decide) ?_
  refine jx_iadd dL_law_1651 ?_
  refine jx_sld (k := 1) rfl (by omega) hL dL_law_1652 ?_
  refine jx_aload_n dL_law_1653 rfl 0 rfl ?_
  refine jx_iload_n dL_law_1654 rfl 3 rfl ?_
  refine jx_iconst (v := (2 : Int32)) dL_law_1655 (by decide) ?_
  refine jx_iadd dL_law_1656 ?_
  refine jx_sld (k := 2) rfl (by omega) hL dL_law_1657 ?_
  refine jx_call lkL_159 wIM_X12_more wSE_X12_more (q := 11) (by decide +kernel) (by decide) rfl h2 (by omega) rfl rfl (Nat.le_of_ble_eq_true rfl) dL_law_1658 ?_
  refine jx_icmp_eq (tgt := 2066) (nxt := 1664) dL_law_1661 (by decide) rfl (fun _ => ?_) (fun hc => absurd rfl hc)
  exact kk
/-- case 33: free -/
def jS_free (R : jWd → Prop) : Prop := ∀ (w : jWd) (a0 : Int32) (a1 : Int32), R w → ∃ (v : Int32) (w1 w2 : jWd), JM yX11_free MX11_free 2 [.ref 0, .int a0, .int a1] w (some (.int v)) w1 ∧ JM yX12_free MX12_free 2 [.ref 205, .int a0, .int a1] w1 (some (.int v)) w2 ∧ R w2
set_option maxHeartbeats 4000000 in
set_option maxRecDepth 100000 in
theorem jc_free {L i : Nat} {xs : Nat → Int32} (hL : L ≤ 4096) (hi : i + 8 ≤ L) {w w1 w2 : jWd} {v : Int32}
    (h1 : JM yX11_free MX11_free 2 [.ref 0, .int (xs (i + 1)), .int (xs (i + 2))] w (some (.int v)) w1) (h2 : JM yX12_free MX12_free 2 [.ref 205, .int (xs (i + 1)), .int (xs (i + 2))] w1 (some (.int v)) w2)
    (kk : JL L xs w2 2066 [(0, .ref 3001), (1, .ref 0), (2, .ref 205), (3, .int (nI i))] []) : JL L xs w 1666 [(0, .ref 3001), (1, .ref 0), (2, .ref 205), (3, .int (nI i))] [] := by
  refine jx_aload_n dL_law_1666 rfl 1 rfl ?_
  refine jx_aload_n dL_law_1667 rfl 0 rfl ?_
  refine jx_iload_n dL_law_1668 rfl 3 rfl ?_
  refine jx_iconst (v := (1 : Int32)) dL_law_1669 (by decide) ?_
  refine jx_iadd dL_law_1670 ?_
  refine jx_sld (k := 1) rfl (by omega) hL dL_law_1671 ?_
  refine jx_aload_n dL_law_1672 rfl 0 rfl ?_
  refine jx_iload_n dL_law_1673 rfl 3 rfl ?_
  refine jx_iconst (v := (2 : Int32)) dL_law_1674 (by decide) ?_
  refine jx_iadd dL_law_1675 ?_
  refine jx_sld (k := 2) rfl (by omega) hL dL_law_1676 ?_
  refine jx_call lkL_160 wIM_X11_free wSE_X11_free (q := 10) (by decide +kernel) (by decide) rfl h1 (by omega) rfl rfl (Nat.le_of_ble_eq_true rfl) dL_law_1677 ?_
  refine jx_aload_n dL_law_1680 rfl 2 rfl ?_
  refine jx_aload_n dL_law_1681 rfl 0 rfl ?_
  refine jx_iload_n dL_law_1682 rfl 3 rfl ?_
  refine jx_iconst (v := (1 : Int32)) dL_law_1683 (by decide) ?_
  refine jx_iadd dL_law_1684 ?_
  refine jx_sld (k := 1) rfl (by omega) hL dL_law_1685 ?_
  refine jx_aload_n dL_law_1686 rfl 0 rfl ?_
  refine jx_iload_n dL_law_1687 rfl 3 rfl ?_
  refine jx_iconst (v := (2 : Int32)) dL_law_1688 (by decide) ?_
  refine jx_iadd dL_law_1689 ?_
  refine jx_sld (k := 2) rfl (by omega) hL dL_law_1690 ?_
  refine jx_call lkL_163 wIM_X12_free wSE_X12_free (q := 11) (by decide +kernel) (by decide) rfl h2 (by omega) rfl rfl (Nat.le_of_ble_eq_true rfl) dL_law_1691 ?_
  refine jx_icmp_eq (tgt := 2066) (nxt := 1697) dL_law_1694 (by decide) rfl (fun _ => ?_) (fun hc => absurd rfl hc)
  exact kk
/-- case 34: rate -/
def jS_rate (R : jWd → Prop) : Prop := ∀ (w : jWd) , R w → ∃ (v : Int32) (w1 w2 : jWd), JM yX11_rate MX11_rate 4 [.ref 0] w (some (.int v)) w1 ∧ JM yX12_rate MX12_rate 4 [.ref 205] w1 (some (.int v)) w2 ∧ R w2
set_option maxHeartbeats 4000000 in
set_option maxRecDepth 100000 in
theorem jc_rate {L i : Nat} {xs : Nat → Int32} (hL : L ≤ 4096) (hi : i + 8 ≤ L) {w w1 w2 : jWd} {v : Int32}
    (h1 : JM yX11_rate MX11_rate 4 [.ref 0] w (some (.int v)) w1) (h2 : JM yX12_rate MX12_rate 4 [.ref 205] w1 (some (.int v)) w2)
    (kk : JL L xs w2 2066 [(0, .ref 3001), (1, .ref 0), (2, .ref 205), (3, .int (nI i))] []) : JL L xs w 1699 [(0, .ref 3001), (1, .ref 0), (2, .ref 205), (3, .int (nI i))] [] := by
  refine jx_aload_n dL_law_1699 rfl 1 rfl ?_
  refine jx_call lkL_164 wIM_X11_rate wSE_X11_rate (q := 10) (by decide +kernel) (by decide) rfl h1 (by omega) rfl rfl (Nat.le_of_ble_eq_true rfl) dL_law_1700 ?_
  refine jx_aload_n dL_law_1703 rfl 2 rfl ?_
  refine jx_call lkL_168 wIM_X12_rate wSE_X12_rate (q := 11) (by decide +kernel) (by decide) rfl h2 (by omega) rfl rfl (Nat.le_of_ble_eq_true rfl) dL_law_1704 ?_
  refine jx_icmp_eq (tgt := 2066) (nxt := 1710) dL_law_1707 (by decide) rfl (fun _ => ?_) (fun hc => absurd rfl hc)
  exact kk
/-- case 35: world -/
def jS_world (R : jWd → Prop) : Prop := ∀ (w : jWd) (a0 : Int32), R w → ∃ (v : Int32) (w1 w2 : jWd), JM yX11_world MX11_world 2 [.ref 0, .int a0] w (some (.int v)) w1 ∧ JM yX12_world MX12_world 2 [.ref 205, .int a0] w1 (some (.int v)) w2 ∧ R w2
set_option maxHeartbeats 4000000 in
set_option maxRecDepth 100000 in
theorem jc_world {L i : Nat} {xs : Nat → Int32} (hL : L ≤ 4096) (hi : i + 8 ≤ L) {w w1 w2 : jWd} {v : Int32}
    (h1 : JM yX11_world MX11_world 2 [.ref 0, .int (xs (i + 1))] w (some (.int v)) w1) (h2 : JM yX12_world MX12_world 2 [.ref 205, .int (xs (i + 1))] w1 (some (.int v)) w2)
    (kk : JL L xs w2 2066 [(0, .ref 3001), (1, .ref 0), (2, .ref 205), (3, .int (nI i))] []) : JL L xs w 1712 [(0, .ref 3001), (1, .ref 0), (2, .ref 205), (3, .int (nI i))] [] := by
  refine jx_aload_n dL_law_1712 rfl 1 rfl ?_
  refine jx_aload_n dL_law_1713 rfl 0 rfl ?_
  refine jx_iload_n dL_law_1714 rfl 3 rfl ?_
  refine jx_iconst (v := (1 : Int32)) dL_law_1715 (by decide) ?_
  refine jx_iadd dL_law_1716 ?_
  refine jx_sld (k := 1) rfl (by omega) hL dL_law_1717 ?_
  refine jx_call lkL_169 wIM_X11_world wSE_X11_world (q := 10) (by decide +kernel) (by decide) rfl h1 (by omega) rfl rfl (Nat.le_of_ble_eq_true rfl) dL_law_1718 ?_
  refine jx_aload_n dL_law_1721 rfl 2 rfl ?_
  refine jx_aload_n dL_law_1722 rfl 0 rfl ?_
  refine jx_iload_n dL_law_1723 rfl 3 rfl ?_
  refine jx_iconst (v := (1 : Int32)) dL_law_1724 (by decide) ?_
  refine jx_iadd dL_law_1725 ?_
  refine jx_sld (k := 1) rfl (by omega) hL dL_law_1726 ?_
  refine jx_call lkL_172 wIM_X12_world wSE_X12_world (q := 11) (by decide +kernel) (by decide) rfl h2 (by omega) rfl rfl (Nat.le_of_ble_eq_true rfl) dL_law_1727 ?_
  refine jx_icmp_eq (tgt := 2066) (nxt := 1733) dL_law_1730 (by decide) rfl (fun _ => ?_) (fun hc => absurd rfl hc)
  exact kk
/-- case 36: says -/
def jS_says (R : jWd → Prop) : Prop := ∀ (w : jWd) (a0 : Int32) (a1 : Int32) (a2 : Int32), R w → ∃ (v : Int32) (w1 w2 : jWd), JM yX11_says MX11_says 3 [.ref 0, .int a0, .int a1, .int a2] w (some (.int v)) w1 ∧ JM yX12_says MX12_says 2 [.ref 205, .int a0, .int a1, .int a2] w1 (some (.int v)) w2 ∧ R w2
set_option maxHeartbeats 4000000 in
set_option maxRecDepth 100000 in
theorem jc_says {L i : Nat} {xs : Nat → Int32} (hL : L ≤ 4096) (hi : i + 8 ≤ L) {w w1 w2 : jWd} {v : Int32}
    (h1 : JM yX11_says MX11_says 3 [.ref 0, .int (xs (i + 1)), .int (xs (i + 2)), .int (xs (i + 3))] w (some (.int v)) w1) (h2 : JM yX12_says MX12_says 2 [.ref 205, .int (xs (i + 1)), .int (xs (i + 2)), .int (xs (i + 3))] w1 (some (.int v)) w2)
    (kk : JL L xs w2 2066 [(0, .ref 3001), (1, .ref 0), (2, .ref 205), (3, .int (nI i))] []) : JL L xs w 1735 [(0, .ref 3001), (1, .ref 0), (2, .ref 205), (3, .int (nI i))] [] := by
  refine jx_aload_n dL_law_1735 rfl 1 rfl ?_
  refine jx_aload_n dL_law_1736 rfl 0 rfl ?_
  refine jx_iload_n dL_law_1737 rfl 3 rfl ?_
  refine jx_iconst (v := (1 : Int32)) dL_law_1738 (by decide) ?_
  refine jx_iadd dL_law_1739 ?_
  refine jx_sld (k := 1) rfl (by omega) hL dL_law_1740 ?_
  refine jx_aload_n dL_law_1741 rfl 0 rfl ?_
  refine jx_iload_n dL_law_1742 rfl 3 rfl ?_
  refine jx_iconst (v := (2 : Int32)) dL_law_1743 (by decide) ?_
  refine jx_iadd dL_law_1744 ?_
  refine jx_sld (k := 2) rfl (by omega) hL dL_law_1745 ?_
  refine jx_aload_n dL_law_1746 rfl 0 rfl ?_
  refine jx_iload_n dL_law_1747 rfl 3 rfl ?_
  refine jx_iconst (v := (3 : Int32)) dL_law_1748 (by decide) ?_
  refine jx_iadd dL_law_1749 ?_
  refine jx_sld (k := 3) rfl (by omega) hL dL_law_1750 ?_
  refine jx_call lkL_173 wIM_X11_says wSE_X11_says (q := 10) (by decide +kernel) (by decide) rfl h1 (by omega) rfl rfl (Nat.le_of_ble_eq_true rfl) dL_law_1751 ?_
  refine jx_aload_n dL_law_1754 rfl 2 rfl ?_
  refine jx_aload_n dL_law_1755 rfl 0 rfl ?_
  refine jx_iload_n dL_law_1756 rfl 3 rfl ?_
  refine jx_iconst (v := (1 : Int32)) dL_law_1757 (by decide) ?_
  refine jx_iadd dL_law_1758 ?_
  refine jx_sld (k := 1) rfl (by omega) hL dL_law_1759 ?_
  refine jx_aload_n dL_law_1760 rfl 0 rfl ?_
  refine jx_iload_n dL_law_1761 rfl 3 rfl ?_
  refine jx_iconst (v := (2 : Int32)) dL_law_1762 (by decide) ?_
  refine jx_iadd dL_law_1763 ?_
  refine jx_sld (k := 2) rfl (by omega) hL dL_law_1764 ?_
  refine jx_aload_n dL_law_1765 rfl 0 rfl ?_
  refine jx_iload_n dL_law_1766 rfl 3 rfl ?_
  refine jx_iconst (v := (3 : Int32)) dL_law_1767 (by decide) ?_
  refine jx_iadd dL_law_1768 ?_
  refine jx_sld (k := 3) rfl (by omega) hL dL_law_1769 ?_
  refine jx_call lkL_176 wIM_X12_says wSE_X12_says (q := 11) (by decide +kernel) (by decide) rfl h2 (by omega) rfl rfl (Nat.le_of_ble_eq_true rfl) dL_law_1770 ?_
  refine jx_icmp_eq (tgt := 2066) (nxt := 1776) dL_law_1773 (by decide) rfl (fun _ => ?_) (fun hc => absurd rfl hc)
  exact kk
/-- case 37: ask -/
def jS_ask (R : jWd → Prop) : Prop := ∀ (w : jWd) (a0 : Int32) (a1 : Int32), R w → ∃ (v : Int32) (w1 w2 : jWd), JM yX11_ask MX11_ask 4 [.ref 0, .int a0, .int a1] w (some (.int v)) w1 ∧ JM yX12_ask MX12_ask 3 [.ref 205, .int a0, .int a1] w1 (some (.int v)) w2 ∧ R w2
set_option maxHeartbeats 4000000 in
set_option maxRecDepth 100000 in
theorem jc_ask {L i : Nat} {xs : Nat → Int32} (hL : L ≤ 4096) (hi : i + 8 ≤ L) {w w1 w2 : jWd} {v : Int32}
    (h1 : JM yX11_ask MX11_ask 4 [.ref 0, .int (xs (i + 1)), .int (xs (i + 2))] w (some (.int v)) w1) (h2 : JM yX12_ask MX12_ask 3 [.ref 205, .int (xs (i + 1)), .int (xs (i + 2))] w1 (some (.int v)) w2)
    (kk : JL L xs w2 2066 [(0, .ref 3001), (1, .ref 0), (2, .ref 205), (3, .int (nI i))] []) : JL L xs w 1778 [(0, .ref 3001), (1, .ref 0), (2, .ref 205), (3, .int (nI i))] [] := by
  refine jx_aload_n dL_law_1778 rfl 1 rfl ?_
  refine jx_aload_n dL_law_1779 rfl 0 rfl ?_
  refine jx_iload_n dL_law_1780 rfl 3 rfl ?_
  refine jx_iconst (v := (1 : Int32)) dL_law_1781 (by decide) ?_
  refine jx_iadd dL_law_1782 ?_
  refine jx_sld (k := 1) rfl (by omega) hL dL_law_1783 ?_
  refine jx_aload_n dL_law_1784 rfl 0 rfl ?_
  refine jx_iload_n dL_law_1785 rfl 3 rfl ?_
  refine jx_iconst (v := (2 : Int32)) dL_law_1786 (by decide) ?_
  refine jx_iadd dL_law_1787 ?_
  refine jx_sld (k := 2) rfl (by omega) hL dL_law_1788 ?_
  refine jx_call lkL_177 wIM_X11_ask wSE_X11_ask (q := 10) (by decide +kernel) (by decide) rfl h1 (by omega) rfl rfl (Nat.le_of_ble_eq_true rfl) dL_law_1789 ?_
  refine jx_aload_n dL_law_1792 rfl 2 rfl ?_
  refine jx_aload_n dL_law_1793 rfl 0 rfl ?_
  refine jx_iload_n dL_law_1794 rfl 3 rfl ?_
  refine jx_iconst (v := (1 : Int32)) dL_law_1795 (by decide) ?_
  refine jx_iadd dL_law_1796 ?_
  refine jx_sld (k := 1) rfl (by omega) hL dL_law_1797 ?_
  refine jx_aload_n dL_law_1798 rfl 0 rfl ?_
  refine jx_iload_n dL_law_1799 rfl 3 rfl ?_
  refine jx_iconst (v := (2 : Int32)) dL_law_1800 (by decide) ?_
  refine jx_iadd dL_law_1801 ?_
  refine jx_sld (k := 2) rfl (by omega) hL dL_law_1802 ?_
  refine jx_call lkL_180 wIM_X12_ask wSE_X12_ask (q := 11) (by decide +kernel) (by decide) rfl h2 (by omega) rfl rfl (Nat.le_of_ble_eq_true rfl) dL_law_1803 ?_
  refine jx_icmp_eq (tgt := 2066) (nxt := 1809) dL_law_1806 (by decide) rfl (fun _ => ?_) (fun hc => absurd rfl hc)
  exact kk
/-- case 38: row -/
def jS_row (R : jWd → Prop) : Prop := ∀ (w : jWd) (a0 : Int32) (a1 : Int32) (a2 : Int32), R w → ∃ (v : Int32) (w1 w2 : jWd), JM yX11_row MX11_row 4 [.ref 0, .int a0, .int a1, .int a2] w (some (.int v)) w1 ∧ JM yX12_row MX12_row 2 [.ref 205, .int a0, .int a1, .int a2] w1 (some (.int v)) w2 ∧ R w2
set_option maxHeartbeats 4000000 in
set_option maxRecDepth 100000 in
theorem jc_row {L i : Nat} {xs : Nat → Int32} (hL : L ≤ 4096) (hi : i + 8 ≤ L) {w w1 w2 : jWd} {v : Int32}
    (h1 : JM yX11_row MX11_row 4 [.ref 0, .int (xs (i + 1)), .int (xs (i + 2)), .int (xs (i + 3))] w (some (.int v)) w1) (h2 : JM yX12_row MX12_row 2 [.ref 205, .int (xs (i + 1)), .int (xs (i + 2)), .int (xs (i + 3))] w1 (some (.int v)) w2)
    (kk : JL L xs w2 2066 [(0, .ref 3001), (1, .ref 0), (2, .ref 205), (3, .int (nI i))] []) : JL L xs w 1811 [(0, .ref 3001), (1, .ref 0), (2, .ref 205), (3, .int (nI i))] [] := by
  refine jx_aload_n dL_law_1811 rfl 1 rfl ?_
  refine jx_aload_n dL_law_1812 rfl 0 rfl ?_
  refine jx_iload_n dL_law_1813 rfl 3 rfl ?_
  refine jx_iconst (v := (1 : Int32)) dL_law_1814 (by decide) ?_
  refine jx_iadd dL_law_1815 ?_
  refine jx_sld (k := 1) rfl (by omega) hL dL_law_1816 ?_
  refine jx_aload_n dL_law_1817 rfl 0 rfl ?_
  refine jx_iload_n dL_law_1818 rfl 3 rfl ?_
  refine jx_iconst (v := (2 : Int32)) dL_law_1819 (by decide) ?_
  refine jx_iadd dL_law_1820 ?_
  refine jx_sld (k := 2) rfl (by omega) hL dL_law_1821 ?_
  refine jx_aload_n dL_law_1822 rfl 0 rfl ?_
  refine jx_iload_n dL_law_1823 rfl 3 rfl ?_
  refine jx_iconst (v := (3 : Int32)) dL_law_1824 (by decide) ?_
  refine jx_iadd dL_law_1825 ?_
  refine jx_sld (k := 3) rfl (by omega) hL dL_law_1826 ?_
  refine jx_call lkL_181 wIM_X11_row wSE_X11_row (q := 10) (by decide +kernel) (by decide) rfl h1 (by omega) rfl rfl (Nat.le_of_ble_eq_true rfl) dL_law_1827 ?_
  refine jx_aload_n dL_law_1830 rfl 2 rfl ?_
  refine jx_aload_n dL_law_1831 rfl 0 rfl ?_
  refine jx_iload_n dL_law_1832 rfl 3 rfl ?_
  refine jx_iconst (v := (1 : Int32)) dL_law_1833 (by decide) ?_
  refine jx_iadd dL_law_1834 ?_
  refine jx_sld (k := 1) rfl (by omega) hL dL_law_1835 ?_
  refine jx_aload_n dL_law_1836 rfl 0 rfl ?_
  refine jx_iload_n dL_law_1837 rfl 3 rfl ?_
  refine jx_iconst (v := (2 : Int32)) dL_law_1838 (by decide) ?_
  refine jx_iadd dL_law_1839 ?_
  refine jx_sld (k := 2) rfl (by omega) hL dL_law_1840 ?_
  refine jx_aload_n dL_law_1841 rfl 0 rfl ?_
  refine jx_iload_n dL_law_1842 rfl 3 rfl ?_
  refine jx_iconst (v := (3 : Int32)) dL_law_1843 (by decide) ?_
  refine jx_iadd dL_law_1844 ?_
  refine jx_sld (k := 3) rfl (by omega) hL dL_law_1845 ?_
  refine jx_call lkL_184 wIM_X12_row wSE_X12_row (q := 11) (by decide +kernel) (by decide) rfl h2 (by omega) rfl rfl (Nat.le_of_ble_eq_true rfl) dL_law_1846 ?_
  refine jx_icmp_eq (tgt := 2066) (nxt := 1852) dL_law_1849 (by decide) rfl (fun _ => ?_) (fun hc => absurd rfl hc)
  exact kk
/-- case 39: write -/
def jS_write (R : jWd → Prop) : Prop := ∀ (w : jWd) (a0 : Int32) (a1 : Int32) (a2 : Int64), R w → ∃ (v : Int64) (w1 w2 : jWd), JM yX11_write MX11_write 3 [.ref 0, .int a0, .int a1, .long a2] w (some (.long v)) w1 ∧ JM yX12_write MX12_write 2 [.ref 205, .int a0, .int a1, .long a2] w1 (some (.long v)) w2 ∧ R w2
set_option maxHeartbeats 4000000 in
set_option maxRecDepth 100000 in
theorem jc_write {L i : Nat} {xs : Nat → Int32} (hL : L ≤ 4096) (hi : i + 8 ≤ L) {w w1 w2 : jWd} {v : Int64}
    (h1 : JM yX11_write MX11_write 3 [.ref 0, .int (xs (i + 1)), .int (xs (i + 2)), .long (lkL (xs (i + 3)) (xs (i + 4)))] w (some (.long v)) w1) (h2 : JM yX12_write MX12_write 2 [.ref 205, .int (xs (i + 1)), .int (xs (i + 2)), .long (lkL (xs (i + 3)) (xs (i + 4)))] w1 (some (.long v)) w2)
    (kk : JL L xs w2 2066 [(0, .ref 3001), (1, .ref 0), (2, .ref 205), (3, .int (nI i))] []) : JL L xs w 1854 [(0, .ref 3001), (1, .ref 0), (2, .ref 205), (3, .int (nI i))] [] := by
  refine jx_aload_n dL_law_1854 rfl 1 rfl ?_
  refine jx_aload_n dL_law_1855 rfl 0 rfl ?_
  refine jx_iload_n dL_law_1856 rfl 3 rfl ?_
  refine jx_iconst (v := (1 : Int32)) dL_law_1857 (by decide) ?_
  refine jx_iadd dL_law_1858 ?_
  refine jx_sld (k := 1) rfl (by omega) hL dL_law_1859 ?_
  refine jx_aload_n dL_law_1860 rfl 0 rfl ?_
  refine jx_iload_n dL_law_1861 rfl 3 rfl ?_
  refine jx_iconst (v := (2 : Int32)) dL_law_1862 (by decide) ?_
  refine jx_iadd dL_law_1863 ?_
  refine jx_sld (k := 2) rfl (by omega) hL dL_law_1864 ?_
  refine jx_aload_n dL_law_1865 rfl 0 rfl ?_
  refine jx_iload_n dL_law_1866 rfl 3 rfl ?_
  refine jx_iconst (v := (3 : Int32)) dL_law_1867 (by decide) ?_
  refine jx_iadd dL_law_1868 ?_
  refine jx_sld (k := 3) rfl (by omega) hL dL_law_1869 ?_
  refine jx_i2l dL_law_1870 ?_
  refine jx_bipush (v := (32 : Int32)) dL_law_1871 (by decide) ?_
  refine jx_lshl dL_law_1873 ?_
  refine jx_aload_n dL_law_1874 rfl 0 rfl ?_
  refine jx_iload_n dL_law_1875 rfl 3 rfl ?_
  refine jx_iconst (v := (4 : Int32)) dL_law_1876 (by decide) ?_
  refine jx_iadd dL_law_1877 ?_
  refine jx_sld (k := 4) rfl (by omega) hL dL_law_1878 ?_
  refine jx_i2l dL_law_1879 ?_
  refine jx_ldc2 xCL dL_law_1880 ?_
  refine jx_land dL_law_1883 ?_
  refine jx_lor dL_law_1884 ?_
  refine jx_call lkL_185 wIM_X11_write wSE_X11_write (q := 10) (by decide +kernel) (by decide) rfl h1 (by omega) rfl rfl (Nat.le_of_ble_eq_true rfl) dL_law_1885 ?_
  refine jx_aload_n dL_law_1888 rfl 2 rfl ?_
  refine jx_aload_n dL_law_1889 rfl 0 rfl ?_
  refine jx_iload_n dL_law_1890 rfl 3 rfl ?_
  refine jx_iconst (v := (1 : Int32)) dL_law_1891 (by decide) ?_
  refine jx_iadd dL_law_1892 ?_
  refine jx_sld (k := 1) rfl (by omega) hL dL_law_1893 ?_
  refine jx_aload_n dL_law_1894 rfl 0 rfl ?_
  refine jx_iload_n dL_law_1895 rfl 3 rfl ?_
  refine jx_iconst (v := (2 : Int32)) dL_law_1896 (by decide) ?_
  refine jx_iadd dL_law_1897 ?_
  refine jx_sld (k := 2) rfl (by omega) hL dL_law_1898 ?_
  refine jx_aload_n dL_law_1899 rfl 0 rfl ?_
  refine jx_iload_n dL_law_1900 rfl 3 rfl ?_
  refine jx_iconst (v := (3 : Int32)) dL_law_1901 (by decide) ?_
  refine jx_iadd dL_law_1902 ?_
  refine jx_sld (k := 3) rfl (by omega) hL dL_law_1903 ?_
  refine jx_i2l dL_law_1904 ?_
  refine jx_bipush (v := (32 : Int32)) dL_law_1905 (by decide) ?_
  refine jx_lshl dL_law_1907 ?_
  refine jx_aload_n dL_law_1908 rfl 0 rfl ?_
  refine jx_iload_n dL_law_1909 rfl 3 rfl ?_
  refine jx_iconst (v := (4 : Int32)) dL_law_1910 (by decide) ?_
  refine jx_iadd dL_law_1911 ?_
  refine jx_sld (k := 4) rfl (by omega) hL dL_law_1912 ?_
  refine jx_i2l dL_law_1913 ?_
  refine jx_ldc2 xCL dL_law_1914 ?_
  refine jx_land dL_law_1917 ?_
  refine jx_lor dL_law_1918 ?_
  refine jx_call lkL_189 wIM_X12_write wSE_X12_write (q := 11) (by decide +kernel) (by decide) rfl h2 (by omega) rfl rfl (Nat.le_of_ble_eq_true rfl) dL_law_1919 ?_
  refine jx_lcmp dL_law_1922 ?_
  refine jx_if_eq (tgt := 2066) (nxt := 1926) dL_law_1923 (by decide) rfl (fun _ => ?_) (fun hc => absurd (by simp [lg_cmp]) hc)
  exact kk
/-- case 40: minister -/
def jS_minister (R : jWd → Prop) : Prop := ∀ (w : jWd) (a0 : Int32), R w → ∃ (v : Int32) (w1 w2 : jWd), JM yX11_minister MX11_minister 3 [.ref 0, .int a0] w (some (.int v)) w1 ∧ JM yX12_minister MX12_minister 5 [.ref 205, .int a0] w1 (some (.int v)) w2 ∧ R w2
set_option maxHeartbeats 4000000 in
set_option maxRecDepth 100000 in
theorem jc_minister {L i : Nat} {xs : Nat → Int32} (hL : L ≤ 4096) (hi : i + 8 ≤ L) {w w1 w2 : jWd} {v : Int32}
    (h1 : JM yX11_minister MX11_minister 3 [.ref 0, .int (xs (i + 1))] w (some (.int v)) w1) (h2 : JM yX12_minister MX12_minister 5 [.ref 205, .int (xs (i + 1))] w1 (some (.int v)) w2)
    (kk : JL L xs w2 2066 [(0, .ref 3001), (1, .ref 0), (2, .ref 205), (3, .int (nI i))] []) : JL L xs w 1928 [(0, .ref 3001), (1, .ref 0), (2, .ref 205), (3, .int (nI i))] [] := by
  refine jx_aload_n dL_law_1928 rfl 1 rfl ?_
  refine jx_aload_n dL_law_1929 rfl 0 rfl ?_
  refine jx_iload_n dL_law_1930 rfl 3 rfl ?_
  refine jx_iconst (v := (1 : Int32)) dL_law_1931 (by decide) ?_
  refine jx_iadd dL_law_1932 ?_
  refine jx_sld (k := 1) rfl (by omega) hL dL_law_1933 ?_
  refine jx_call lkL_190 wIM_X11_minister wSE_X11_minister (q := 10) (by decide +kernel) (by decide) rfl h1 (by omega) rfl rfl (Nat.le_of_ble_eq_true rfl) dL_law_1934 ?_
  refine jx_aload_n dL_law_1937 rfl 2 rfl ?_
  refine jx_aload_n dL_law_1938 rfl 0 rfl ?_
  refine jx_iload_n dL_law_1939 rfl 3 rfl ?_
  refine jx_iconst (v := (1 : Int32)) dL_law_1940 (by decide) ?_
  refine jx_iadd dL_law_1941 ?_
  refine jx_sld (k := 1) rfl (by omega) hL dL_law_1942 ?_
  refine jx_call lkL_193 wIM_X12_minister wSE_X12_minister (q := 11) (by decide +kernel) (by decide) rfl h2 (by omega) rfl rfl (Nat.le_of_ble_eq_true rfl) dL_law_1943 ?_
  refine jx_icmp_eq (tgt := 2066) (nxt := 1949) dL_law_1946 (by decide) rfl (fun _ => ?_) (fun hc => absurd rfl hc)
  exact kk
/-- case 41: say -/
def jS_say (R : jWd → Prop) : Prop := ∀ (w : jWd) (a0 : Int32), R w → ∃ (v : Int32) (w1 w2 : jWd), JM yX11_say MX11_say 6 [.ref 0, .int a0] w (some (.int v)) w1 ∧ JM yX12_say MX12_say 7 [.ref 205, .int a0] w1 (some (.int v)) w2 ∧ R w2
set_option maxHeartbeats 4000000 in
set_option maxRecDepth 100000 in
theorem jc_say {L i : Nat} {xs : Nat → Int32} (hL : L ≤ 4096) (hi : i + 8 ≤ L) {w w1 w2 : jWd} {v : Int32}
    (h1 : JM yX11_say MX11_say 6 [.ref 0, .int (xs (i + 1))] w (some (.int v)) w1) (h2 : JM yX12_say MX12_say 7 [.ref 205, .int (xs (i + 1))] w1 (some (.int v)) w2)
    (kk : JL L xs w2 2066 [(0, .ref 3001), (1, .ref 0), (2, .ref 205), (3, .int (nI i))] []) : JL L xs w 1951 [(0, .ref 3001), (1, .ref 0), (2, .ref 205), (3, .int (nI i))] [] := by
  refine jx_aload_n dL_law_1951 rfl 1 rfl ?_
  refine jx_aload_n dL_law_1952 rfl 0 rfl ?_
  refine jx_iload_n dL_law_1953 rfl 3 rfl ?_
  refine jx_iconst (v := (1 : Int32)) dL_law_1954 (by decide) ?_
  refine jx_iadd dL_law_1955 ?_
  refine jx_sld (k := 1) rfl (by omega) hL dL_law_1956 ?_
  refine jx_call lkL_194 wIM_X11_say wSE_X11_say (q := 10) (by decide +kernel) (by decide) rfl h1 (by omega) rfl rfl (Nat.le_of_ble_eq_true rfl) dL_law_1957 ?_
  refine jx_aload_n dL_law_1960 rfl 2 rfl ?_
  refine jx_aload_n dL_law_1961 rfl 0 rfl ?_
  refine jx_iload_n dL_law_1962 rfl 3 rfl ?_
  refine jx_iconst (v := (1 : Int32)) dL_law_1963 (by decide) ?_
  refine jx_iadd dL_law_1964 ?_
  refine jx_sld (k := 1) rfl (by omega) hL dL_law_1965 ?_
  refine jx_call lkL_197 wIM_X12_say wSE_X12_say (q := 11) (by decide +kernel) (by decide) rfl h2 (by omega) rfl rfl (Nat.le_of_ble_eq_true rfl) dL_law_1966 ?_
  refine jx_icmp_eq (tgt := 2066) (nxt := 1972) dL_law_1969 (by decide) rfl (fun _ => ?_) (fun hc => absurd rfl hc)
  exact kk
/-- case 42: image -/
def jS_image (R : jWd → Prop) : Prop := ∀ (w : jWd) (a0 : Int32), R w → ∃ (v : Int32) (w1 w2 : jWd), JM yX11_image MX11_image 3 [.ref 0, .int a0] w (some (.int v)) w1 ∧ JM yX12_image MX12_image 2 [.ref 205, .int a0] w1 (some (.int v)) w2 ∧ R w2
set_option maxHeartbeats 4000000 in
set_option maxRecDepth 100000 in
theorem jc_image {L i : Nat} {xs : Nat → Int32} (hL : L ≤ 4096) (hi : i + 8 ≤ L) {w w1 w2 : jWd} {v : Int32}
    (h1 : JM yX11_image MX11_image 3 [.ref 0, .int (xs (i + 1))] w (some (.int v)) w1) (h2 : JM yX12_image MX12_image 2 [.ref 205, .int (xs (i + 1))] w1 (some (.int v)) w2)
    (kk : JL L xs w2 2066 [(0, .ref 3001), (1, .ref 0), (2, .ref 205), (3, .int (nI i))] []) : JL L xs w 1974 [(0, .ref 3001), (1, .ref 0), (2, .ref 205), (3, .int (nI i))] [] := by
  refine jx_aload_n dL_law_1974 rfl 1 rfl ?_
  refine jx_aload_n dL_law_1975 rfl 0 rfl ?_
  refine jx_iload_n dL_law_1976 rfl 3 rfl ?_
  refine jx_iconst (v := (1 : Int32)) dL_law_1977 (by decide) ?_
  refine jx_iadd dL_law_1978 ?_
  refine jx_sld (k := 1) rfl (by omega) hL dL_law_1979 ?_
  refine jx_call lkL_198 wIM_X11_image wSE_X11_image (q := 10) (by decide +kernel) (by decide) rfl h1 (by omega) rfl rfl (Nat.le_of_ble_eq_true rfl) dL_law_1980 ?_
  refine jx_aload_n dL_law_1983 rfl 2 rfl ?_
  refine jx_aload_n dL_law_1984 rfl 0 rfl ?_
  refine jx_iload_n dL_law_1985 rfl 3 rfl ?_
  refine jx_iconst (v := (1 : Int32)) dL_law_1986 (by decide) ?_
  refine jx_iadd dL_law_1987 ?_
  refine jx_sld (k := 1) rfl (by omega) hL dL_law_1988 ?_
  refine jx_call lkL_201 wIM_X12_image wSE_X12_image (q := 11) (by decide +kernel) (by decide) rfl h2 (by omega) rfl rfl (Nat.le_of_ble_eq_true rfl) dL_law_1989 ?_
  refine jx_icmp_eq (tgt := 2066) (nxt := 1995) dL_law_1992 (by decide) rfl (fun _ => ?_) (fun hc => absurd rfl hc)
  exact kk
/-- case 43: restore -/
def jS_restore (R : jWd → Prop) : Prop := ∀ (w : jWd) (a0 : Int32), R w → ∃ (v : Int32) (w1 w2 : jWd), JM yX11_restore MX11_restore 3 [.ref 0, .int a0] w (some (.int v)) w1 ∧ JM yX12_restore MX12_restore 2 [.ref 205, .int a0] w1 (some (.int v)) w2 ∧ R w2
set_option maxHeartbeats 4000000 in
set_option maxRecDepth 100000 in
theorem jc_restore {L i : Nat} {xs : Nat → Int32} (hL : L ≤ 4096) (hi : i + 8 ≤ L) {w w1 w2 : jWd} {v : Int32}
    (h1 : JM yX11_restore MX11_restore 3 [.ref 0, .int (xs (i + 1))] w (some (.int v)) w1) (h2 : JM yX12_restore MX12_restore 2 [.ref 205, .int (xs (i + 1))] w1 (some (.int v)) w2)
    (kk : JL L xs w2 2066 [(0, .ref 3001), (1, .ref 0), (2, .ref 205), (3, .int (nI i))] []) : JL L xs w 1997 [(0, .ref 3001), (1, .ref 0), (2, .ref 205), (3, .int (nI i))] [] := by
  refine jx_aload_n dL_law_1997 rfl 1 rfl ?_
  refine jx_aload_n dL_law_1998 rfl 0 rfl ?_
  refine jx_iload_n dL_law_1999 rfl 3 rfl ?_
  refine jx_iconst (v := (1 : Int32)) dL_law_2000 (by decide) ?_
  refine jx_iadd dL_law_2001 ?_
  refine jx_sld (k := 1) rfl (by omega) hL dL_law_2002 ?_
  refine jx_call lkL_202 wIM_X11_restore wSE_X11_restore (q := 10) (by decide +kernel) (by decide) rfl h1 (by omega) rfl rfl (Nat.le_of_ble_eq_true rfl) dL_law_2003 ?_
  refine jx_aload_n dL_law_2006 rfl 2 rfl ?_
  refine jx_aload_n dL_law_2007 rfl 0 rfl ?_
  refine jx_iload_n dL_law_2008 rfl 3 rfl ?_
  refine jx_iconst (v := (1 : Int32)) dL_law_2009 (by decide) ?_
  refine jx_iadd dL_law_2010 ?_
  refine jx_sld (k := 1) rfl (by omega) hL dL_law_2011 ?_
  refine jx_call lkL_205 wIM_X12_restore wSE_X12_restore (q := 11) (by decide +kernel) (by decide) rfl h2 (by omega) rfl rfl (Nat.le_of_ble_eq_true rfl) dL_law_2012 ?_
  refine jx_icmp_eq (tgt := 2066) (nxt := 2018) dL_law_2015 (by decide) rfl (fun _ => ?_) (fun hc => absurd rfl hc)
  exact kk
/-- case 44: status -/
def jS_status (R : jWd → Prop) : Prop := ∀ (w : jWd) (a0 : Int32), R w → ∃ (v : Int32) (w1 w2 : jWd), JM yX11_status MX11_status 2 [.ref 0, .int a0] w (some (.int v)) w1 ∧ JM yX12_status MX12_status 2 [.ref 205, .int a0] w1 (some (.int v)) w2 ∧ R w2
set_option maxHeartbeats 4000000 in
set_option maxRecDepth 100000 in
theorem jc_status {L i : Nat} {xs : Nat → Int32} (hL : L ≤ 4096) (hi : i + 8 ≤ L) {w w1 w2 : jWd} {v : Int32}
    (h1 : JM yX11_status MX11_status 2 [.ref 0, .int (xs (i + 1))] w (some (.int v)) w1) (h2 : JM yX12_status MX12_status 2 [.ref 205, .int (xs (i + 1))] w1 (some (.int v)) w2)
    (kk : JL L xs w2 2066 [(0, .ref 3001), (1, .ref 0), (2, .ref 205), (3, .int (nI i))] []) : JL L xs w 2020 [(0, .ref 3001), (1, .ref 0), (2, .ref 205), (3, .int (nI i))] [] := by
  refine jx_aload_n dL_law_2020 rfl 1 rfl ?_
  refine jx_aload_n dL_law_2021 rfl 0 rfl ?_
  refine jx_iload_n dL_law_2022 rfl 3 rfl ?_
  refine jx_iconst (v := (1 : Int32)) dL_law_2023 (by decide) ?_
  refine jx_iadd dL_law_2024 ?_
  refine jx_sld (k := 1) rfl (by omega) hL dL_law_2025 ?_
  refine jx_call lkL_206 wIM_X11_status wSE_X11_status (q := 10) (by decide +kernel) (by decide) rfl h1 (by omega) rfl rfl (Nat.le_of_ble_eq_true rfl) dL_law_2026 ?_
  refine jx_aload_n dL_law_2029 rfl 2 rfl ?_
  refine jx_aload_n dL_law_2030 rfl 0 rfl ?_
  refine jx_iload_n dL_law_2031 rfl 3 rfl ?_
  refine jx_iconst (v := (1 : Int32)) dL_law_2032 (by decide) ?_
  refine jx_iadd dL_law_2033 ?_
  refine jx_sld (k := 1) rfl (by omega) hL dL_law_2034 ?_
  refine jx_call lkL_209 wIM_X12_status wSE_X12_status (q := 11) (by decide +kernel) (by decide) rfl h2 (by omega) rfl rfl (Nat.le_of_ble_eq_true rfl) dL_law_2035 ?_
  refine jx_icmp_eq (tgt := 2066) (nxt := 2041) dL_law_2038 (by decide) rfl (fun _ => ?_) (fun hc => absurd rfl hc)
  exact kk
/-- case 45: count -/
def jS_count (R : jWd → Prop) : Prop := ∀ (w : jWd) (a0 : Int32), R w → ∃ (v : Int32) (w1 w2 : jWd), JM yX11_count MX11_count 3 [.ref 0, .int a0] w (some (.int v)) w1 ∧ JM yX12_count MX12_count 2 [.ref 205, .int a0] w1 (some (.int v)) w2 ∧ R w2
set_option maxHeartbeats 4000000 in
set_option maxRecDepth 100000 in
theorem jc_count {L i : Nat} {xs : Nat → Int32} (hL : L ≤ 4096) (hi : i + 8 ≤ L) {w w1 w2 : jWd} {v : Int32}
    (h1 : JM yX11_count MX11_count 3 [.ref 0, .int (xs (i + 1))] w (some (.int v)) w1) (h2 : JM yX12_count MX12_count 2 [.ref 205, .int (xs (i + 1))] w1 (some (.int v)) w2)
    (kk : JL L xs w2 2066 [(0, .ref 3001), (1, .ref 0), (2, .ref 205), (3, .int (nI i))] []) : JL L xs w 2043 [(0, .ref 3001), (1, .ref 0), (2, .ref 205), (3, .int (nI i))] [] := by
  refine jx_aload_n dL_law_2043 rfl 1 rfl ?_
  refine jx_aload_n dL_law_2044 rfl 0 rfl ?_
  refine jx_iload_n dL_law_2045 rfl 3 rfl ?_
  refine jx_iconst (v := (1 : Int32)) dL_law_2046 (by decide) ?_
  refine jx_iadd dL_law_2047 ?_
  refine jx_sld (k := 1) rfl (by omega) hL dL_law_2048 ?_
  refine jx_call lkL_210 wIM_X11_count wSE_X11_count (q := 10) (by decide +kernel) (by decide) rfl h1 (by omega) rfl rfl (Nat.le_of_ble_eq_true rfl) dL_law_2049 ?_
  refine jx_aload_n dL_law_2052 rfl 2 rfl ?_
  refine jx_aload_n dL_law_2053 rfl 0 rfl ?_
  refine jx_iload_n dL_law_2054 rfl 3 rfl ?_
  refine jx_iconst (v := (1 : Int32)) dL_law_2055 (by decide) ?_
  refine jx_iadd dL_law_2056 ?_
  refine jx_sld (k := 1) rfl (by omega) hL dL_law_2057 ?_
  refine jx_call lkL_213 wIM_X12_count wSE_X12_count (q := 11) (by decide +kernel) (by decide) rfl h2 (by omega) rfl rfl (Nat.le_of_ble_eq_true rfl) dL_law_2058 ?_
  refine jx_icmp_eq (tgt := 2066) (nxt := 2064) dL_law_2061 (by decide) rfl (fun _ => ?_) (fun hc => absurd rfl hc)
  exact kk
def jSteps (R : jWd → Prop) : Prop := jS_open R ∧ jS_line R ∧ jS_print R ∧ jS_bounds R ∧ jS_words R ∧ jS_like R ∧ jS_feed R ∧ jS_text R ∧ jS_fault R ∧ jS_smoothed R ∧ jS_told R ∧ jS_whose R ∧ jS_late R ∧ jS_share R ∧ jS_span R ∧ jS_chance R ∧ jS_odds R ∧ jS_matches R ∧ jS_most R ∧ jS_adds R ∧ jS_added R ∧ jS_year R ∧ jS_version R ∧ jS_which R ∧ jS_answer R ∧ jS_back R ∧ jS_backOdds R ∧ jS_parted R ∧ jS_muddled R ∧ jS_glen R ∧ jS_paid R ∧ jS_pages R ∧ jS_more R ∧ jS_free R ∧ jS_rate R ∧ jS_world R ∧ jS_says R ∧ jS_ask R ∧ jS_row R ∧ jS_write R ∧ jS_minister R ∧ jS_say R ∧ jS_image R ∧ jS_restore R ∧ jS_status R ∧ jS_count R
set_option maxHeartbeats 4000000 in
set_option maxRecDepth 100000 in
theorem jx_loop {R : jWd → Prop} (hR : jSteps R) {L : Nat} {xs : Nat → Int32} (hL : L ≤ 4096) : ∀ (n i : Nat) (w : jWd), R w → i ≤ L → L + 1 ≤ i + n → JL L xs w 18 [(0, .ref 3001), (1, .ref 0), (2, .ref 205), (3, .int (nI i))] [] := by
  intro n
  induction n with
  | zero => intro i w _ h1 h2; exact absurd h2 (by omega)
  | succ n ih =>
    intro i w hw hi hn
    refine jx_iload_n dL_law_18 rfl 3 rfl ?_
    refine jx_aload_n dL_law_19 rfl 0 rfl ?_
    refine jx_slen dL_law_20 ?_
    refine jx_bipush (v := (8 : Int32)) dL_law_21 (by decide) ?_
    refine jx_isub dL_law_23 ?_
    refine jx_icmp_gt (tgt := 2072) (nxt := 27) dL_law_24 (by decide) rfl (fun _ => ?_) (fun hc => ?_)
    · refine jx_iconst (v := (1 : Int32)) dL_law_2072 (by decide) ?_
      exact jx_ret dL_law_2073
    · have h8 : i + 8 ≤ L := by
        apply Decidable.byContradiction
        intro hq
        apply hc
        rw [Int32.lt_iff_toInt_lt, nI_toInt (show i < 2 ^ 31 by omega), show (8 : Int32) = nI 8 from rfl, pk_sub_toInt (show L < 2 ^ 30 by omega) (by decide)]
        omega
      have hnext : ∀ w2, R w2 → JL L xs w2 2066 [(0, .ref 3001), (1, .ref 0), (2, .ref 205), (3, .int (nI i))] [] := by
        intro w2 hw2
        refine jx_iinc (x := nI i) (v := nI (i + 8)) (lv' := [(3, .int (nI (i + 8))), (0, .ref 3001), (1, .ref 0), (2, .ref 205)]) dL_law_2066 3 rfl (nI_add i 8) (by decide) rfl ?_
        refine jx_goto (tgt := 18) dL_law_2069 (by decide) ?_
        refine jx_sub [1, 2, 3, 0] rfl ?_
        exact ih (i + 8) w2 hw2 h8 (by omega)
      refine jx_aload_n dL_law_27 rfl 0 rfl ?_
      refine jx_iload_n dL_law_28 rfl 3 rfl ?_
      refine jx_sld0 (by omega) hL dL_law_29 ?_
      refine jx_bipush (v := (63 : Int32)) dL_law_30 (by decide) ?_
      refine jx_iand dL_law_32 ?_
      by_cases hs0 : (xs i &&& (63 : Int32)) = (0 : Int32)
      · refine jx_tableK (tgt := 232) dL_law_33 hs0 (by decide) (by decide) rfl (by decide) ?_
        obtain ⟨v, w1, w2, h1, h2, h3⟩ := hR.1 w (xs (i + 1)) (xs (i + 2)) (xs (i + 3)) (xs (i + 4)) hw
        exact jc_open hL h8 h1 h2 (hnext w2 h3)
      by_cases hs1 : (xs i &&& (63 : Int32)) = (1 : Int32)
      · refine jx_tableK (tgt := 285) dL_law_33 hs1 (by decide) (by decide) rfl (by decide) ?_
        obtain ⟨v, w1, w2, h1, h2, h3⟩ := hR.2.1 w (xs (i + 1)) (xs (i + 2)) (xs (i + 3)) (lkL (xs (i + 4)) (xs (i + 5))) hw
        exact jc_line hL h8 h1 h2 (hnext w2 h3)
      by_cases hs2 : (xs i &&& (63 : Int32)) = (2 : Int32)
      · refine jx_tableK (tgt := 368) dL_law_33 hs2 (by decide) (by decide) rfl (by decide) ?_
        obtain ⟨v, w1, w2, h1, h2, h3⟩ := hR.2.2.1 w (xs (i + 1)) hw
        exact jc_print hL h8 h1 h2 (hnext w2 h3)
      by_cases hs3 : (xs i &&& (63 : Int32)) = (3 : Int32)
      · refine jx_tableK (tgt := 391) dL_law_33 hs3 (by decide) (by decide) rfl (by decide) ?_
        obtain ⟨v, w1, w2, h1, h2, h3⟩ := hR.2.2.2.1 w (xs (i + 1)) (xs (i + 2)) hw
        exact jc_bounds hL h8 h1 h2 (hnext w2 h3)
      by_cases hs4 : (xs i &&& (63 : Int32)) = (4 : Int32)
      · refine jx_tableK (tgt := 424) dL_law_33 hs4 (by decide) (by decide) rfl (by decide) ?_
        obtain ⟨v, w1, w2, h1, h2, h3⟩ := hR.2.2.2.2.1 w (xs (i + 1)) (xs (i + 2)) (xs (i + 3)) hw
        exact jc_words hL h8 h1 h2 (hnext w2 h3)
      by_cases hs5 : (xs i &&& (63 : Int32)) = (5 : Int32)
      · refine jx_tableK (tgt := 468) dL_law_33 hs5 (by decide) (by decide) rfl (by decide) ?_
        obtain ⟨v, w1, w2, h1, h2, h3⟩ := hR.2.2.2.2.2.1 w (lkL (xs (i + 1)) (xs (i + 2))) (lkL (xs (i + 3)) (xs (i + 4))) hw
        exact jc_like hL h8 h1 h2 (hnext w2 h3)
      by_cases hs6 : (xs i &&& (63 : Int32)) = (6 : Int32)
      · refine jx_tableK (tgt := 561) dL_law_33 hs6 (by decide) (by decide) rfl (by decide) ?_
        obtain ⟨v, w1, w2, h1, h2, h3⟩ := hR.2.2.2.2.2.2.1 w (xs (i + 1)) (xs (i + 2)) (xs (i + 3)) (xs (i + 4)) (xs (i + 5)) hw
        exact jc_feed hL h8 h1 h2 (hnext w2 h3)
      by_cases hs7 : (xs i &&& (63 : Int32)) = (7 : Int32)
      · refine jx_tableK (tgt := 624) dL_law_33 hs7 (by decide) (by decide) rfl (by decide) ?_
        obtain ⟨v, w1, w2, h1, h2, h3⟩ := hR.2.2.2.2.2.2.2.1 w (xs (i + 1)) (xs (i + 2)) hw
        exact jc_text hL h8 h1 h2 (hnext w2 h3)
      by_cases hs8 : (xs i &&& (63 : Int32)) = (8 : Int32)
      · refine jx_tableK (tgt := 657) dL_law_33 hs8 (by decide) (by decide) rfl (by decide) ?_
        obtain ⟨v, w1, w2, h1, h2, h3⟩ := hR.2.2.2.2.2.2.2.2.1 w (xs (i + 1)) hw
        exact jc_fault hL h8 h1 h2 (hnext w2 h3)
      by_cases hs9 : (xs i &&& (63 : Int32)) = (9 : Int32)
      · refine jx_tableK (tgt := 680) dL_law_33 hs9 (by decide) (by decide) rfl (by decide) ?_
        obtain ⟨v, w1, w2, h1, h2, h3⟩ := hR.2.2.2.2.2.2.2.2.2.1 w (lkL (xs (i + 1)) (xs (i + 2))) (xs (i + 3)) hw
        exact jc_smoothed hL h8 h1 h2 (hnext w2 h3)
      by_cases hs10 : (xs i &&& (63 : Int32)) = (10 : Int32)
      · refine jx_tableK (tgt := 744) dL_law_33 hs10 (by decide) (by decide) rfl (by decide) ?_
        obtain ⟨v, w1, w2, h1, h2, h3⟩ := hR.2.2.2.2.2.2.2.2.2.2.1 w (xs (i + 1)) (xs (i + 2)) (xs (i + 3)) (xs (i + 4)) hw
        exact jc_told hL h8 h1 h2 (hnext w2 h3)
      by_cases hs11 : (xs i &&& (63 : Int32)) = (11 : Int32)
      · refine jx_tableK (tgt := 797) dL_law_33 hs11 (by decide) (by decide) rfl (by decide) ?_
        obtain ⟨v, w1, w2, h1, h2, h3⟩ := hR.2.2.2.2.2.2.2.2.2.2.2.1 w (xs (i + 1)) (xs (i + 2)) hw
        exact jc_whose hL h8 h1 h2 (hnext w2 h3)
      by_cases hs12 : (xs i &&& (63 : Int32)) = (12 : Int32)
      · refine jx_tableK (tgt := 830) dL_law_33 hs12 (by decide) (by decide) rfl (by decide) ?_
        obtain ⟨v, w1, w2, h1, h2, h3⟩ := hR.2.2.2.2.2.2.2.2.2.2.2.2.1 w (xs (i + 1)) (xs (i + 2)) hw
        exact jc_late hL h8 h1 h2 (hnext w2 h3)
      by_cases hs13 : (xs i &&& (63 : Int32)) = (13 : Int32)
      · refine jx_tableK (tgt := 863) dL_law_33 hs13 (by decide) (by decide) rfl (by decide) ?_
        obtain ⟨v, w1, w2, h1, h2, h3⟩ := hR.2.2.2.2.2.2.2.2.2.2.2.2.2.1 w (xs (i + 1)) (xs (i + 2)) hw
        exact jc_share hL h8 h1 h2 (hnext w2 h3)
      by_cases hs14 : (xs i &&& (63 : Int32)) = (14 : Int32)
      · refine jx_tableK (tgt := 896) dL_law_33 hs14 (by decide) (by decide) rfl (by decide) ?_
        obtain ⟨v, w1, w2, h1, h2, h3⟩ := hR.2.2.2.2.2.2.2.2.2.2.2.2.2.2.1 w (xs (i + 1)) hw
        exact jc_span hL h8 h1 h2 (hnext w2 h3)
      by_cases hs15 : (xs i &&& (63 : Int32)) = (15 : Int32)
      · refine jx_tableK (tgt := 919) dL_law_33 hs15 (by decide) (by decide) rfl (by decide) ?_
        obtain ⟨v, w1, w2, h1, h2, h3⟩ := hR.2.2.2.2.2.2.2.2.2.2.2.2.2.2.2.1 w (xs (i + 1)) (xs (i + 2)) hw
        exact jc_chance hL h8 h1 h2 (hnext w2 h3)
      by_cases hs16 : (xs i &&& (63 : Int32)) = (16 : Int32)
      · refine jx_tableK (tgt := 952) dL_law_33 hs16 (by decide) (by decide) rfl (by decide) ?_
        obtain ⟨v, w1, w2, h1, h2, h3⟩ := hR.2.2.2.2.2.2.2.2.2.2.2.2.2.2.2.2.1 w (xs (i + 1)) (xs (i + 2)) hw
        exact jc_odds hL h8 h1 h2 (hnext w2 h3)
      by_cases hs17 : (xs i &&& (63 : Int32)) = (17 : Int32)
      · refine jx_tableK (tgt := 986) dL_law_33 hs17 (by decide) (by decide) rfl (by decide) ?_
        obtain ⟨v, w1, w2, h1, h2, h3⟩ := hR.2.2.2.2.2.2.2.2.2.2.2.2.2.2.2.2.2.1 w (xs (i + 1)) (xs (i + 2)) hw
        exact jc_matches hL h8 h1 h2 (hnext w2 h3)
      by_cases hs18 : (xs i &&& (63 : Int32)) = (18 : Int32)
      · refine jx_tableK (tgt := 1019) dL_law_33 hs18 (by decide) (by decide) rfl (by decide) ?_
        obtain ⟨v, w1, w2, h1, h2, h3⟩ := hR.2.2.2.2.2.2.2.2.2.2.2.2.2.2.2.2.2.2.1 w (xs (i + 1)) (xs (i + 2)) hw
        exact jc_most hL h8 h1 h2 (hnext w2 h3)
      by_cases hs19 : (xs i &&& (63 : Int32)) = (19 : Int32)
      · refine jx_tableK (tgt := 1052) dL_law_33 hs19 (by decide) (by decide) rfl (by decide) ?_
        obtain ⟨v, w1, w2, h1, h2, h3⟩ := hR.2.2.2.2.2.2.2.2.2.2.2.2.2.2.2.2.2.2.2.1 w (xs (i + 1)) (xs (i + 2)) hw
        exact jc_adds hL h8 h1 h2 (hnext w2 h3)
      by_cases hs20 : (xs i &&& (63 : Int32)) = (20 : Int32)
      · refine jx_tableK (tgt := 1085) dL_law_33 hs20 (by decide) (by decide) rfl (by decide) ?_
        obtain ⟨v, w1, w2, h1, h2, h3⟩ := hR.2.2.2.2.2.2.2.2.2.2.2.2.2.2.2.2.2.2.2.2.1 w (xs (i + 1)) (xs (i + 2)) (xs (i + 3)) hw
        exact jc_added hL h8 h1 h2 (hnext w2 h3)
      by_cases hs21 : (xs i &&& (63 : Int32)) = (21 : Int32)
      · refine jx_tableK (tgt := 1128) dL_law_33 hs21 (by decide) (by decide) rfl (by decide) ?_
        obtain ⟨v, w1, w2, h1, h2, h3⟩ := hR.2.2.2.2.2.2.2.2.2.2.2.2.2.2.2.2.2.2.2.2.2.1 w (xs (i + 1)) (xs (i + 2)) hw
        exact jc_year hL h8 h1 h2 (hnext w2 h3)
      by_cases hs22 : (xs i &&& (63 : Int32)) = (22 : Int32)
      · refine jx_tableK (tgt := 1161) dL_law_33 hs22 (by decide) (by decide) rfl (by decide) ?_
        obtain ⟨v, w1, w2, h1, h2, h3⟩ := hR.2.2.2.2.2.2.2.2.2.2.2.2.2.2.2.2.2.2.2.2.2.2.1 w (lkL (xs (i + 1)) (xs (i + 2))) (lkL (xs (i + 3)) (xs (i + 4))) (xs (i + 5)) (xs (i + 6)) hw
        exact jc_version hL h8 h1 h2 (hnext w2 h3)
      by_cases hs23 : (xs i &&& (63 : Int32)) = (23 : Int32)
      · refine jx_tableK (tgt := 1276) dL_law_33 hs23 (by decide) (by decide) rfl (by decide) ?_
        obtain ⟨v, w1, w2, h1, h2, h3⟩ := hR.2.2.2.2.2.2.2.2.2.2.2.2.2.2.2.2.2.2.2.2.2.2.2.1 w (xs (i + 1)) hw
        exact jc_which hL h8 h1 h2 (hnext w2 h3)
      by_cases hs24 : (xs i &&& (63 : Int32)) = (24 : Int32)
      · refine jx_tableK (tgt := 1299) dL_law_33 hs24 (by decide) (by decide) rfl (by decide) ?_
        obtain ⟨v, w1, w2, h1, h2, h3⟩ := hR.2.2.2.2.2.2.2.2.2.2.2.2.2.2.2.2.2.2.2.2.2.2.2.2.1 w (xs (i + 1)) (xs (i + 2)) (xs (i + 3)) (xs (i + 4)) (xs (i + 5)) (lkL (xs (i + 6)) (xs (i + 7))) hw
        exact jc_answer hL h8 h1 h2 (hnext w2 h3)
      by_cases hs25 : (xs i &&& (63 : Int32)) = (25 : Int32)
      · refine jx_tableK (tgt := 1406) dL_law_33 hs25 (by decide) (by decide) rfl (by decide) ?_
        obtain ⟨v, w1, w2, h1, h2, h3⟩ := hR.2.2.2.2.2.2.2.2.2.2.2.2.2.2.2.2.2.2.2.2.2.2.2.2.2.1 w (xs (i + 1)) hw
        exact jc_back hL h8 h1 h2 (hnext w2 h3)
      by_cases hs26 : (xs i &&& (63 : Int32)) = (26 : Int32)
      · refine jx_tableK (tgt := 1429) dL_law_33 hs26 (by decide) (by decide) rfl (by decide) ?_
        obtain ⟨v, w1, w2, h1, h2, h3⟩ := hR.2.2.2.2.2.2.2.2.2.2.2.2.2.2.2.2.2.2.2.2.2.2.2.2.2.2.1 w (xs (i + 1)) (xs (i + 2)) hw
        exact jc_backOdds hL h8 h1 h2 (hnext w2 h3)
      by_cases hs27 : (xs i &&& (63 : Int32)) = (27 : Int32)
      · refine jx_tableK (tgt := 1462) dL_law_33 hs27 (by decide) (by decide) rfl (by decide) ?_
        obtain ⟨v, w1, w2, h1, h2, h3⟩ := hR.2.2.2.2.2.2.2.2.2.2.2.2.2.2.2.2.2.2.2.2.2.2.2.2.2.2.2.1 w (xs (i + 1)) (lkB (xs (i + 2))) hw
        exact jc_parted hL h8 h1 h2 (hnext w2 h3)
      by_cases hs28 : (xs i &&& (63 : Int32)) = (28 : Int32)
      · refine jx_tableK (tgt := 1511) dL_law_33 hs28 (by decide) (by decide) rfl (by decide) ?_
        obtain ⟨v, w1, w2, h1, h2, h3⟩ := hR.2.2.2.2.2.2.2.2.2.2.2.2.2.2.2.2.2.2.2.2.2.2.2.2.2.2.2.2.1 w (xs (i + 1)) hw
        exact jc_muddled hL h8 h1 h2 (hnext w2 h3)
      by_cases hs29 : (xs i &&& (63 : Int32)) = (29 : Int32)
      · refine jx_tableK (tgt := 1534) dL_law_33 hs29 (by decide) (by decide) rfl (by decide) ?_
        obtain ⟨v, w1, w2, h1, h2, h3⟩ := hR.2.2.2.2.2.2.2.2.2.2.2.2.2.2.2.2.2.2.2.2.2.2.2.2.2.2.2.2.2.1 w (xs (i + 1)) (xs (i + 2)) hw
        exact jc_glen hL h8 h1 h2 (hnext w2 h3)
      by_cases hs30 : (xs i &&& (63 : Int32)) = (30 : Int32)
      · refine jx_tableK (tgt := 1567) dL_law_33 hs30 (by decide) (by decide) rfl (by decide) ?_
        obtain ⟨v, w1, w2, h1, h2, h3⟩ := hR.2.2.2.2.2.2.2.2.2.2.2.2.2.2.2.2.2.2.2.2.2.2.2.2.2.2.2.2.2.2.1 w (xs (i + 1)) (xs (i + 2)) hw
        exact jc_paid hL h8 h1 h2 (hnext w2 h3)
      by_cases hs31 : (xs i &&& (63 : Int32)) = (31 : Int32)
      · refine jx_tableK (tgt := 1600) dL_law_33 hs31 (by decide) (by decide) rfl (by decide) ?_
        obtain ⟨v, w1, w2, h1, h2, h3⟩ := hR.2.2.2.2.2.2.2.2.2.2.2.2.2.2.2.2.2.2.2.2.2.2.2.2.2.2.2.2.2.2.2.1 w (xs (i + 1)) (xs (i + 2)) hw
        exact jc_pages hL h8 h1 h2 (hnext w2 h3)
      by_cases hs32 : (xs i &&& (63 : Int32)) = (32 : Int32)
      · refine jx_tableK (tgt := 1633) dL_law_33 hs32 (by decide) (by decide) rfl (by decide) ?_
        obtain ⟨v, w1, w2, h1, h2, h3⟩ := hR.2.2.2.2.2.2.2.2.2.2.2.2.2.2.2.2.2.2.2.2.2.2.2.2.2.2.2.2.2.2.2.2.1 w (xs (i + 1)) (xs (i + 2)) hw
        exact jc_more hL h8 h1 h2 (hnext w2 h3)
      by_cases hs33 : (xs i &&& (63 : Int32)) = (33 : Int32)
      · refine jx_tableK (tgt := 1666) dL_law_33 hs33 (by decide) (by decide) rfl (by decide) ?_
        obtain ⟨v, w1, w2, h1, h2, h3⟩ := hR.2.2.2.2.2.2.2.2.2.2.2.2.2.2.2.2.2.2.2.2.2.2.2.2.2.2.2.2.2.2.2.2.2.1 w (xs (i + 1)) (xs (i + 2)) hw
        exact jc_free hL h8 h1 h2 (hnext w2 h3)
      by_cases hs34 : (xs i &&& (63 : Int32)) = (34 : Int32)
      · refine jx_tableK (tgt := 1699) dL_law_33 hs34 (by decide) (by decide) rfl (by decide) ?_
        obtain ⟨v, w1, w2, h1, h2, h3⟩ := hR.2.2.2.2.2.2.2.2.2.2.2.2.2.2.2.2.2.2.2.2.2.2.2.2.2.2.2.2.2.2.2.2.2.2.1 w  hw
        exact jc_rate hL h8 h1 h2 (hnext w2 h3)
      by_cases hs35 : (xs i &&& (63 : Int32)) = (35 : Int32)
      · refine jx_tableK (tgt := 1712) dL_law_33 hs35 (by decide) (by decide) rfl (by decide) ?_
        obtain ⟨v, w1, w2, h1, h2, h3⟩ := hR.2.2.2.2.2.2.2.2.2.2.2.2.2.2.2.2.2.2.2.2.2.2.2.2.2.2.2.2.2.2.2.2.2.2.2.1 w (xs (i + 1)) hw
        exact jc_world hL h8 h1 h2 (hnext w2 h3)
      by_cases hs36 : (xs i &&& (63 : Int32)) = (36 : Int32)
      · refine jx_tableK (tgt := 1735) dL_law_33 hs36 (by decide) (by decide) rfl (by decide) ?_
        obtain ⟨v, w1, w2, h1, h2, h3⟩ := hR.2.2.2.2.2.2.2.2.2.2.2.2.2.2.2.2.2.2.2.2.2.2.2.2.2.2.2.2.2.2.2.2.2.2.2.2.1 w (xs (i + 1)) (xs (i + 2)) (xs (i + 3)) hw
        exact jc_says hL h8 h1 h2 (hnext w2 h3)
      by_cases hs37 : (xs i &&& (63 : Int32)) = (37 : Int32)
      · refine jx_tableK (tgt := 1778) dL_law_33 hs37 (by decide) (by decide) rfl (by decide) ?_
        obtain ⟨v, w1, w2, h1, h2, h3⟩ := hR.2.2.2.2.2.2.2.2.2.2.2.2.2.2.2.2.2.2.2.2.2.2.2.2.2.2.2.2.2.2.2.2.2.2.2.2.2.1 w (xs (i + 1)) (xs (i + 2)) hw
        exact jc_ask hL h8 h1 h2 (hnext w2 h3)
      by_cases hs38 : (xs i &&& (63 : Int32)) = (38 : Int32)
      · refine jx_tableK (tgt := 1811) dL_law_33 hs38 (by decide) (by decide) rfl (by decide) ?_
        obtain ⟨v, w1, w2, h1, h2, h3⟩ := hR.2.2.2.2.2.2.2.2.2.2.2.2.2.2.2.2.2.2.2.2.2.2.2.2.2.2.2.2.2.2.2.2.2.2.2.2.2.2.1 w (xs (i + 1)) (xs (i + 2)) (xs (i + 3)) hw
        exact jc_row hL h8 h1 h2 (hnext w2 h3)
      by_cases hs39 : (xs i &&& (63 : Int32)) = (39 : Int32)
      · refine jx_tableK (tgt := 1854) dL_law_33 hs39 (by decide) (by decide) rfl (by decide) ?_
        obtain ⟨v, w1, w2, h1, h2, h3⟩ := hR.2.2.2.2.2.2.2.2.2.2.2.2.2.2.2.2.2.2.2.2.2.2.2.2.2.2.2.2.2.2.2.2.2.2.2.2.2.2.2.1 w (xs (i + 1)) (xs (i + 2)) (lkL (xs (i + 3)) (xs (i + 4))) hw
        exact jc_write hL h8 h1 h2 (hnext w2 h3)
      by_cases hs40 : (xs i &&& (63 : Int32)) = (40 : Int32)
      · refine jx_tableK (tgt := 1928) dL_law_33 hs40 (by decide) (by decide) rfl (by decide) ?_
        obtain ⟨v, w1, w2, h1, h2, h3⟩ := hR.2.2.2.2.2.2.2.2.2.2.2.2.2.2.2.2.2.2.2.2.2.2.2.2.2.2.2.2.2.2.2.2.2.2.2.2.2.2.2.2.1 w (xs (i + 1)) hw
        exact jc_minister hL h8 h1 h2 (hnext w2 h3)
      by_cases hs41 : (xs i &&& (63 : Int32)) = (41 : Int32)
      · refine jx_tableK (tgt := 1951) dL_law_33 hs41 (by decide) (by decide) rfl (by decide) ?_
        obtain ⟨v, w1, w2, h1, h2, h3⟩ := hR.2.2.2.2.2.2.2.2.2.2.2.2.2.2.2.2.2.2.2.2.2.2.2.2.2.2.2.2.2.2.2.2.2.2.2.2.2.2.2.2.2.1 w (xs (i + 1)) hw
        exact jc_say hL h8 h1 h2 (hnext w2 h3)
      by_cases hs42 : (xs i &&& (63 : Int32)) = (42 : Int32)
      · refine jx_tableK (tgt := 1974) dL_law_33 hs42 (by decide) (by decide) rfl (by decide) ?_
        obtain ⟨v, w1, w2, h1, h2, h3⟩ := hR.2.2.2.2.2.2.2.2.2.2.2.2.2.2.2.2.2.2.2.2.2.2.2.2.2.2.2.2.2.2.2.2.2.2.2.2.2.2.2.2.2.2.1 w (xs (i + 1)) hw
        exact jc_image hL h8 h1 h2 (hnext w2 h3)
      by_cases hs43 : (xs i &&& (63 : Int32)) = (43 : Int32)
      · refine jx_tableK (tgt := 1997) dL_law_33 hs43 (by decide) (by decide) rfl (by decide) ?_
        obtain ⟨v, w1, w2, h1, h2, h3⟩ := hR.2.2.2.2.2.2.2.2.2.2.2.2.2.2.2.2.2.2.2.2.2.2.2.2.2.2.2.2.2.2.2.2.2.2.2.2.2.2.2.2.2.2.2.1 w (xs (i + 1)) hw
        exact jc_restore hL h8 h1 h2 (hnext w2 h3)
      by_cases hs44 : (xs i &&& (63 : Int32)) = (44 : Int32)
      · refine jx_tableK (tgt := 2020) dL_law_33 hs44 (by decide) (by decide) rfl (by decide) ?_
        obtain ⟨v, w1, w2, h1, h2, h3⟩ := hR.2.2.2.2.2.2.2.2.2.2.2.2.2.2.2.2.2.2.2.2.2.2.2.2.2.2.2.2.2.2.2.2.2.2.2.2.2.2.2.2.2.2.2.2.1 w (xs (i + 1)) hw
        exact jc_status hL h8 h1 h2 (hnext w2 h3)
      by_cases hs45 : (xs i &&& (63 : Int32)) = (45 : Int32)
      · refine jx_tableK (tgt := 2043) dL_law_33 hs45 (by decide) (by decide) rfl (by decide) ?_
        obtain ⟨v, w1, w2, h1, h2, h3⟩ := hR.2.2.2.2.2.2.2.2.2.2.2.2.2.2.2.2.2.2.2.2.2.2.2.2.2.2.2.2.2.2.2.2.2.2.2.2.2.2.2.2.2.2.2.2.2 w (xs (i + 1)) hw
        exact jc_count hL h8 h1 h2 (hnext w2 h3)
      refine jx_tableOut (tgt := 2066) dL_law_33 (by have a0 := lv_neT hs0 (show (0 : Int32).toInt = 0 from rfl); have a1 := lv_neT hs1 (show (1 : Int32).toInt = 1 from rfl); have a2 := lv_neT hs2 (show (2 : Int32).toInt = 2 from rfl); have a3 := lv_neT hs3 (show (3 : Int32).toInt = 3 from rfl); have a4 := lv_neT hs4 (show (4 : Int32).toInt = 4 from rfl); have a5 := lv_neT hs5 (show (5 : Int32).toInt = 5 from rfl); have a6 := lv_neT hs6 (show (6 : Int32).toInt = 6 from rfl); have a7 := lv_neT hs7 (show (7 : Int32).toInt = 7 from rfl); have a8 := lv_neT hs8 (show (8 : Int32).toInt = 8 from rfl); have a9 := lv_neT hs9 (show (9 : Int32).toInt = 9 from rfl); have a10 := lv_neT hs10 (show (10 : Int32).toInt = 10 from rfl); have a11 := lv_neT hs11 (show (11 : Int32).toInt = 11 from rfl); have a12 := lv_neT hs12 (show (12 : Int32).toInt = 12 from rfl); have a13 := lv_neT hs13 (show (13 : Int32).toInt = 13 from rfl); have a14 := lv_neT hs14 (show (14 : Int32).toInt = 14 from rfl); have a15 := lv_neT hs15 (show (15 : Int32).toInt = 15 from rfl); have a16 := lv_neT hs16 (show (16 : Int32).toInt = 16 from rfl); have a17 := lv_neT hs17 (show (17 : Int32).toInt = 17 from rfl); have a18 := lv_neT hs18 (show (18 : Int32).toInt = 18 from rfl); have a19 := lv_neT hs19 (show (19 : Int32).toInt = 19 from rfl); have a20 := lv_neT hs20 (show (20 : Int32).toInt = 20 from rfl); have a21 := lv_neT hs21 (show (21 : Int32).toInt = 21 from rfl); have a22 := lv_neT hs22 (show (22 : Int32).toInt = 22 from rfl); have a23 := lv_neT hs23 (show (23 : Int32).toInt = 23 from rfl); have a24 := lv_neT hs24 (show (24 : Int32).toInt = 24 from rfl); have a25 := lv_neT hs25 (show (25 : Int32).toInt = 25 from rfl); have a26 := lv_neT hs26 (show (26 : Int32).toInt = 26 from rfl); have a27 := lv_neT hs27 (show (27 : Int32).toInt = 27 from rfl); have a28 := lv_neT hs28 (show (28 : Int32).toInt = 28 from rfl); have a29 := lv_neT hs29 (show (29 : Int32).toInt = 29 from rfl); have a30 := lv_neT hs30 (show (30 : Int32).toInt = 30 from rfl); have a31 := lv_neT hs31 (show (31 : Int32).toInt = 31 from rfl); have a32 := lv_neT hs32 (show (32 : Int32).toInt = 32 from rfl); have a33 := lv_neT hs33 (show (33 : Int32).toInt = 33 from rfl); have a34 := lv_neT hs34 (show (34 : Int32).toInt = 34 from rfl); have a35 := lv_neT hs35 (show (35 : Int32).toInt = 35 from rfl); have a36 := lv_neT hs36 (show (36 : Int32).toInt = 36 from rfl); have a37 := lv_neT hs37 (show (37 : Int32).toInt = 37 from rfl); have a38 := lv_neT hs38 (show (38 : Int32).toInt = 38 from rfl); have a39 := lv_neT hs39 (show (39 : Int32).toInt = 39 from rfl); have a40 := lv_neT hs40 (show (40 : Int32).toInt = 40 from rfl); have a41 := lv_neT hs41 (show (41 : Int32).toInt = 41 from rfl); have a42 := lv_neT hs42 (show (42 : Int32).toInt = 42 from rfl); have a43 := lv_neT hs43 (show (43 : Int32).toInt = 43 from rfl); have a44 := lv_neT hs44 (show (44 : Int32).toInt = 44 from rfl); have a45 := lv_neT hs45 (show (45 : Int32).toInt = 45 from rfl); omega) (by decide) ?_
      exact hnext w hw
