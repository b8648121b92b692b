theorem wx_0 : wdX[0]? = some (.inl (0, [none, none, none, none, some 8, some 6])) := rfl
theorem wx_1 : wdX[1]? = some (.inl (1, [some 10, some 11, some 12, some 13, some 14, some 3, none, none])) := rfl
theorem wx_2 : wdX[2]? = some (.inl (2, [some 15, some 16, some 8, some 7])) := rfl
theorem wx_3 : wdX[3]? = some (.inl (3, [some 17, some 18, some 19, none, none])) := rfl
theorem wx_4 : wdX[4]? = some (.inl (4, [some 20, some 21, some 22, none, none, some 23, some 24, some 8, some 7, some 2, some 3, some 1])) := rfl
theorem wx_5 : wdX[5]? = some (.inl (5, [some 6, some 0, some 25, some 26, some 27, some 28, none, none, none, none])) := rfl
theorem wx_6 : wdX[6]? = some (.inl (6, [some 29, some 30, some 31, some 32, some 33, none, some 8, some 7, some 4])) := rfl
theorem wx_7 : wdX[7]? = some (.inl (7, [some 34, some 35, some 36, some 37, none])) := rfl
theorem wx_8 : wdX[8]? = some (.inl (8, [some 38, some 39, some 40])) := rfl
theorem wx_9 : wdX[9]? = some (.inl (9, [some 8, some 7, some 2, some 4, some 6, some 0, some 5, none])) := rfl
theorem wx_10 : wdX[10]? = some (.inr (0, 256)) := rfl
theorem wx_11 : wdX[11]? = some (.inr (0, 16)) := rfl
theorem wx_12 : wdX[12]? = some (.inr (0, 16)) := rfl
theorem wx_13 : wdX[13]? = some (.inr (0, 16)) := rfl
theorem wx_14 : wdX[14]? = some (.inr (0, 16)) := rfl
theorem wx_15 : wdX[15]? = some (.inr (0, 16)) := rfl
theorem wx_16 : wdX[16]? = some (.inr (0, 16)) := rfl
theorem wx_17 : wdX[17]? = some (.inr (0, 16)) := rfl
theorem wx_18 : wdX[18]? = some (.inr (0, 16)) := rfl
theorem wx_19 : wdX[19]? = some (.inr (0, 16)) := rfl
theorem wx_20 : wdX[20]? = some (.inr (0, 16)) := rfl
theorem wx_21 : wdX[21]? = some (.inr (0, 16)) := rfl
theorem wx_22 : wdX[22]? = some (.inr (0, 16)) := rfl
theorem wx_23 : wdX[23]? = some (.inr (0, 16)) := rfl
theorem wx_24 : wdX[24]? = some (.inr (0, 17)) := rfl
theorem wx_25 : wdX[25]? = some (.inr (0, 1079)) := rfl
theorem wx_26 : wdX[26]? = some (.inr (0, 13)) := rfl
theorem wx_27 : wdX[27]? = some (.inr (1, 256)) := rfl
theorem wx_28 : wdX[28]? = some (.inr (0, 12)) := rfl
theorem wx_29 : wdX[29]? = some (.inr (0, 16)) := rfl
theorem wx_30 : wdX[30]? = some (.inr (0, 16)) := rfl
theorem wx_31 : wdX[31]? = some (.inr (0, 16)) := rfl
theorem wx_32 : wdX[32]? = some (.inr (0, 16)) := rfl
theorem wx_33 : wdX[33]? = some (.inr (0, 16)) := rfl
theorem wx_34 : wdX[34]? = some (.inr (0, 16)) := rfl
theorem wx_35 : wdX[35]? = some (.inr (0, 16)) := rfl
theorem wx_36 : wdX[36]? = some (.inr (0, 16)) := rfl
theorem wx_37 : wdX[37]? = some (.inr (0, 16)) := rfl
theorem wx_38 : wdX[38]? = some (.inr (0, 144)) := rfl
theorem wx_39 : wdX[39]? = some (.inr (0, 144)) := rfl
theorem wx_40 : wdX[40]? = some (.inr (2, 12)) := rfl
theorem wm_0 : wdM[0]? = some (.inl (10, [some 1, some 2, some 3, none, some 4, some 5, some 6, some 7, none, none, none, none, some 8, none, some 9, none, some 10, some 11, none, some 12, some 13, some 14, some 15, some 16, some 17, none, some 18])) := rfl
theorem wm_1 : wdM[1]? = some (.inr (0, 144)) := rfl
theorem wm_2 : wdM[2]? = some (.inr (0, 144)) := rfl
theorem wm_3 : wdM[3]? = some (.inr (2, 12)) := rfl
theorem wm_4 : wdM[4]? = some (.inr (0, 16)) := rfl
theorem wm_5 : wdM[5]? = some (.inr (0, 16)) := rfl
theorem wm_6 : wdM[6]? = some (.inr (0, 16)) := rfl
theorem wm_7 : wdM[7]? = some (.inr (0, 16)) := rfl
theorem wm_8 : wdM[8]? = some (.inr (0, 1114112)) := rfl
theorem wm_9 : wdM[9]? = some (.inr (0, 16)) := rfl
theorem wm_10 : wdM[10]? = some (.inr (0, 16)) := rfl
theorem wm_11 : wdM[11]? = some (.inr (0, 16)) := rfl
theorem wm_12 : wdM[12]? = some (.inr (0, 16)) := rfl
theorem wm_13 : wdM[13]? = some (.inr (0, 16)) := rfl
theorem wm_14 : wdM[14]? = some (.inr (0, 16)) := rfl
theorem wm_15 : wdM[15]? = some (.inr (0, 16)) := rfl
theorem wm_16 : wdM[16]? = some (.inr (0, 16)) := rfl
theorem wm_17 : wdM[17]? = some (.inr (0, 4096)) := rfl
theorem wm_18 : wdM[18]? = some (.inr (0, 48)) := rfl
theorem fl_X7_24 : FL RX7 24 7 4 := ⟨(RX7, TX7, 5), rfl, by decide, gw_mem 107 (by decide +kernel) rfl, inwX7⟩
theorem ml_X7_28 : MLn RX7 28 mX9_isPlace 1 := ⟨⟨RX9, by decide +kernel⟩, gw_mem 392 (by decide +kernel) rfl, gw_mem 38 (by decide +kernel) rfl, mwX9_isPlace, ⟨by decide, by decide, by decide +kernel⟩, by decide⟩
theorem fl_X7_9 : FL RX7 9 7 0 := ⟨(RX7, TX7, 5), rfl, by decide, gw_mem 87 (by decide +kernel) rfl, inwX7⟩
theorem fl_X7_15 : FL RX7 15 7 1 := ⟨(RX7, TX7, 5), rfl, by decide, gw_mem 92 (by decide +kernel) rfl, inwX7⟩
theorem fl_X7_18 : FL RX7 18 7 2 := ⟨(RX7, TX7, 5), rfl, by decide, gw_mem 97 (by decide +kernel) rfl, inwX7⟩
theorem fl_X7_21 : FL RX7 21 7 3 := ⟨(RX7, TX7, 5), rfl, by decide, gw_mem 102 (by decide +kernel) rfl, inwX7⟩
theorem fp_X7_24 : FP RX7 24 7 4 .int := ⟨(RX7, TX7, 5), rfl, by decide, gw_mem 107 (by decide +kernel) rfl, inwX7, ⟨tyX7, tyX7_ok⟩, nmX7, rfl, by decide +kernel⟩
theorem ml_X7_32 : MLv RX7 32 mX7_holds 7 1 := ⟨(RX7, TX7, 5), rfl, rfl, gw_mem 430 (by decide +kernel) rfl, gw_mem 431 (by decide +kernel) rfl, gw_mem 432 (by decide +kernel) rfl, gw_mem 41 (by decide +kernel) rfl, mwX7_holds, ⟨by decide, by decide, by decide +kernel⟩, by decide⟩
theorem ml_X7_35 : MLv RX7 35 mX7_canShift 7 2 := ⟨(RX7, TX7, 5), rfl, rfl, gw_mem 442 (by decide +kernel) rfl, gw_mem 443 (by decide +kernel) rfl, gw_mem 444 (by decide +kernel) rfl, gw_mem 41 (by decide +kernel) rfl, mwX7_canShift, ⟨by decide, by decide, by decide +kernel⟩, by decide⟩
theorem ml_X8_28 : MLn RX8 28 mX9_isPlace 1 := ⟨⟨RX9, by decide +kernel⟩, gw_mem 392 (by decide +kernel) rfl, gw_mem 38 (by decide +kernel) rfl, mwX9_isPlace, ⟨by decide, by decide, by decide +kernel⟩, by decide⟩
theorem ml_X8_32 : MLn RX8 32 mX9_within 3 := ⟨⟨RX9, by decide +kernel⟩, gw_mem 395 (by decide +kernel) rfl, gw_mem 38 (by decide +kernel) rfl, mwX9_within, ⟨by decide, by decide, by decide +kernel⟩, by decide⟩
theorem fl_X8_9 : FL RX8 9 8 0 := ⟨(RX8, TX8, 3), rfl, by decide, gw_mem 69 (by decide +kernel) rfl, inwX8⟩
theorem fl_X8_15 : FL RX8 15 8 1 := ⟨(RX8, TX8, 3), rfl, by decide, gw_mem 70 (by decide +kernel) rfl, inwX8⟩
theorem fl_X8_18 : FL RX8 18 8 2 := ⟨(RX8, TX8, 3), rfl, by decide, gw_mem 71 (by decide +kernel) rfl, inwX8⟩
theorem fl_X9_10 : FL RX9 10 9 0 := ⟨(RX9, TX9, 8), rfl, by decide, gw_mem 358 (by decide +kernel) rfl, inwX9⟩
theorem ml_X9_72 : MLv RX9 72 mX8_put 8 4 := ⟨(RX8, TX8, 3), rfl, rfl, gw_mem 387 (by decide +kernel) rfl, gw_mem 388 (by decide +kernel) rfl, gw_mem 389 (by decide +kernel) rfl, gw_mem 39 (by decide +kernel) rfl, mwX8_put, ⟨by decide, by decide, by decide +kernel⟩, by decide⟩
theorem ml_X9_76 : MLv RX9 76 mX9_noted 9 1 := ⟨(RX9, TX9, 8), rfl, rfl, gw_mem 397 (by decide +kernel) rfl, gw_mem 399 (by decide +kernel) rfl, gw_mem 0 (by decide +kernel) rfl, gw_mem 38 (by decide +kernel) rfl, mwX9_noted, ⟨by decide, by decide, by decide +kernel⟩, by decide⟩
theorem ml_X9_80 : MLv RX9 80 mX8_putRelief 8 2 := ⟨(RX8, TX8, 3), rfl, rfl, gw_mem 409 (by decide +kernel) rfl, gw_mem 410 (by decide +kernel) rfl, gw_mem 411 (by decide +kernel) rfl, gw_mem 39 (by decide +kernel) rfl, mwX8_putRelief, ⟨by decide, by decide, by decide +kernel⟩, by decide⟩
theorem fl_X9_19 : FL RX9 19 9 1 := ⟨(RX9, TX9, 8), rfl, by decide, gw_mem 359 (by decide +kernel) rfl, inwX9⟩
theorem ml_X9_84 : MLv RX9 84 mX7_add 7 4 := ⟨(RX7, TX7, 5), rfl, rfl, gw_mem 417 (by decide +kernel) rfl, gw_mem 418 (by decide +kernel) rfl, gw_mem 419 (by decide +kernel) rfl, gw_mem 41 (by decide +kernel) rfl, mwX7_add, ⟨by decide, by decide, by decide +kernel⟩, by decide⟩
theorem fl_X9_87 : FL RX9 87 7 4 := ⟨(RX7, TX7, 5), rfl, by decide, gw_mem 110 (by decide +kernel) rfl, inwX7⟩
theorem ml_X9_91 : MLv RX9 91 mX7_takeAway 7 1 := ⟨(RX7, TX7, 5), rfl, rfl, gw_mem 426 (by decide +kernel) rfl, gw_mem 427 (by decide +kernel) rfl, gw_mem 428 (by decide +kernel) rfl, gw_mem 41 (by decide +kernel) rfl, mwX7_takeAway, ⟨by decide, by decide, by decide +kernel⟩, by decide⟩
theorem ml_X9_95 : MLv RX9 95 mX7_shift 7 2 := ⟨(RX7, TX7, 5), rfl, rfl, gw_mem 438 (by decide +kernel) rfl, gw_mem 439 (by decide +kernel) rfl, gw_mem 440 (by decide +kernel) rfl, gw_mem 41 (by decide +kernel) rfl, mwX7_shift, ⟨by decide, by decide, by decide +kernel⟩, by decide⟩
theorem fl_X9_55 : FL RX9 55 9 5 := ⟨(RX9, TX9, 8), rfl, by decide, gw_mem 363 (by decide +kernel) rfl, inwX9⟩
theorem ml_X9_99 : MLv RX9 99 mX0_put 0 4 := ⟨(RX0, TX0, 6), rfl, rfl, gw_mem 450 (by decide +kernel) rfl, gw_mem 451 (by decide +kernel) rfl, gw_mem 452 (by decide +kernel) rfl, gw_mem 47 (by decide +kernel) rfl, mwX0_put, ⟨by decide, by decide, by decide +kernel⟩, by decide⟩
theorem fl_X9_64 : FL RX9 64 9 6 := ⟨(RX9, TX9, 8), rfl, by decide, gw_mem 364 (by decide +kernel) rfl, inwX9⟩
theorem ml_X9_102 : MLv RX9 102 mX5_forget 5 0 := ⟨(RX5, TX5, 10), rfl, rfl, gw_mem 401 (by decide +kernel) rfl, gw_mem 402 (by decide +kernel) rfl, gw_mem 403 (by decide +kernel) rfl, gw_mem 48 (by decide +kernel) rfl, mwX5_forget, ⟨by decide, by decide, by decide +kernel⟩, by decide⟩
theorem ml_X9_105 : MLv RX9 105 mX7_holds 7 1 := ⟨(RX7, TX7, 5), rfl, rfl, gw_mem 459 (by decide +kernel) rfl, gw_mem 431 (by decide +kernel) rfl, gw_mem 432 (by decide +kernel) rfl, gw_mem 41 (by decide +kernel) rfl, mwX7_holds, ⟨by decide, by decide, by decide +kernel⟩, by decide⟩
theorem fl_X9_108 : FL RX9 108 7 0 := ⟨(RX7, TX7, 5), rfl, by decide, gw_mem 91 (by decide +kernel) rfl, inwX7⟩
theorem fl_X9_112 : FL RX9 112 7 1 := ⟨(RX7, TX7, 5), rfl, by decide, gw_mem 96 (by decide +kernel) rfl, inwX7⟩
theorem fl_X9_115 : FL RX9 115 7 2 := ⟨(RX7, TX7, 5), rfl, by decide, gw_mem 101 (by decide +kernel) rfl, inwX7⟩
theorem fl_X9_118 : FL RX9 118 7 3 := ⟨(RX7, TX7, 5), rfl, by decide, gw_mem 106 (by decide +kernel) rfl, inwX7⟩
theorem fl_X9_28 : FL RX9 28 9 2 := ⟨(RX9, TX9, 8), rfl, by decide, gw_mem 360 (by decide +kernel) rfl, inwX9⟩
theorem ml_X9_121 : MLv RX9 121 mX2_follows 2 3 := ⟨(RX2, TX2, 4), rfl, rfl, gw_mem 464 (by decide +kernel) rfl, gw_mem 465 (by decide +kernel) rfl, gw_mem 466 (by decide +kernel) rfl, gw_mem 42 (by decide +kernel) rfl, mwX2_follows, ⟨by decide, by decide, by decide +kernel⟩, by decide⟩
theorem ml_X9_125 : MLv RX9 125 mX9_bringUpToDate 9 0 := ⟨(RX9, TX9, 8), rfl, rfl, gw_mem 477 (by decide +kernel) rfl, gw_mem 479 (by decide +kernel) rfl, gw_mem 1 (by decide +kernel) rfl, gw_mem 38 (by decide +kernel) rfl, mwX9_bringUpToDate, ⟨by decide, by decide, by decide +kernel⟩, by decide⟩
theorem ml_X9_128 : MLv RX9 128 mX2_goOn 2 0 := ⟨(RX2, TX2, 4), rfl, rfl, gw_mem 594 (by decide +kernel) rfl, gw_mem 595 (by decide +kernel) rfl, gw_mem 596 (by decide +kernel) rfl, gw_mem 42 (by decide +kernel) rfl, mwX2_goOn, ⟨by decide, by decide, by decide +kernel⟩, by decide⟩
theorem fl_X9_37 : FL RX9 37 9 3 := ⟨(RX9, TX9, 8), rfl, by decide, gw_mem 361 (by decide +kernel) rfl, inwX9⟩
theorem fl_X9_132 : FL RX9 132 4 3 := ⟨(RX4, TX4, 12), rfl, by decide, gw_mem 214 (by decide +kernel) rfl, inwX4⟩
theorem fl_X9_133 : FL RX9 133 4 4 := ⟨(RX4, TX4, 12), rfl, by decide, gw_mem 216 (by decide +kernel) rfl, inwX4⟩
theorem fl_X9_46 : FL RX9 46 9 4 := ⟨(RX9, TX9, 8), rfl, by decide, gw_mem 362 (by decide +kernel) rfl, inwX9⟩
theorem fl_X9_136 : FL RX9 136 6 5 := ⟨(RX6, TX6, 9), rfl, by decide, gw_mem 267 (by decide +kernel) rfl, inwX6⟩
theorem ml_X9_137 : MLv RX9 137 mX4_greatestSlack 4 0 := ⟨(RX4, TX4, 12), rfl, rfl, gw_mem 602 (by decide +kernel) rfl, gw_mem 603 (by decide +kernel) rfl, gw_mem 604 (by decide +kernel) rfl, gw_mem 43 (by decide +kernel) rfl, mwX4_greatestSlack, ⟨by decide, by decide, by decide +kernel⟩, by decide⟩
theorem ml_X9_141 : MLv RX9 141 mX4_leastSlack 4 0 := ⟨(RX4, TX4, 12), rfl, rfl, gw_mem 607 (by decide +kernel) rfl, gw_mem 608 (by decide +kernel) rfl, gw_mem 609 (by decide +kernel) rfl, gw_mem 43 (by decide +kernel) rfl, mwX4_leastSlack, ⟨by decide, by decide, by decide +kernel⟩, by decide⟩
theorem ml_X9_144 : MLv RX9 144 mX4_tripAt 4 2 := ⟨(RX4, TX4, 12), rfl, rfl, gw_mem 615 (by decide +kernel) rfl, gw_mem 582 (by decide +kernel) rfl, gw_mem 583 (by decide +kernel) rfl, gw_mem 43 (by decide +kernel) rfl, mwX4_tripAt, ⟨by decide, by decide, by decide +kernel⟩, by decide⟩
theorem fl_X9_148 : FL RX9 148 4 2 := ⟨(RX4, TX4, 12), rfl, by decide, gw_mem 211 (by decide +kernel) rfl, inwX4⟩
theorem fl_X9_151 : FL RX9 151 4 0 := ⟨(RX4, TX4, 12), rfl, by decide, gw_mem 207 (by decide +kernel) rfl, inwX4⟩
theorem fl_X9_154 : FL RX9 154 4 1 := ⟨(RX4, TX4, 12), rfl, by decide, gw_mem 209 (by decide +kernel) rfl, inwX4⟩
theorem fl_X9_157 : FL RX9 157 6 4 := ⟨(RX6, TX6, 9), rfl, by decide, gw_mem 264 (by decide +kernel) rfl, inwX6⟩
theorem ml_X9_160 : MLv RX9 160 mX6_holds 6 1 := ⟨(RX6, TX6, 9), rfl, rfl, gw_mem 624 (by decide +kernel) rfl, gw_mem 625 (by decide +kernel) rfl, gw_mem 626 (by decide +kernel) rfl, gw_mem 46 (by decide +kernel) rfl, mwX6_holds, ⟨by decide, by decide, by decide +kernel⟩, by decide⟩
theorem fl_X9_161 : FL RX9 161 6 0 := ⟨(RX6, TX6, 9), rfl, by decide, gw_mem 256 (by decide +kernel) rfl, inwX6⟩
theorem fl_X9_164 : FL RX9 164 6 1 := ⟨(RX6, TX6, 9), rfl, by decide, gw_mem 258 (by decide +kernel) rfl, inwX6⟩
theorem fl_X9_167 : FL RX9 167 6 2 := ⟨(RX6, TX6, 9), rfl, by decide, gw_mem 260 (by decide +kernel) rfl, inwX6⟩
theorem fl_X9_170 : FL RX9 170 6 3 := ⟨(RX6, TX6, 9), rfl, by decide, gw_mem 262 (by decide +kernel) rfl, inwX6⟩
theorem ml_X9_173 : MLv RX9 173 mX6_isPiece 6 2 := ⟨(RX6, TX6, 9), rfl, rfl, gw_mem 632 (by decide +kernel) rfl, gw_mem 633 (by decide +kernel) rfl, gw_mem 634 (by decide +kernel) rfl, gw_mem 46 (by decide +kernel) rfl, mwX6_isPiece, ⟨by decide, by decide, by decide +kernel⟩, by decide⟩
theorem ml_X9_176 : MLv RX9 176 mX0_brokenByOne 0 2 := ⟨(RX0, TX0, 6), rfl, rfl, gw_mem 637 (by decide +kernel) rfl, gw_mem 638 (by decide +kernel) rfl, gw_mem 639 (by decide +kernel) rfl, gw_mem 47 (by decide +kernel) rfl, mwX0_brokenByOne, ⟨by decide, by decide, by decide +kernel⟩, by decide⟩
theorem ml_X9_179 : MLv RX9 179 mX0_brokenByTwo 0 4 := ⟨(RX0, TX0, 6), rfl, rfl, gw_mem 653 (by decide +kernel) rfl, gw_mem 654 (by decide +kernel) rfl, gw_mem 655 (by decide +kernel) rfl, gw_mem 47 (by decide +kernel) rfl, mwX0_brokenByTwo, ⟨by decide, by decide, by decide +kernel⟩, by decide⟩
theorem ml_X9_183 : MLv RX9 183 mX5_tell 5 0 := ⟨(RX5, TX5, 10), rfl, rfl, gw_mem 674 (by decide +kernel) rfl, gw_mem 675 (by decide +kernel) rfl, gw_mem 676 (by decide +kernel) rfl, gw_mem 48 (by decide +kernel) rfl, mwX5_tell, ⟨by decide, by decide, by decide +kernel⟩, by decide⟩
theorem ml_X9_186 : MLv RX9 186 mX5_of 5 2 := ⟨(RX5, TX5, 10), rfl, rfl, gw_mem 725 (by decide +kernel) rfl, gw_mem 726 (by decide +kernel) rfl, gw_mem 727 (by decide +kernel) rfl, gw_mem 48 (by decide +kernel) rfl, mwX5_of, ⟨by decide, by decide, by decide +kernel⟩, by decide⟩
theorem ml_X9_189 : MLv RX9 189 mX2_mostApart 2 0 := ⟨(RX2, TX2, 4), rfl, rfl, gw_mem 736 (by decide +kernel) rfl, gw_mem 737 (by decide +kernel) rfl, gw_mem 738 (by decide +kernel) rfl, gw_mem 42 (by decide +kernel) rfl, mwX2_mostApart, ⟨by decide, by decide, by decide +kernel⟩, by decide⟩
theorem ml_X9_192 : MLv RX9 192 mX7_canShift 7 2 := ⟨(RX7, TX7, 5), rfl, rfl, gw_mem 749 (by decide +kernel) rfl, gw_mem 443 (by decide +kernel) rfl, gw_mem 444 (by decide +kernel) rfl, gw_mem 41 (by decide +kernel) rfl, mwX7_canShift, ⟨by decide, by decide, by decide +kernel⟩, by decide⟩
theorem ml_X9_195 : MLv RX9 195 mX4_fewestWith 4 2 := ⟨(RX4, TX4, 12), rfl, rfl, gw_mem 750 (by decide +kernel) rfl, gw_mem 751 (by decide +kernel) rfl, gw_mem 752 (by decide +kernel) rfl, gw_mem 43 (by decide +kernel) rfl, mwX4_fewestWith, ⟨by decide, by decide, by decide +kernel⟩, by decide⟩
theorem fl_X9_198 : FL RX9 198 0 0 := ⟨(RX0, TX0, 6), rfl, by decide, gw_mem 297 (by decide +kernel) rfl, inwX0⟩
theorem fl_X9_201 : FL RX9 201 0 1 := ⟨(RX0, TX0, 6), rfl, by decide, gw_mem 299 (by decide +kernel) rfl, inwX0⟩
theorem fl_X9_204 : FL RX9 204 0 2 := ⟨(RX0, TX0, 6), rfl, by decide, gw_mem 301 (by decide +kernel) rfl, inwX0⟩
theorem fl_X9_207 : FL RX9 207 0 3 := ⟨(RX0, TX0, 6), rfl, by decide, gw_mem 304 (by decide +kernel) rfl, inwX0⟩
theorem fp_X9_68 : FP RX9 68 9 7 .boolean := ⟨(RX9, TX9, 8), rfl, by decide, gw_mem 365 (by decide +kernel) rfl, inwX9, ⟨tyX9, tyX9_ok⟩, nmX9, rfl, by decide +kernel⟩
theorem fl_X9_68 : FL RX9 68 9 7 := ⟨(RX9, TX9, 8), rfl, by decide, gw_mem 365 (by decide +kernel) rfl, inwX9⟩
theorem ml_X9_210 : MLv RX9 210 mX2_tell 2 0 := ⟨(RX2, TX2, 4), rfl, rfl, gw_mem 481 (by decide +kernel) rfl, gw_mem 482 (by decide +kernel) rfl, gw_mem 483 (by decide +kernel) rfl, gw_mem 42 (by decide +kernel) rfl, mwX2_tell, ⟨by decide, by decide, by decide +kernel⟩, by decide⟩
theorem ml_X9_212 : MLv RX9 212 mX4_make 4 0 := ⟨(RX4, TX4, 12), rfl, rfl, gw_mem 486 (by decide +kernel) rfl, gw_mem 487 (by decide +kernel) rfl, gw_mem 488 (by decide +kernel) rfl, gw_mem 43 (by decide +kernel) rfl, mwX4_make, ⟨by decide, by decide, by decide +kernel⟩, by decide⟩
theorem ml_X9_215 : MLv RX9 215 mX6_cut 6 0 := ⟨(RX6, TX6, 9), rfl, rfl, gw_mem 573 (by decide +kernel) rfl, gw_mem 574 (by decide +kernel) rfl, gw_mem 575 (by decide +kernel) rfl, gw_mem 46 (by decide +kernel) rfl, mwX6_cut, ⟨by decide, by decide, by decide +kernel⟩, by decide⟩
theorem ml_X9_218 : MLs RX9 218 mJ6_bitCount_0f7a4 1 := ⟨gw_mem 558 (by decide +kernel) rfl, gw_mem 559 (by decide +kernel) rfl, gw_mem 51 (by decide +kernel) rfl, mwJ6_bitCount_0f7a4, ⟨by decide, by decide, by decide +kernel⟩, by decide⟩
theorem k_J6_265 : Cond.constant RJ6 265 (Int32.ofInt 1431655765) ∈ gw := gw_mem 561 (by decide +kernel) rfl
theorem k_J6_266 : Cond.constant RJ6 266 (Int32.ofInt 858993459) ∈ gw := gw_mem 562 (by decide +kernel) rfl
theorem k_J6_267 : Cond.constant RJ6 267 (Int32.ofInt 252645135) ∈ gw := gw_mem 563 (by decide +kernel) rfl
theorem dX7_holds_0 : decode cX7_holds 0 = .ok (.iload_n 1, 1) := by decide +kernel
theorem dX7_holds_1 : decode cX7_holds 1 = .ok (.ifCond .lt 15, 3) := by decide +kernel
theorem dX7_holds_4 : decode cX7_holds 4 = .ok (.iload_n 1, 1) := by decide +kernel
theorem dX7_holds_5 : decode cX7_holds 5 = .ok (.aload_n 0, 1) := by decide +kernel
theorem dX7_holds_6 : decode cX7_holds 6 = .ok (.getfield 24, 3) := by decide +kernel
theorem dX7_holds_9 : decode cX7_holds 9 = .ok (.if_icmp .ge 7, 3) := by decide +kernel
theorem dX7_holds_12 : decode cX7_holds 12 = .ok (.iconst 1, 1) := by decide +kernel
theorem dX7_holds_13 : decode cX7_holds 13 = .ok (.goto 4, 3) := by decide +kernel
theorem dX7_holds_16 : decode cX7_holds 16 = .ok (.iconst 0, 1) := by decide +kernel
theorem dX7_holds_17 : decode cX7_holds 17 = .ok (.ireturn, 1) := by decide +kernel
set_option maxRecDepth 20000 in
theorem g_X7_holds_0 {G : GX} {d : Nat} {Ret : Option AV → St → Prop} {R : Nat → List AV → List AV → St → Prop} (hM : AM G wdX d mX7_holds Ret R) (v1 : Int) (σ : St)
    (h : ((v1 < 0 → Ret (some (vI 0)) σ) ∧ (¬ v1 < 0 → (((σ.1 7 4) ≤ v1 → Ret (some (vI 0)) σ) ∧ (¬ (σ.1 7 4) ≤ v1 → Ret (some (vI 1)) σ))))) : R 0 [vR 7, vI v1] [] σ := by
  refine r_iload_n hM (pc' := 1) dX7_holds_0 rfl (x := v1) rfl ?_
  refine r_if_lt hM (pc' := 4) (tgt := 16) dX7_holds_1 rfl (by decide) (fun c => ?_) (fun c => ?_)
  · have h := h.1 c
    refine r_iconst hM (pc' := 17) dX7_holds_16 rfl (by decide) ?_
    exact r_zreturn hM dX7_holds_17 rfl (by decide) h
  · have h := h.2 c
    refine r_iload_n hM (pc' := 5) dX7_holds_4 rfl (x := v1) rfl ?_
    refine r_aload_n hM (pc' := 6) dX7_holds_5 rfl (x := 7) rfl ?_
    refine r_getI hM (pc' := 9) dX7_holds_6 rfl fl_X7_24 wx_7 rfl ?_
    refine r_icmp_ge hM (pc' := 12) (tgt := 16) dX7_holds_9 rfl (by decide) (fun c => ?_) (fun c => ?_)
    · have h := h.1 c
      refine r_iconst hM (pc' := 17) dX7_holds_16 rfl (by decide) ?_
      exact r_zreturn hM dX7_holds_17 rfl (by decide) h
    · have h := h.2 c
      refine r_iconst hM (pc' := 13) dX7_holds_12 rfl (by decide) ?_
      refine r_goto hM (tgt := 17) dX7_holds_13 (by decide) ?_
      exact r_zreturn hM dX7_holds_17 rfl (by decide) h
theorem dX7_add_0 : decode cX7_add 0 = .ok (.aload_n 0, 1) := by decide +kernel
theorem dX7_add_1 : decode cX7_add 1 = .ok (.getfield 24, 3) := by decide +kernel
theorem dX7_add_4 : decode cX7_add 4 = .ok (.bipush 16, 2) := by decide +kernel
theorem dX7_add_6 : decode cX7_add 6 = .ok (.if_icmp .ge 17, 3) := by decide +kernel
theorem dX7_add_9 : decode cX7_add 9 = .ok (.iload_n 1, 1) := by decide +kernel
theorem dX7_add_10 : decode cX7_add 10 = .ok (.invokestatic 28, 3) := by decide +kernel
theorem dX7_add_13 : decode cX7_add 13 = .ok (.ifCond .eq 10, 3) := by decide +kernel
theorem dX7_add_16 : decode cX7_add 16 = .ok (.iload_n 2, 1) := by decide +kernel
theorem dX7_add_17 : decode cX7_add 17 = .ok (.invokestatic 28, 3) := by decide +kernel
theorem dX7_add_20 : decode cX7_add 20 = .ok (.ifCond .ne 5, 3) := by decide +kernel
theorem dX7_add_23 : decode cX7_add 23 = .ok (.iconst 0, 1) := by decide +kernel
theorem dX7_add_24 : decode cX7_add 24 = .ok (.ireturn, 1) := by decide +kernel
theorem dX7_add_25 : decode cX7_add 25 = .ok (.iload_n 3, 1) := by decide +kernel
theorem dX7_add_26 : decode cX7_add 26 = .ok (.ifCond .lt 17, 3) := by decide +kernel
theorem dX7_add_29 : decode cX7_add 29 = .ok (.iload 4, 2) := by decide +kernel
theorem dX7_add_31 : decode cX7_add 31 = .ok (.sipush 2879, 3) := by decide +kernel
theorem dX7_add_34 : decode cX7_add 34 = .ok (.if_icmp .gt 9, 3) := by decide +kernel
theorem dX7_add_37 : decode cX7_add 37 = .ok (.iload 4, 2) := by decide +kernel
theorem dX7_add_39 : decode cX7_add 39 = .ok (.iload_n 3, 1) := by decide +kernel
theorem dX7_add_40 : decode cX7_add 40 = .ok (.if_icmp .gt 5, 3) := by decide +kernel
theorem dX7_add_43 : decode cX7_add 43 = .ok (.iconst 0, 1) := by decide +kernel
theorem dX7_add_44 : decode cX7_add 44 = .ok (.ireturn, 1) := by decide +kernel
theorem dX7_add_45 : decode cX7_add 45 = .ok (.aload_n 0, 1) := by decide +kernel
theorem dX7_add_46 : decode cX7_add 46 = .ok (.getfield 9, 3) := by decide +kernel
theorem dX7_add_49 : decode cX7_add 49 = .ok (.aload_n 0, 1) := by decide +kernel
theorem dX7_add_50 : decode cX7_add 50 = .ok (.getfield 24, 3) := by decide +kernel
theorem dX7_add_53 : decode cX7_add 53 = .ok (.iload_n 1, 1) := by decide +kernel
theorem dX7_add_54 : decode cX7_add 54 = .ok (.iastore, 1) := by decide +kernel
theorem dX7_add_55 : decode cX7_add 55 = .ok (.aload_n 0, 1) := by decide +kernel
theorem dX7_add_56 : decode cX7_add 56 = .ok (.getfield 15, 3) := by decide +kernel
theorem dX7_add_59 : decode cX7_add 59 = .ok (.aload_n 0, 1) := by decide +kernel
theorem dX7_add_60 : decode cX7_add 60 = .ok (.getfield 24, 3) := by decide +kernel
theorem dX7_add_63 : decode cX7_add 63 = .ok (.iload_n 2, 1) := by decide +kernel
theorem dX7_add_64 : decode cX7_add 64 = .ok (.iastore, 1) := by decide +kernel
theorem dX7_add_65 : decode cX7_add 65 = .ok (.aload_n 0, 1) := by decide +kernel
theorem dX7_add_66 : decode cX7_add 66 = .ok (.getfield 18, 3) := by decide +kernel
theorem dX7_add_69 : decode cX7_add 69 = .ok (.aload_n 0, 1) := by decide +kernel
theorem dX7_add_70 : decode cX7_add 70 = .ok (.getfield 24, 3) := by decide +kernel
theorem dX7_add_73 : decode cX7_add 73 = .ok (.iload_n 3, 1) := by decide +kernel
theorem dX7_add_74 : decode cX7_add 74 = .ok (.iastore, 1) := by decide +kernel
theorem dX7_add_75 : decode cX7_add 75 = .ok (.aload_n 0, 1) := by decide +kernel
theorem dX7_add_76 : decode cX7_add 76 = .ok (.getfield 21, 3) := by decide +kernel
theorem dX7_add_79 : decode cX7_add 79 = .ok (.aload_n 0, 1) := by decide +kernel
theorem dX7_add_80 : decode cX7_add 80 = .ok (.getfield 24, 3) := by decide +kernel
theorem dX7_add_83 : decode cX7_add 83 = .ok (.iload 4, 2) := by decide +kernel
theorem dX7_add_85 : decode cX7_add 85 = .ok (.iastore, 1) := by decide +kernel
theorem dX7_add_86 : decode cX7_add 86 = .ok (.aload_n 0, 1) := by decide +kernel
theorem dX7_add_87 : decode cX7_add 87 = .ok (.dup, 1) := by decide +kernel
theorem dX7_add_88 : decode cX7_add 88 = .ok (.getfield 24, 3) := by decide +kernel
theorem dX7_add_91 : decode cX7_add 91 = .ok (.iconst 1, 1) := by decide +kernel
theorem dX7_add_92 : decode cX7_add 92 = .ok (.iadd, 1) := by decide +kernel
theorem dX7_add_93 : decode cX7_add 93 = .ok (.putfield 24, 3) := by decide +kernel
theorem dX7_add_96 : decode cX7_add 96 = .ok (.iconst 1, 1) := by decide +kernel
theorem dX7_add_97 : decode cX7_add 97 = .ok (.ireturn, 1) := by decide +kernel
set_option maxRecDepth 20000 in
theorem g_X7_add_0 {G : GX} {d : Nat} {Ret : Option AV → St → Prop} {R : Nat → List AV → List AV → St → Prop} (hM : AM G wdX (d + 1) mX7_add Ret R) (v1 : Int) (v2 : Int) (v3 : Int) (v4 : Int) (σ : St)
    (h : ((16 ≤ (σ.1 7 4) → Ret (some (vI 0)) σ) ∧ (¬ 16 ≤ (σ.1 7 4) → conI G wdX d mX9_isPlace [vI v1] σ (fun x1 σ1 => ((x1 = 0 → Ret (some (vI 0)) σ1) ∧ (¬ x1 = 0 → conI G wdX d mX9_isPlace [vI v2] σ1 (fun x2 σ2 => ((¬ x2 = 0 → ((v3 < 0 → Ret (some (vI 0)) σ2) ∧ (¬ v3 < 0 → ((2879 < v4 → Ret (some (vI 0)) σ2) ∧ (¬ 2879 < v4 → ((v3 < v4 → ((0 ≤ (σ2.1 7 4) ∧ (σ2.1 7 4) < 16) ∧ (∀ τ1, τ1 = sI σ2 34 ((σ2.1 7 4)).toNat v1 → ((0 ≤ (τ1.1 7 4) ∧ (τ1.1 7 4) < 16) ∧ (∀ τ2, τ2 = sI τ1 35 ((τ1.1 7 4)).toNat v2 → ((0 ≤ (τ2.1 7 4) ∧ (τ2.1 7 4) < 16) ∧ (∀ τ3, τ3 = sI τ2 36 ((τ2.1 7 4)).toNat v3 → ((0 ≤ (τ3.1 7 4) ∧ (τ3.1 7 4) < 16) ∧ (∀ τ4, τ4 = sI τ3 37 ((τ3.1 7 4)).toNat v4 → (r32 ((τ4.1 7 4) + 1) ∧ (∀ τ5, τ5 = sI τ4 7 4 ((τ4.1 7 4) + 1) → Ret (some (vI 1)) τ5))))))))))) ∧ (¬ v3 < v4 → Ret (some (vI 0)) σ2))))))) ∧ (x2 = 0 → Ret (some (vI 0)) σ2))))))))) : R 0 [vR 7, vI v1, vI v2, vI v3, vI v4] [] σ := by
  refine r_aload_n hM (pc' := 1) dX7_add_0 rfl (x := 7) rfl ?_
  refine r_getI hM (pc' := 4) dX7_add_1 rfl fl_X7_24 wx_7 rfl ?_
  refine r_bipush hM (pc' := 6) dX7_add_4 rfl (by decide) (by decide) ?_
  refine r_icmp_ge hM (pc' := 9) (tgt := 23) dX7_add_6 rfl (by decide) (fun c => ?_) (fun c => ?_)
  · have h := h.1 c
    refine r_iconst hM (pc' := 24) dX7_add_23 rfl (by decide) ?_
    exact r_zreturn hM dX7_add_24 rfl (by decide) h
  · have h := h.2 c
    refine r_iload_n hM (pc' := 10) dX7_add_9 rfl (x := v1) rfl ?_
    refine r_callNI hM (pc' := 13) [vI v1] dX7_add_10 rfl ml_X7_28 rfl rfl (Nat.le_of_ble_eq_true rfl) (conI.mono h (fun x1 σ1 h => ?_))
    refine r_if_eq hM (pc' := 16) (tgt := 23) dX7_add_13 rfl (by decide) (fun c => ?_) (fun c => ?_)
    · have h := h.1 c
      refine r_iconst hM (pc' := 24) dX7_add_23 rfl (by decide) ?_
      exact r_zreturn hM dX7_add_24 rfl (by decide) h
    · have h := h.2 c
      refine r_iload_n hM (pc' := 17) dX7_add_16 rfl (x := v2) rfl ?_
      refine r_callNI hM (pc' := 20) [vI v2] dX7_add_17 rfl ml_X7_28 rfl rfl (Nat.le_of_ble_eq_true rfl) (conI.mono h (fun x2 σ2 h => ?_))
      refine r_if_ne hM (pc' := 23) (tgt := 25) dX7_add_20 rfl (by decide) (fun c => ?_) (fun c => ?_)
      · have h := h.1 c
        refine r_iload_n hM (pc' := 26) dX7_add_25 rfl (x := v3) rfl ?_
        refine r_if_lt hM (pc' := 29) (tgt := 43) dX7_add_26 rfl (by decide) (fun c => ?_) (fun c => ?_)
        · have h := h.1 c
          refine r_iconst hM (pc' := 44) dX7_add_43 rfl (by decide) ?_
          exact r_zreturn hM dX7_add_44 rfl (by decide) h
        · have h := h.2 c
          refine r_iload hM (pc' := 31) dX7_add_29 rfl (x := v4) rfl ?_
          refine r_sipush hM (pc' := 34) dX7_add_31 rfl (by decide) (by decide) ?_
          refine r_icmp_gt hM (pc' := 37) (tgt := 43) dX7_add_34 rfl (by decide) (fun c => ?_) (fun c => ?_)
          · have h := h.1 c
            refine r_iconst hM (pc' := 44) dX7_add_43 rfl (by decide) ?_
            exact r_zreturn hM dX7_add_44 rfl (by decide) h
          · have h := h.2 c
            refine r_iload hM (pc' := 39) dX7_add_37 rfl (x := v4) rfl ?_
            refine r_iload_n hM (pc' := 40) dX7_add_39 rfl (x := v3) rfl ?_
            refine r_icmp_gt hM (pc' := 43) (tgt := 45) dX7_add_40 rfl (by decide) (fun c => ?_) (fun c => ?_)
            · have h := h.1 c
              refine r_aload_n hM (pc' := 46) dX7_add_45 rfl (x := 7) rfl ?_
              refine r_getR hM (pc' := 49) dX7_add_46 rfl fl_X7_9 wx_7 rfl ?_
              refine r_aload_n hM (pc' := 50) dX7_add_49 rfl (x := 7) rfl ?_
              refine r_getI hM (pc' := 53) dX7_add_50 rfl fl_X7_24 wx_7 rfl ?_
              refine r_iload_n hM (pc' := 54) dX7_add_53 rfl (x := v1) rfl ?_
              have o1 := h.1
              have h := h.2
              refine r_iastore hM (pc' := 55) dX7_add_54 rfl wx_34 o1 (fun τ1 e1 => ?_)
              have h := h τ1 e1
              refine r_aload_n hM (pc' := 56) dX7_add_55 rfl (x := 7) rfl ?_
              refine r_getR hM (pc' := 59) dX7_add_56 rfl fl_X7_15 wx_7 rfl ?_
              refine r_aload_n hM (pc' := 60) dX7_add_59 rfl (x := 7) rfl ?_
              refine r_getI hM (pc' := 63) dX7_add_60 rfl fl_X7_24 wx_7 rfl ?_
              refine r_iload_n hM (pc' := 64) dX7_add_63 rfl (x := v2) rfl ?_
              have o2 := h.1
              have h := h.2
              refine r_iastore hM (pc' := 65) dX7_add_64 rfl wx_35 o2 (fun τ2 e2 => ?_)
              have h := h τ2 e2
              refine r_aload_n hM (pc' := 66) dX7_add_65 rfl (x := 7) rfl ?_
              refine r_getR hM (pc' := 69) dX7_add_66 rfl fl_X7_18 wx_7 rfl ?_
              refine r_aload_n hM (pc' := 70) dX7_add_69 rfl (x := 7) rfl ?_
              refine r_getI hM (pc' := 73) dX7_add_70 rfl fl_X7_24 wx_7 rfl ?_
              refine r_iload_n hM (pc' := 74) dX7_add_73 rfl (x := v3) rfl ?_
              have o3 := h.1
              have h := h.2
              refine r_iastore hM (pc' := 75) dX7_add_74 rfl wx_36 o3 (fun τ3 e3 => ?_)
              have h := h τ3 e3
              refine r_aload_n hM (pc' := 76) dX7_add_75 rfl (x := 7) rfl ?_
              refine r_getR hM (pc' := 79) dX7_add_76 rfl fl_X7_21 wx_7 rfl ?_
              refine r_aload_n hM (pc' := 80) dX7_add_79 rfl (x := 7) rfl ?_
              refine r_getI hM (pc' := 83) dX7_add_80 rfl fl_X7_24 wx_7 rfl ?_
              refine r_iload hM (pc' := 85) dX7_add_83 rfl (x := v4) rfl ?_
              have o4 := h.1
              have h := h.2
              refine r_iastore hM (pc' := 86) dX7_add_85 rfl wx_37 o4 (fun τ4 e4 => ?_)
              have h := h τ4 e4
              refine r_aload_n hM (pc' := 87) dX7_add_86 rfl (x := 7) rfl ?_
              refine r_dup hM (pc' := 88) dX7_add_87 rfl (fun _ => rfl) ?_
              refine r_getI hM (pc' := 91) dX7_add_88 rfl fl_X7_24 wx_7 rfl ?_
              refine r_iconst hM (pc' := 92) dX7_add_91 rfl (by decide) ?_
              have o5 := h.1
              have h := h.2
              refine r_iadd hM (pc' := 93) dX7_add_92 rfl o5 ?_
              refine r_putI hM (pc' := 96) dX7_add_93 rfl fp_X7_24 wx_7 rfl (fun τ5 e5 => ?_)
              have h := h τ5 e5
              refine r_iconst hM (pc' := 97) dX7_add_96 rfl (by decide) ?_
              exact r_zreturn hM dX7_add_97 rfl (by decide) h
            · have h := h.2 c
              refine r_iconst hM (pc' := 44) dX7_add_43 rfl (by decide) ?_
              exact r_zreturn hM dX7_add_44 rfl (by decide) h
      · have h := h.2 c
        refine r_iconst hM (pc' := 24) dX7_add_23 rfl (by decide) ?_
        exact r_zreturn hM dX7_add_24 rfl (by decide) h
theorem dX7_takeAway_0 : decode cX7_takeAway 0 = .ok (.aload_n 0, 1) := by decide +kernel
theorem dX7_takeAway_1 : decode cX7_takeAway 1 = .ok (.iload_n 1, 1) := by decide +kernel
theorem dX7_takeAway_2 : decode cX7_takeAway 2 = .ok (.invokevirtual 32, 3) := by decide +kernel
theorem dX7_takeAway_5 : decode cX7_takeAway 5 = .ok (.ifCond .ne 5, 3) := by decide +kernel
theorem dX7_takeAway_8 : decode cX7_takeAway 8 = .ok (.iconst 0, 1) := by decide +kernel
theorem dX7_takeAway_9 : decode cX7_takeAway 9 = .ok (.ireturn, 1) := by decide +kernel
theorem dX7_takeAway_10 : decode cX7_takeAway 10 = .ok (.aload_n 0, 1) := by decide +kernel
theorem dX7_takeAway_11 : decode cX7_takeAway 11 = .ok (.dup, 1) := by decide +kernel
theorem dX7_takeAway_12 : decode cX7_takeAway 12 = .ok (.getfield 24, 3) := by decide +kernel
theorem dX7_takeAway_15 : decode cX7_takeAway 15 = .ok (.iconst 1, 1) := by decide +kernel
theorem dX7_takeAway_16 : decode cX7_takeAway 16 = .ok (.isub, 1) := by decide +kernel
theorem dX7_takeAway_17 : decode cX7_takeAway 17 = .ok (.putfield 24, 3) := by decide +kernel
theorem dX7_takeAway_20 : decode cX7_takeAway 20 = .ok (.iload_n 1, 1) := by decide +kernel
theorem dX7_takeAway_21 : decode cX7_takeAway 21 = .ok (.istore_n 2, 1) := by decide +kernel
theorem dX7_takeAway_22 : decode cX7_takeAway 22 = .ok (.iload_n 2, 1) := by decide +kernel
theorem dX7_takeAway_23 : decode cX7_takeAway 23 = .ok (.aload_n 0, 1) := by decide +kernel
theorem dX7_takeAway_24 : decode cX7_takeAway 24 = .ok (.getfield 24, 3) := by decide +kernel
theorem dX7_takeAway_27 : decode cX7_takeAway 27 = .ok (.if_icmp .ge 65, 3) := by decide +kernel
theorem dX7_takeAway_30 : decode cX7_takeAway 30 = .ok (.aload_n 0, 1) := by decide +kernel
theorem dX7_takeAway_31 : decode cX7_takeAway 31 = .ok (.getfield 9, 3) := by decide +kernel
theorem dX7_takeAway_34 : decode cX7_takeAway 34 = .ok (.iload_n 2, 1) := by decide +kernel
theorem dX7_takeAway_35 : decode cX7_takeAway 35 = .ok (.aload_n 0, 1) := by decide +kernel
theorem dX7_takeAway_36 : decode cX7_takeAway 36 = .ok (.getfield 9, 3) := by decide +kernel
theorem dX7_takeAway_39 : decode cX7_takeAway 39 = .ok (.iload_n 2, 1) := by decide +kernel
theorem dX7_takeAway_40 : decode cX7_takeAway 40 = .ok (.iconst 1, 1) := by decide +kernel
theorem dX7_takeAway_41 : decode cX7_takeAway 41 = .ok (.iadd, 1) := by decide +kernel
theorem dX7_takeAway_42 : decode cX7_takeAway 42 = .ok (.iaload, 1) := by decide +kernel
theorem dX7_takeAway_43 : decode cX7_takeAway 43 = .ok (.iastore, 1) := by decide +kernel
theorem dX7_takeAway_44 : decode cX7_takeAway 44 = .ok (.aload_n 0, 1) := by decide +kernel
theorem dX7_takeAway_45 : decode cX7_takeAway 45 = .ok (.getfield 15, 3) := by decide +kernel
theorem dX7_takeAway_48 : decode cX7_takeAway 48 = .ok (.iload_n 2, 1) := by decide +kernel
theorem dX7_takeAway_49 : decode cX7_takeAway 49 = .ok (.aload_n 0, 1) := by decide +kernel
theorem dX7_takeAway_50 : decode cX7_takeAway 50 = .ok (.getfield 15, 3) := by decide +kernel
theorem dX7_takeAway_53 : decode cX7_takeAway 53 = .ok (.iload_n 2, 1) := by decide +kernel
theorem dX7_takeAway_54 : decode cX7_takeAway 54 = .ok (.iconst 1, 1) := by decide +kernel
theorem dX7_takeAway_55 : decode cX7_takeAway 55 = .ok (.iadd, 1) := by decide +kernel
theorem dX7_takeAway_56 : decode cX7_takeAway 56 = .ok (.iaload, 1) := by decide +kernel
theorem dX7_takeAway_57 : decode cX7_takeAway 57 = .ok (.iastore, 1) := by decide +kernel
theorem dX7_takeAway_58 : decode cX7_takeAway 58 = .ok (.aload_n 0, 1) := by decide +kernel
theorem dX7_takeAway_59 : decode cX7_takeAway 59 = .ok (.getfield 18, 3) := by decide +kernel
theorem dX7_takeAway_62 : decode cX7_takeAway 62 = .ok (.iload_n 2, 1) := by decide +kernel
theorem dX7_takeAway_63 : decode cX7_takeAway 63 = .ok (.aload_n 0, 1) := by decide +kernel
theorem dX7_takeAway_64 : decode cX7_takeAway 64 = .ok (.getfield 18, 3) := by decide +kernel
theorem dX7_takeAway_67 : decode cX7_takeAway 67 = .ok (.iload_n 2, 1) := by decide +kernel
theorem dX7_takeAway_68 : decode cX7_takeAway 68 = .ok (.iconst 1, 1) := by decide +kernel
theorem dX7_takeAway_69 : decode cX7_takeAway 69 = .ok (.iadd, 1) := by decide +kernel
theorem dX7_takeAway_70 : decode cX7_takeAway 70 = .ok (.iaload, 1) := by decide +kernel
theorem dX7_takeAway_71 : decode cX7_takeAway 71 = .ok (.iastore, 1) := by decide +kernel
theorem dX7_takeAway_72 : decode cX7_takeAway 72 = .ok (.aload_n 0, 1) := by decide +kernel
theorem dX7_takeAway_73 : decode cX7_takeAway 73 = .ok (.getfield 21, 3) := by decide +kernel
theorem dX7_takeAway_76 : decode cX7_takeAway 76 = .ok (.iload_n 2, 1) := by decide +kernel
theorem dX7_takeAway_77 : decode cX7_takeAway 77 = .ok (.aload_n 0, 1) := by decide +kernel
theorem dX7_takeAway_78 : decode cX7_takeAway 78 = .ok (.getfield 21, 3) := by decide +kernel
theorem dX7_takeAway_81 : decode cX7_takeAway 81 = .ok (.iload_n 2, 1) := by decide +kernel
theorem dX7_takeAway_82 : decode cX7_takeAway 82 = .ok (.iconst 1, 1) := by decide +kernel
theorem dX7_takeAway_83 : decode cX7_takeAway 83 = .ok (.iadd, 1) := by decide +kernel
theorem dX7_takeAway_84 : decode cX7_takeAway 84 = .ok (.iaload, 1) := by decide +kernel
theorem dX7_takeAway_85 : decode cX7_takeAway 85 = .ok (.iastore, 1) := by decide +kernel
theorem dX7_takeAway_86 : decode cX7_takeAway 86 = .ok (.iinc 2 1, 3) := by decide +kernel
theorem dX7_takeAway_89 : decode cX7_takeAway 89 = .ok (.goto (-67), 3) := by decide +kernel
theorem dX7_takeAway_92 : decode cX7_takeAway 92 = .ok (.iconst 1, 1) := by decide +kernel
theorem dX7_takeAway_93 : decode cX7_takeAway 93 = .ok (.ireturn, 1) := by decide +kernel
set_option maxRecDepth 20000 in
theorem g_X7_takeAway_0 {G : GX} {d : Nat} {Ret : Option AV → St → Prop} {R : Nat → List AV → List AV → St → Prop} (hM : AM G wdX (d + 1) mX7_takeAway Ret R) (v1 : Int) (σ : St)
    (h : conI G wdX d mX7_holds [vR 7, vI v1] σ (fun x1 σ1 => ((¬ x1 = 0 → (r32 ((σ1.1 7 4) - 1) ∧ (∀ τ1, τ1 = sI σ1 7 4 ((σ1.1 7 4) - 1) → R 22 [vR 7, vN, vI v1] [] τ1))) ∧ (x1 = 0 → Ret (some (vI 0)) σ1)))) : R 0 [vR 7, vI v1, vN] [] σ := by
  refine r_aload_n hM (pc' := 1) dX7_takeAway_0 rfl (x := 7) rfl ?_
  refine r_iload_n hM (pc' := 2) dX7_takeAway_1 rfl (x := v1) rfl ?_
  refine r_callVI hM (pc' := 5) [vI v1] dX7_takeAway_2 rfl ml_X7_32 wx_7 rfl rfl (Nat.le_of_ble_eq_true rfl) (conI.mono h (fun x1 σ1 h => ?_))
  refine r_if_ne hM (pc' := 8) (tgt := 10) dX7_takeAway_5 rfl (by decide) (fun c => ?_) (fun c => ?_)
  · have h := h.1 c
    refine r_aload_n hM (pc' := 11) dX7_takeAway_10 rfl (x := 7) rfl ?_
    refine r_dup hM (pc' := 12) dX7_takeAway_11 rfl (fun _ => rfl) ?_
    refine r_getI hM (pc' := 15) dX7_takeAway_12 rfl fl_X7_24 wx_7 rfl ?_
    refine r_iconst hM (pc' := 16) dX7_takeAway_15 rfl (by decide) ?_
    have o1 := h.1
    have h := h.2
    refine r_isub hM (pc' := 17) dX7_takeAway_16 rfl o1 ?_
    refine r_putI hM (pc' := 20) dX7_takeAway_17 rfl fp_X7_24 wx_7 rfl (fun τ1 e1 => ?_)
    have h := h τ1 e1
    refine r_iload_n hM (pc' := 21) dX7_takeAway_20 rfl (x := v1) rfl ?_
    refine r_istore_n hM (pc' := 22) dX7_takeAway_21 rfl (Nat.le_of_ble_eq_true rfl) rfl ?_
    show R 22 [vR 7, vI v1, vI v1] _ _
    refine r_weak hM (ls' := [vR 7, vN, vI v1]) ⟨Or.inl rfl, Or.inr rfl, Or.inl rfl, trivial⟩ ?_
    exact h
  · have h := h.2 c
    refine r_iconst hM (pc' := 9) dX7_takeAway_8 rfl (by decide) ?_
    exact r_zreturn hM dX7_takeAway_9 rfl (by decide) h
set_option maxRecDepth 20000 in
theorem g_X7_takeAway_22 {G : GX} {d : Nat} {Ret : Option AV → St → Prop} {R : Nat → List AV → List AV → St → Prop} (hM : AM G wdX (d + 1) mX7_takeAway Ret R) (v2 : Int) (σ : St)
    (h : (((σ.1 7 4) ≤ v2 → Ret (some (vI 1)) σ) ∧ (¬ (σ.1 7 4) ≤ v2 → (r32 (v2 + 1) ∧ ((0 ≤ (v2 + 1) ∧ (v2 + 1) < 16) ∧ ((0 ≤ v2 ∧ v2 < 16) ∧ (∀ τ1, τ1 = sI σ 34 (v2).toNat (σ.1 34 ((v2 + 1)).toNat) → (∀ τ2, τ2 = sI τ1 35 (v2).toNat (τ1.1 35 ((v2 + 1)).toNat) → (∀ τ3, τ3 = sI τ2 36 (v2).toNat (τ2.1 36 ((v2 + 1)).toNat) → (∀ τ4, τ4 = sI τ3 37 (v2).toNat (τ3.1 37 ((v2 + 1)).toNat) → R 22 [vR 7, vN, vI (v2 + 1)] [] τ4)))))))))) : R 22 [vR 7, vN, vI v2] [] σ := by
  refine r_iload_n hM (pc' := 23) dX7_takeAway_22 rfl (x := v2) rfl ?_
  refine r_aload_n hM (pc' := 24) dX7_takeAway_23 rfl (x := 7) rfl ?_
  refine r_getI hM (pc' := 27) dX7_takeAway_24 rfl fl_X7_24 wx_7 rfl ?_
  refine r_icmp_ge hM (pc' := 30) (tgt := 92) dX7_takeAway_27 rfl (by decide) (fun c => ?_) (fun c => ?_)
  · have h := h.1 c
    refine r_iconst hM (pc' := 93) dX7_takeAway_92 rfl (by decide) ?_
    exact r_zreturn hM dX7_takeAway_93 rfl (by decide) h
  · have h := h.2 c
    refine r_aload_n hM (pc' := 31) dX7_takeAway_30 rfl (x := 7) rfl ?_
    refine r_getR hM (pc' := 34) dX7_takeAway_31 rfl fl_X7_9 wx_7 rfl ?_
    refine r_iload_n hM (pc' := 35) dX7_takeAway_34 rfl (x := v2) rfl ?_
    refine r_aload_n hM (pc' := 36) dX7_takeAway_35 rfl (x := 7) rfl ?_
    refine r_getR hM (pc' := 39) dX7_takeAway_36 rfl fl_X7_9 wx_7 rfl ?_
    refine r_iload_n hM (pc' := 40) dX7_takeAway_39 rfl (x := v2) rfl ?_
    refine r_iconst hM (pc' := 41) dX7_takeAway_40 rfl (by decide) ?_
    have o1 := h.1
    have h := h.2
    refine r_iadd hM (pc' := 42) dX7_takeAway_41 rfl o1 ?_
    have o2 := h.1
    have h := h.2
    refine r_iaload hM (pc' := 43) dX7_takeAway_42 rfl wx_34 o2 ?_
    have o3 := h.1
    have h := h.2
    refine r_iastore hM (pc' := 44) dX7_takeAway_43 rfl wx_34 o3 (fun τ1 e1 => ?_)
    have h := h τ1 e1
    refine r_aload_n hM (pc' := 45) dX7_takeAway_44 rfl (x := 7) rfl ?_
    refine r_getR hM (pc' := 48) dX7_takeAway_45 rfl fl_X7_15 wx_7 rfl ?_
    refine r_iload_n hM (pc' := 49) dX7_takeAway_48 rfl (x := v2) rfl ?_
    refine r_aload_n hM (pc' := 50) dX7_takeAway_49 rfl (x := 7) rfl ?_
    refine r_getR hM (pc' := 53) dX7_takeAway_50 rfl fl_X7_15 wx_7 rfl ?_
    refine r_iload_n hM (pc' := 54) dX7_takeAway_53 rfl (x := v2) rfl ?_
    refine r_iconst hM (pc' := 55) dX7_takeAway_54 rfl (by decide) ?_
    refine r_iadd hM (pc' := 56) dX7_takeAway_55 rfl o1 ?_
    refine r_iaload hM (pc' := 57) dX7_takeAway_56 rfl wx_35 o2 ?_
    refine r_iastore hM (pc' := 58) dX7_takeAway_57 rfl wx_35 o3 (fun τ2 e2 => ?_)
    have h := h τ2 e2
    refine r_aload_n hM (pc' := 59) dX7_takeAway_58 rfl (x := 7) rfl ?_
    refine r_getR hM (pc' := 62) dX7_takeAway_59 rfl fl_X7_18 wx_7 rfl ?_
    refine r_iload_n hM (pc' := 63) dX7_takeAway_62 rfl (x := v2) rfl ?_
    refine r_aload_n hM (pc' := 64) dX7_takeAway_63 rfl (x := 7) rfl ?_
    refine r_getR hM (pc' := 67) dX7_takeAway_64 rfl fl_X7_18 wx_7 rfl ?_
    refine r_iload_n hM (pc' := 68) dX7_takeAway_67 rfl (x := v2) rfl ?_
    refine r_iconst hM (pc' := 69) dX7_takeAway_68 rfl (by decide) ?_
    refine r_iadd hM (pc' := 70) dX7_takeAway_69 rfl o1 ?_
    refine r_iaload hM (pc' := 71) dX7_takeAway_70 rfl wx_36 o2 ?_
    refine r_iastore hM (pc' := 72) dX7_takeAway_71 rfl wx_36 o3 (fun τ3 e3 => ?_)
    have h := h τ3 e3
    refine r_aload_n hM (pc' := 73) dX7_takeAway_72 rfl (x := 7) rfl ?_
    refine r_getR hM (pc' := 76) dX7_takeAway_73 rfl fl_X7_21 wx_7 rfl ?_
    refine r_iload_n hM (pc' := 77) dX7_takeAway_76 rfl (x := v2) rfl ?_
    refine r_aload_n hM (pc' := 78) dX7_takeAway_77 rfl (x := 7) rfl ?_
    refine r_getR hM (pc' := 81) dX7_takeAway_78 rfl fl_X7_21 wx_7 rfl ?_
    refine r_iload_n hM (pc' := 82) dX7_takeAway_81 rfl (x := v2) rfl ?_
    refine r_iconst hM (pc' := 83) dX7_takeAway_82 rfl (by decide) ?_
    refine r_iadd hM (pc' := 84) dX7_takeAway_83 rfl o1 ?_
    refine r_iaload hM (pc' := 85) dX7_takeAway_84 rfl wx_37 o2 ?_
    refine r_iastore hM (pc' := 86) dX7_takeAway_85 rfl wx_37 o3 (fun τ4 e4 => ?_)
    have h := h τ4 e4
    refine r_iinc hM (pc' := 89) dX7_takeAway_86 rfl (x := v2) rfl rfl o1 ?_
    show R 89 [vR 7, vN, vI (v2 + 1)] _ _
    refine r_goto hM (tgt := 22) dX7_takeAway_89 (by decide) ?_
    exact h
theorem dX7_canShift_0 : decode cX7_canShift 0 = .ok (.aload_n 0, 1) := by decide +kernel
theorem dX7_canShift_1 : decode cX7_canShift 1 = .ok (.iload_n 1, 1) := by decide +kernel
theorem dX7_canShift_2 : decode cX7_canShift 2 = .ok (.invokevirtual 32, 3) := by decide +kernel
theorem dX7_canShift_5 : decode cX7_canShift 5 = .ok (.ifCond .eq 32, 3) := by decide +kernel
theorem dX7_canShift_8 : decode cX7_canShift 8 = .ok (.iload_n 2, 1) := by decide +kernel
theorem dX7_canShift_9 : decode cX7_canShift 9 = .ok (.aload_n 0, 1) := by decide +kernel
theorem dX7_canShift_10 : decode cX7_canShift 10 = .ok (.getfield 18, 3) := by decide +kernel
theorem dX7_canShift_13 : decode cX7_canShift 13 = .ok (.iload_n 1, 1) := by decide +kernel
theorem dX7_canShift_14 : decode cX7_canShift 14 = .ok (.iaload, 1) := by decide +kernel
theorem dX7_canShift_15 : decode cX7_canShift 15 = .ok (.ineg, 1) := by decide +kernel
theorem dX7_canShift_16 : decode cX7_canShift 16 = .ok (.if_icmp .lt 21, 3) := by decide +kernel
theorem dX7_canShift_19 : decode cX7_canShift 19 = .ok (.iload_n 2, 1) := by decide +kernel
theorem dX7_canShift_20 : decode cX7_canShift 20 = .ok (.sipush 2879, 3) := by decide +kernel
theorem dX7_canShift_23 : decode cX7_canShift 23 = .ok (.aload_n 0, 1) := by decide +kernel
theorem dX7_canShift_24 : decode cX7_canShift 24 = .ok (.getfield 21, 3) := by decide +kernel
theorem dX7_canShift_27 : decode cX7_canShift 27 = .ok (.iload_n 1, 1) := by decide +kernel
theorem dX7_canShift_28 : decode cX7_canShift 28 = .ok (.iaload, 1) := by decide +kernel
theorem dX7_canShift_29 : decode cX7_canShift 29 = .ok (.isub, 1) := by decide +kernel
theorem dX7_canShift_30 : decode cX7_canShift 30 = .ok (.if_icmp .gt 7, 3) := by decide +kernel
theorem dX7_canShift_33 : decode cX7_canShift 33 = .ok (.iconst 1, 1) := by decide +kernel
theorem dX7_canShift_34 : decode cX7_canShift 34 = .ok (.goto 4, 3) := by decide +kernel
theorem dX7_canShift_37 : decode cX7_canShift 37 = .ok (.iconst 0, 1) := by decide +kernel
theorem dX7_canShift_38 : decode cX7_canShift 38 = .ok (.ireturn, 1) := by decide +kernel
set_option maxRecDepth 20000 in
theorem g_X7_canShift_0 {G : GX} {d : Nat} {Ret : Option AV → St → Prop} {R : Nat → List AV → List AV → St → Prop} (hM : AM G wdX (d + 1) mX7_canShift Ret R) (v1 : Int) (v2 : Int) (σ : St)
    (h : conI G wdX d mX7_holds [vR 7, vI v1] σ (fun x1 σ1 => ((x1 = 0 → Ret (some (vI 0)) σ1) ∧ (¬ x1 = 0 → ((0 ≤ v1 ∧ v1 < 16) ∧ (r32 (-(σ1.1 36 (v1).toNat)) ∧ ((v2 < (-(σ1.1 36 (v1).toNat)) → Ret (some (vI 0)) σ1) ∧ (¬ v2 < (-(σ1.1 36 (v1).toNat)) → (r32 (2879 - (σ1.1 37 (v1).toNat)) ∧ (((2879 - (σ1.1 37 (v1).toNat)) < v2 → Ret (some (vI 0)) σ1) ∧ (¬ (2879 - (σ1.1 37 (v1).toNat)) < v2 → Ret (some (vI 1)) σ1))))))))))) : R 0 [vR 7, vI v1, vI v2] [] σ := by
  refine r_aload_n hM (pc' := 1) dX7_canShift_0 rfl (x := 7) rfl ?_
  refine r_iload_n hM (pc' := 2) dX7_canShift_1 rfl (x := v1) rfl ?_
  refine r_callVI hM (pc' := 5) [vI v1] dX7_canShift_2 rfl ml_X7_32 wx_7 rfl rfl (Nat.le_of_ble_eq_true rfl) (conI.mono h (fun x1 σ1 h => ?_))
  refine r_if_eq hM (pc' := 8) (tgt := 37) dX7_canShift_5 rfl (by decide) (fun c => ?_) (fun c => ?_)
  · have h := h.1 c
    refine r_iconst hM (pc' := 38) dX7_canShift_37 rfl (by decide) ?_
    exact r_zreturn hM dX7_canShift_38 rfl (by decide) h
  · have h := h.2 c
    refine r_iload_n hM (pc' := 9) dX7_canShift_8 rfl (x := v2) rfl ?_
    refine r_aload_n hM (pc' := 10) dX7_canShift_9 rfl (x := 7) rfl ?_
    refine r_getR hM (pc' := 13) dX7_canShift_10 rfl fl_X7_18 wx_7 rfl ?_
    refine r_iload_n hM (pc' := 14) dX7_canShift_13 rfl (x := v1) rfl ?_
    have o1 := h.1
    have h := h.2
    refine r_iaload hM (pc' := 15) dX7_canShift_14 rfl wx_36 o1 ?_
    have o2 := h.1
    have h := h.2
    refine r_ineg hM (pc' := 16) dX7_canShift_15 rfl o2 ?_
    refine r_icmp_lt hM (pc' := 19) (tgt := 37) dX7_canShift_16 rfl (by decide) (fun c => ?_) (fun c => ?_)
    · have h := h.1 c
      refine r_iconst hM (pc' := 38) dX7_canShift_37 rfl (by decide) ?_
      exact r_zreturn hM dX7_canShift_38 rfl (by decide) h
    · have h := h.2 c
      refine r_iload_n hM (pc' := 20) dX7_canShift_19 rfl (x := v2) rfl ?_
      refine r_sipush hM (pc' := 23) dX7_canShift_20 rfl (by decide) (by decide) ?_
      refine r_aload_n hM (pc' := 24) dX7_canShift_23 rfl (x := 7) rfl ?_
      refine r_getR hM (pc' := 27) dX7_canShift_24 rfl fl_X7_21 wx_7 rfl ?_
      refine r_iload_n hM (pc' := 28) dX7_canShift_27 rfl (x := v1) rfl ?_
      refine r_iaload hM (pc' := 29) dX7_canShift_28 rfl wx_37 o1 ?_
      have o3 := h.1
      have h := h.2
      refine r_isub hM (pc' := 30) dX7_canShift_29 rfl o3 ?_
      refine r_icmp_gt hM (pc' := 33) (tgt := 37) dX7_canShift_30 rfl (by decide) (fun c => ?_) (fun c => ?_)
      · have h := h.1 c
        refine r_iconst hM (pc' := 38) dX7_canShift_37 rfl (by decide) ?_
        exact r_zreturn hM dX7_canShift_38 rfl (by decide) h
      · have h := h.2 c
        refine r_iconst hM (pc' := 34) dX7_canShift_33 rfl (by decide) ?_
        refine r_goto hM (tgt := 38) dX7_canShift_34 (by decide) ?_
        exact r_zreturn hM dX7_canShift_38 rfl (by decide) h
theorem dX7_shift_0 : decode cX7_shift 0 = .ok (.aload_n 0, 1) := by decide +kernel
theorem dX7_shift_1 : decode cX7_shift 1 = .ok (.iload_n 1, 1) := by decide +kernel
theorem dX7_shift_2 : decode cX7_shift 2 = .ok (.iload_n 2, 1) := by decide +kernel
theorem dX7_shift_3 : decode cX7_shift 3 = .ok (.invokevirtual 35, 3) := by decide +kernel
theorem dX7_shift_6 : decode cX7_shift 6 = .ok (.ifCond .ne 5, 3) := by decide +kernel
theorem dX7_shift_9 : decode cX7_shift 9 = .ok (.iconst 0, 1) := by decide +kernel
theorem dX7_shift_10 : decode cX7_shift 10 = .ok (.ireturn, 1) := by decide +kernel
theorem dX7_shift_11 : decode cX7_shift 11 = .ok (.aload_n 0, 1) := by decide +kernel
theorem dX7_shift_12 : decode cX7_shift 12 = .ok (.getfield 18, 3) := by decide +kernel
theorem dX7_shift_15 : decode cX7_shift 15 = .ok (.iload_n 1, 1) := by decide +kernel
theorem dX7_shift_16 : decode cX7_shift 16 = .ok (.dup2, 1) := by decide +kernel
theorem dX7_shift_17 : decode cX7_shift 17 = .ok (.iaload, 1) := by decide +kernel
theorem dX7_shift_18 : decode cX7_shift 18 = .ok (.iload_n 2, 1) := by decide +kernel
theorem dX7_shift_19 : decode cX7_shift 19 = .ok (.iadd, 1) := by decide +kernel
theorem dX7_shift_20 : decode cX7_shift 20 = .ok (.iastore, 1) := by decide +kernel
theorem dX7_shift_21 : decode cX7_shift 21 = .ok (.aload_n 0, 1) := by decide +kernel
theorem dX7_shift_22 : decode cX7_shift 22 = .ok (.getfield 21, 3) := by decide +kernel
theorem dX7_shift_25 : decode cX7_shift 25 = .ok (.iload_n 1, 1) := by decide +kernel
theorem dX7_shift_26 : decode cX7_shift 26 = .ok (.dup2, 1) := by decide +kernel
theorem dX7_shift_27 : decode cX7_shift 27 = .ok (.iaload, 1) := by decide +kernel
theorem dX7_shift_28 : decode cX7_shift 28 = .ok (.iload_n 2, 1) := by decide +kernel
theorem dX7_shift_29 : decode cX7_shift 29 = .ok (.iadd, 1) := by decide +kernel
theorem dX7_shift_30 : decode cX7_shift 30 = .ok (.iastore, 1) := by decide +kernel
theorem dX7_shift_31 : decode cX7_shift 31 = .ok (.iconst 1, 1) := by decide +kernel
theorem dX7_shift_32 : decode cX7_shift 32 = .ok (.ireturn, 1) := by decide +kernel
set_option maxRecDepth 20000 in
theorem g_X7_shift_0 {G : GX} {d : Nat} {Ret : Option AV → St → Prop} {R : Nat → List AV → List AV → St → Prop} (hM : AM G wdX (d + 1) mX7_shift Ret R) (v1 : Int) (v2 : Int) (σ : St)
    (h : conI G wdX d mX7_canShift [vR 7, vI v1, vI v2] σ (fun x1 σ1 => ((¬ x1 = 0 → ((0 ≤ v1 ∧ v1 < 16) ∧ (r32 ((σ1.1 36 (v1).toNat) + v2) ∧ (∀ τ1, τ1 = sI σ1 36 (v1).toNat ((σ1.1 36 (v1).toNat) + v2) → (r32 ((τ1.1 37 (v1).toNat) + v2) ∧ (∀ τ2, τ2 = sI τ1 37 (v1).toNat ((τ1.1 37 (v1).toNat) + v2) → Ret (some (vI 1)) τ2)))))) ∧ (x1 = 0 → Ret (some (vI 0)) σ1)))) : R 0 [vR 7, vI v1, vI v2] [] σ := by
  refine r_aload_n hM (pc' := 1) dX7_shift_0 rfl (x := 7) rfl ?_
  refine r_iload_n hM (pc' := 2) dX7_shift_1 rfl (x := v1) rfl ?_
  refine r_iload_n hM (pc' := 3) dX7_shift_2 rfl (x := v2) rfl ?_
  refine r_callVI hM (pc' := 6) [vI v1, vI v2] dX7_shift_3 rfl ml_X7_35 wx_7 rfl rfl (Nat.le_of_ble_eq_true rfl) (conI.mono h (fun x1 σ1 h => ?_))
  refine r_if_ne hM (pc' := 9) (tgt := 11) dX7_shift_6 rfl (by decide) (fun c => ?_) (fun c => ?_)
  · have h := h.1 c
    refine r_aload_n hM (pc' := 12) dX7_shift_11 rfl (x := 7) rfl ?_
    refine r_getR hM (pc' := 15) dX7_shift_12 rfl fl_X7_18 wx_7 rfl ?_
    refine r_iload_n hM (pc' := 16) dX7_shift_15 rfl (x := v1) rfl ?_
    refine r_dup2 hM (pc' := 17) dX7_shift_16 rfl (fun _ => rfl) (fun _ => rfl) ?_
    have o1 := h.1
    have h := h.2
    refine r_iaload hM (pc' := 18) dX7_shift_17 rfl wx_36 o1 ?_
    refine r_iload_n hM (pc' := 19) dX7_shift_18 rfl (x := v2) rfl ?_
    have o2 := h.1
    have h := h.2
    refine r_iadd hM (pc' := 20) dX7_shift_19 rfl o2 ?_
    refine r_iastore hM (pc' := 21) dX7_shift_20 rfl wx_36 o1 (fun τ1 e1 => ?_)
    have h := h τ1 e1
    refine r_aload_n hM (pc' := 22) dX7_shift_21 rfl (x := 7) rfl ?_
    refine r_getR hM (pc' := 25) dX7_shift_22 rfl fl_X7_21 wx_7 rfl ?_
    refine r_iload_n hM (pc' := 26) dX7_shift_25 rfl (x := v1) rfl ?_
    refine r_dup2 hM (pc' := 27) dX7_shift_26 rfl (fun _ => rfl) (fun _ => rfl) ?_
    refine r_iaload hM (pc' := 28) dX7_shift_27 rfl wx_37 o1 ?_
    refine r_iload_n hM (pc' := 29) dX7_shift_28 rfl (x := v2) rfl ?_
    have o3 := h.1
    have h := h.2
    refine r_iadd hM (pc' := 30) dX7_shift_29 rfl o3 ?_
    refine r_iastore hM (pc' := 31) dX7_shift_30 rfl wx_37 o1 (fun τ2 e2 => ?_)
    have h := h τ2 e2
    refine r_iconst hM (pc' := 32) dX7_shift_31 rfl (by decide) ?_
    exact r_zreturn hM dX7_shift_32 rfl (by decide) h
  · have h := h.2 c
    refine r_iconst hM (pc' := 10) dX7_shift_9 rfl (by decide) ?_
    exact r_zreturn hM dX7_shift_10 rfl (by decide) h
theorem dX8_put_0 : decode cX8_put 0 = .ok (.iload_n 1, 1) := by decide +kernel
theorem dX8_put_1 : decode cX8_put 1 = .ok (.invokestatic 28, 3) := by decide +kernel
theorem dX8_put_4 : decode cX8_put 4 = .ok (.ifCond .eq 15, 3) := by decide +kernel
theorem dX8_put_7 : decode cX8_put 7 = .ok (.iload_n 2, 1) := by decide +kernel
theorem dX8_put_8 : decode cX8_put 8 = .ok (.invokestatic 28, 3) := by decide +kernel
theorem dX8_put_11 : decode cX8_put 11 = .ok (.ifCond .eq 8, 3) := by decide +kernel
theorem dX8_put_14 : decode cX8_put 14 = .ok (.iload_n 1, 1) := by decide +kernel
theorem dX8_put_15 : decode cX8_put 15 = .ok (.iload_n 2, 1) := by decide +kernel
theorem dX8_put_16 : decode cX8_put 16 = .ok (.if_icmp .ne 5, 3) := by decide +kernel
theorem dX8_put_19 : decode cX8_put 19 = .ok (.iconst 0, 1) := by decide +kernel
theorem dX8_put_20 : decode cX8_put 20 = .ok (.ireturn, 1) := by decide +kernel
theorem dX8_put_21 : decode cX8_put 21 = .ok (.iload_n 3, 1) := by decide +kernel
theorem dX8_put_22 : decode cX8_put 22 = .ok (.iconst (-1), 1) := by decide +kernel
theorem dX8_put_23 : decode cX8_put 23 = .ok (.sipush 600, 3) := by decide +kernel
theorem dX8_put_26 : decode cX8_put 26 = .ok (.invokestatic 32, 3) := by decide +kernel
theorem dX8_put_29 : decode cX8_put 29 = .ok (.ifCond .eq 15, 3) := by decide +kernel
theorem dX8_put_32 : decode cX8_put 32 = .ok (.iload 4, 2) := by decide +kernel
theorem dX8_put_34 : decode cX8_put 34 = .ok (.iconst 0, 1) := by decide +kernel
theorem dX8_put_35 : decode cX8_put 35 = .ok (.sipush 1000, 3) := by decide +kernel
theorem dX8_put_38 : decode cX8_put 38 = .ok (.invokestatic 32, 3) := by decide +kernel
theorem dX8_put_41 : decode cX8_put 41 = .ok (.ifCond .ne 5, 3) := by decide +kernel
theorem dX8_put_44 : decode cX8_put 44 = .ok (.iconst 0, 1) := by decide +kernel
theorem dX8_put_45 : decode cX8_put 45 = .ok (.ireturn, 1) := by decide +kernel
theorem dX8_put_46 : decode cX8_put 46 = .ok (.aload_n 0, 1) := by decide +kernel
theorem dX8_put_47 : decode cX8_put 47 = .ok (.getfield 9, 3) := by decide +kernel
theorem dX8_put_50 : decode cX8_put 50 = .ok (.iload_n 1, 1) := by decide +kernel
theorem dX8_put_51 : decode cX8_put 51 = .ok (.bipush 12, 2) := by decide +kernel
theorem dX8_put_53 : decode cX8_put 53 = .ok (.imul, 1) := by decide +kernel
theorem dX8_put_54 : decode cX8_put 54 = .ok (.iload_n 2, 1) := by decide +kernel
theorem dX8_put_55 : decode cX8_put 55 = .ok (.iadd, 1) := by decide +kernel
theorem dX8_put_56 : decode cX8_put 56 = .ok (.iload_n 3, 1) := by decide +kernel
theorem dX8_put_57 : decode cX8_put 57 = .ok (.iastore, 1) := by decide +kernel
theorem dX8_put_58 : decode cX8_put 58 = .ok (.aload_n 0, 1) := by decide +kernel
theorem dX8_put_59 : decode cX8_put 59 = .ok (.getfield 15, 3) := by decide +kernel
theorem dX8_put_62 : decode cX8_put 62 = .ok (.iload_n 1, 1) := by decide +kernel
theorem dX8_put_63 : decode cX8_put 63 = .ok (.bipush 12, 2) := by decide +kernel
theorem dX8_put_65 : decode cX8_put 65 = .ok (.imul, 1) := by decide +kernel
theorem dX8_put_66 : decode cX8_put 66 = .ok (.iload_n 2, 1) := by decide +kernel
theorem dX8_put_67 : decode cX8_put 67 = .ok (.iadd, 1) := by decide +kernel
theorem dX8_put_68 : decode cX8_put 68 = .ok (.iload 4, 2) := by decide +kernel
theorem dX8_put_70 : decode cX8_put 70 = .ok (.iastore, 1) := by decide +kernel
theorem dX8_put_71 : decode cX8_put 71 = .ok (.iconst 1, 1) := by decide +kernel
theorem dX8_put_72 : decode cX8_put 72 = .ok (.ireturn, 1) := by decide +kernel
set_option maxRecDepth 20000 in
theorem g_X8_put_0 {G : GX} {d : Nat} {Ret : Option AV → St → Prop} {R : Nat → List AV → List AV → St → Prop} (hM : AM G wdX (d + 1) mX8_put Ret R) (v1 : Int) (v2 : Int) (v3 : Int) (v4 : Int) (σ : St)
    (h : conI G wdX d mX9_isPlace [vI v1] σ (fun x1 σ1 => ((x1 = 0 → Ret (some (vI 0)) σ1) ∧ (¬ x1 = 0 → conI G wdX d mX9_isPlace [vI v2] σ1 (fun x2 σ2 => ((x2 = 0 → Ret (some (vI 0)) σ2) ∧ (¬ x2 = 0 → ((¬ v1 = v2 → conI G wdX d mX9_within [vI v3, vI (-1), vI 600] σ2 (fun x3 σ3 => ((x3 = 0 → Ret (some (vI 0)) σ3) ∧ (¬ x3 = 0 → conI G wdX d mX9_within [vI v4, vI 0, vI 1000] σ3 (fun x4 σ4 => ((¬ x4 = 0 → (r32 (v1 * 12) ∧ (r32 ((v1 * 12) + v2) ∧ ((0 ≤ ((v1 * 12) + v2) ∧ ((v1 * 12) + v2) < 144) ∧ (∀ τ1, τ1 = sI σ4 38 (((v1 * 12) + v2)).toNat v3 → (∀ τ2, τ2 = sI τ1 39 (((v1 * 12) + v2)).toNat v4 → Ret (some (vI 1)) τ2)))))) ∧ (x4 = 0 → Ret (some (vI 0)) σ4))))))) ∧ (v1 = v2 → Ret (some (vI 0)) σ2))))))))) : R 0 [vR 8, vI v1, vI v2, vI v3, vI v4] [] σ := by
  refine r_iload_n hM (pc' := 1) dX8_put_0 rfl (x := v1) rfl ?_
  refine r_callNI hM (pc' := 4) [vI v1] dX8_put_1 rfl ml_X8_28 rfl rfl (Nat.le_of_ble_eq_true rfl) (conI.mono h (fun x1 σ1 h => ?_))
  refine r_if_eq hM (pc' := 7) (tgt := 19) dX8_put_4 rfl (by decide) (fun c => ?_) (fun c => ?_)
  · have h := h.1 c
    refine r_iconst hM (pc' := 20) dX8_put_19 rfl (by decide) ?_
    exact r_zreturn hM dX8_put_20 rfl (by decide) h
  · have h := h.2 c
    refine r_iload_n hM (pc' := 8) dX8_put_7 rfl (x := v2) rfl ?_
    refine r_callNI hM (pc' := 11) [vI v2] dX8_put_8 rfl ml_X8_28 rfl rfl (Nat.le_of_ble_eq_true rfl) (conI.mono h (fun x2 σ2 h => ?_))
    refine r_if_eq hM (pc' := 14) (tgt := 19) dX8_put_11 rfl (by decide) (fun c => ?_) (fun c => ?_)
    · have h := h.1 c
      refine r_iconst hM (pc' := 20) dX8_put_19 rfl (by decide) ?_
      exact r_zreturn hM dX8_put_20 rfl (by decide) h
    · have h := h.2 c
      refine r_iload_n hM (pc' := 15) dX8_put_14 rfl (x := v1) rfl ?_
      refine r_iload_n hM (pc' := 16) dX8_put_15 rfl (x := v2) rfl ?_
      refine r_icmp_ne hM (pc' := 19) (tgt := 21) dX8_put_16 rfl (by decide) (fun c => ?_) (fun c => ?_)
      · have h := h.1 c
        refine r_iload_n hM (pc' := 22) dX8_put_21 rfl (x := v3) rfl ?_
        refine r_iconst hM (pc' := 23) dX8_put_22 rfl (by decide) ?_
        refine r_sipush hM (pc' := 26) dX8_put_23 rfl (by decide) (by decide) ?_
        refine r_callNI hM (pc' := 29) [vI v3, vI (-1), vI 600] dX8_put_26 rfl ml_X8_32 rfl rfl (Nat.le_of_ble_eq_true rfl) (conI.mono h (fun x3 σ3 h => ?_))
        refine r_if_eq hM (pc' := 32) (tgt := 44) dX8_put_29 rfl (by decide) (fun c => ?_) (fun c => ?_)
        · have h := h.1 c
          refine r_iconst hM (pc' := 45) dX8_put_44 rfl (by decide) ?_
          exact r_zreturn hM dX8_put_45 rfl (by decide) h
        · have h := h.2 c
          refine r_iload hM (pc' := 34) dX8_put_32 rfl (x := v4) rfl ?_
          refine r_iconst hM (pc' := 35) dX8_put_34 rfl (by decide) ?_
          refine r_sipush hM (pc' := 38) dX8_put_35 rfl (by decide) (by decide) ?_
          refine r_callNI hM (pc' := 41) [vI v4, vI 0, vI 1000] dX8_put_38 rfl ml_X8_32 rfl rfl (Nat.le_of_ble_eq_true rfl) (conI.mono h (fun x4 σ4 h => ?_))
          refine r_if_ne hM (pc' := 44) (tgt := 46) dX8_put_41 rfl (by decide) (fun c => ?_) (fun c => ?_)
          · have h := h.1 c
            refine r_aload_n hM (pc' := 47) dX8_put_46 rfl (x := 8) rfl ?_
            refine r_getR hM (pc' := 50) dX8_put_47 rfl fl_X8_9 wx_8 rfl ?_
            refine r_iload_n hM (pc' := 51) dX8_put_50 rfl (x := v1) rfl ?_
            refine r_bipush hM (pc' := 53) dX8_put_51 rfl (by decide) (by decide) ?_
            have o1 := h.1
            have h := h.2
            refine r_imul hM (pc' := 54) dX8_put_53 rfl o1 ?_
            refine r_iload_n hM (pc' := 55) dX8_put_54 rfl (x := v2) rfl ?_
            have o2 := h.1
            have h := h.2
            refine r_iadd hM (pc' := 56) dX8_put_55 rfl o2 ?_
            refine r_iload_n hM (pc' := 57) dX8_put_56 rfl (x := v3) rfl ?_
            have o3 := h.1
            have h := h.2
            refine r_iastore hM (pc' := 58) dX8_put_57 rfl wx_38 o3 (fun τ1 e1 => ?_)
            have h := h τ1 e1
            refine r_aload_n hM (pc' := 59) dX8_put_58 rfl (x := 8) rfl ?_
            refine r_getR hM (pc' := 62) dX8_put_59 rfl fl_X8_15 wx_8 rfl ?_
            refine r_iload_n hM (pc' := 63) dX8_put_62 rfl (x := v1) rfl ?_
            refine r_bipush hM (pc' := 65) dX8_put_63 rfl (by decide) (by decide) ?_
            refine r_imul hM (pc' := 66) dX8_put_65 rfl o1 ?_
            refine r_iload_n hM (pc' := 67) dX8_put_66 rfl (x := v2) rfl ?_
            refine r_iadd hM (pc' := 68) dX8_put_67 rfl o2 ?_
            refine r_iload hM (pc' := 70) dX8_put_68 rfl (x := v4) rfl ?_
            refine r_iastore hM (pc' := 71) dX8_put_70 rfl wx_39 o3 (fun τ2 e2 => ?_)
            have h := h τ2 e2
            refine r_iconst hM (pc' := 72) dX8_put_71 rfl (by decide) ?_
            exact r_zreturn hM dX8_put_72 rfl (by decide) h
          · have h := h.2 c
            refine r_iconst hM (pc' := 45) dX8_put_44 rfl (by decide) ?_
            exact r_zreturn hM dX8_put_45 rfl (by decide) h
      · have h := h.2 c
        refine r_iconst hM (pc' := 20) dX8_put_19 rfl (by decide) ?_
        exact r_zreturn hM dX8_put_20 rfl (by decide) h
theorem dX8_putRelief_0 : decode cX8_putRelief 0 = .ok (.iload_n 1, 1) := by decide +kernel
theorem dX8_putRelief_1 : decode cX8_putRelief 1 = .ok (.invokestatic 28, 3) := by decide +kernel
theorem dX8_putRelief_4 : decode cX8_putRelief 4 = .ok (.ifCond .ne 5, 3) := by decide +kernel
theorem dX8_putRelief_7 : decode cX8_putRelief 7 = .ok (.iconst 0, 1) := by decide +kernel
theorem dX8_putRelief_8 : decode cX8_putRelief 8 = .ok (.ireturn, 1) := by decide +kernel
theorem dX8_putRelief_9 : decode cX8_putRelief 9 = .ok (.aload_n 0, 1) := by decide +kernel
theorem dX8_putRelief_10 : decode cX8_putRelief 10 = .ok (.getfield 18, 3) := by decide +kernel
theorem dX8_putRelief_13 : decode cX8_putRelief 13 = .ok (.iload_n 1, 1) := by decide +kernel
theorem dX8_putRelief_14 : decode cX8_putRelief 14 = .ok (.iload_n 2, 1) := by decide +kernel
theorem dX8_putRelief_15 : decode cX8_putRelief 15 = .ok (.bastore, 1) := by decide +kernel
theorem dX8_putRelief_16 : decode cX8_putRelief 16 = .ok (.iconst 1, 1) := by decide +kernel
theorem dX8_putRelief_17 : decode cX8_putRelief 17 = .ok (.ireturn, 1) := by decide +kernel
set_option maxRecDepth 20000 in
theorem g_X8_putRelief_0 {G : GX} {d : Nat} {Ret : Option AV → St → Prop} {R : Nat → List AV → List AV → St → Prop} (hM : AM G wdX (d + 1) mX8_putRelief Ret R) (v1 : Int) (v2 : Int) (σ : St)
    (h : conI G wdX d mX9_isPlace [vI v1] σ (fun x1 σ1 => ((¬ x1 = 0 → ((0 ≤ v1 ∧ v1 < 12) ∧ ((v2 = 0 ∨ v2 = 1) ∧ (∀ τ1, τ1 = sI σ1 40 (v1).toNat v2 → Ret (some (vI 1)) τ1)))) ∧ (x1 = 0 → Ret (some (vI 0)) σ1)))) : R 0 [vR 8, vI v1, vI v2] [] σ := by
  refine r_iload_n hM (pc' := 1) dX8_putRelief_0 rfl (x := v1) rfl ?_
  refine r_callNI hM (pc' := 4) [vI v1] dX8_putRelief_1 rfl ml_X8_28 rfl rfl (Nat.le_of_ble_eq_true rfl) (conI.mono h (fun x1 σ1 h => ?_))
  refine r_if_ne hM (pc' := 7) (tgt := 9) dX8_putRelief_4 rfl (by decide) (fun c => ?_) (fun c => ?_)
  · have h := h.1 c
    refine r_aload_n hM (pc' := 10) dX8_putRelief_9 rfl (x := 8) rfl ?_
    refine r_getR hM (pc' := 13) dX8_putRelief_10 rfl fl_X8_18 wx_8 rfl ?_
    refine r_iload_n hM (pc' := 14) dX8_putRelief_13 rfl (x := v1) rfl ?_
    refine r_iload_n hM (pc' := 15) dX8_putRelief_14 rfl (x := v2) rfl ?_
    have o1 := h.1
    have h := h.2
    have o2 := h.1
    have h := h.2
    refine r_zastore hM (pc' := 16) dX8_putRelief_15 rfl wx_40 o1 o2 (fun τ1 e1 => ?_)
    have h := h τ1 e1
    refine r_iconst hM (pc' := 17) dX8_putRelief_16 rfl (by decide) ?_
    exact r_zreturn hM dX8_putRelief_17 rfl (by decide) h
  · have h := h.2 c
    refine r_iconst hM (pc' := 8) dX8_putRelief_7 rfl (by decide) ?_
    exact r_zreturn hM dX8_putRelief_8 rfl (by decide) h
theorem dX8_minutesOf_0 : decode cX8_minutesOf 0 = .ok (.iload_n 1, 1) := by decide +kernel
theorem dX8_minutesOf_1 : decode cX8_minutesOf 1 = .ok (.invokestatic 28, 3) := by decide +kernel
theorem dX8_minutesOf_4 : decode cX8_minutesOf 4 = .ok (.ifCond .eq 24, 3) := by decide +kernel
theorem dX8_minutesOf_7 : decode cX8_minutesOf 7 = .ok (.iload_n 2, 1) := by decide +kernel
theorem dX8_minutesOf_8 : decode cX8_minutesOf 8 = .ok (.invokestatic 28, 3) := by decide +kernel
theorem dX8_minutesOf_11 : decode cX8_minutesOf 11 = .ok (.ifCond .eq 17, 3) := by decide +kernel
theorem dX8_minutesOf_14 : decode cX8_minutesOf 14 = .ok (.aload_n 0, 1) := by decide +kernel
theorem dX8_minutesOf_15 : decode cX8_minutesOf 15 = .ok (.getfield 9, 3) := by decide +kernel
theorem dX8_minutesOf_18 : decode cX8_minutesOf 18 = .ok (.iload_n 1, 1) := by decide +kernel
theorem dX8_minutesOf_19 : decode cX8_minutesOf 19 = .ok (.bipush 12, 2) := by decide +kernel
theorem dX8_minutesOf_21 : decode cX8_minutesOf 21 = .ok (.imul, 1) := by decide +kernel
theorem dX8_minutesOf_22 : decode cX8_minutesOf 22 = .ok (.iload_n 2, 1) := by decide +kernel
theorem dX8_minutesOf_23 : decode cX8_minutesOf 23 = .ok (.iadd, 1) := by decide +kernel
theorem dX8_minutesOf_24 : decode cX8_minutesOf 24 = .ok (.iaload, 1) := by decide +kernel
theorem dX8_minutesOf_25 : decode cX8_minutesOf 25 = .ok (.goto 4, 3) := by decide +kernel
theorem dX8_minutesOf_28 : decode cX8_minutesOf 28 = .ok (.iconst (-1), 1) := by decide +kernel
theorem dX8_minutesOf_29 : decode cX8_minutesOf 29 = .ok (.ireturn, 1) := by decide +kernel
set_option maxRecDepth 20000 in
theorem g_X8_minutesOf_0 {G : GX} {d : Nat} {Ret : Option AV → St → Prop} {R : Nat → List AV → List AV → St → Prop} (hM : AM G wdX (d + 1) mX8_minutesOf Ret R) (v1 : Int) (v2 : Int) (σ : St)
    (h : conI G wdX d mX9_isPlace [vI v1] σ (fun x1 σ1 => ((x1 = 0 → Ret (some (vI (-1))) σ1) ∧ (¬ x1 = 0 → conI G wdX d mX9_isPlace [vI v2] σ1 (fun x2 σ2 => ((x2 = 0 → Ret (some (vI (-1))) σ2) ∧ (¬ x2 = 0 → (r32 (v1 * 12) ∧ (r32 ((v1 * 12) + v2) ∧ ((0 ≤ ((v1 * 12) + v2) ∧ ((v1 * 12) + v2) < 144) ∧ Ret (some (vI (σ2.1 38 (((v1 * 12) + v2)).toNat))) σ2)))))))))) : R 0 [vR 8, vI v1, vI v2] [] σ := by
  refine r_iload_n hM (pc' := 1) dX8_minutesOf_0 rfl (x := v1) rfl ?_
  refine r_callNI hM (pc' := 4) [vI v1] dX8_minutesOf_1 rfl ml_X8_28 rfl rfl (Nat.le_of_ble_eq_true rfl) (conI.mono h (fun x1 σ1 h => ?_))
  refine r_if_eq hM (pc' := 7) (tgt := 28) dX8_minutesOf_4 rfl (by decide) (fun c => ?_) (fun c => ?_)
  · have h := h.1 c
    refine r_iconst hM (pc' := 29) dX8_minutesOf_28 rfl (by decide) ?_
    exact r_ireturn hM dX8_minutesOf_29 rfl h
  · have h := h.2 c
    refine r_iload_n hM (pc' := 8) dX8_minutesOf_7 rfl (x := v2) rfl ?_
    refine r_callNI hM (pc' := 11) [vI v2] dX8_minutesOf_8 rfl ml_X8_28 rfl rfl (Nat.le_of_ble_eq_true rfl) (conI.mono h (fun x2 σ2 h => ?_))
    refine r_if_eq hM (pc' := 14) (tgt := 28) dX8_minutesOf_11 rfl (by decide) (fun c => ?_) (fun c => ?_)
    · have h := h.1 c
      refine r_iconst hM (pc' := 29) dX8_minutesOf_28 rfl (by decide) ?_
      exact r_ireturn hM dX8_minutesOf_29 rfl h
    · have h := h.2 c
      refine r_aload_n hM (pc' := 15) dX8_minutesOf_14 rfl (x := 8) rfl ?_
      refine r_getR hM (pc' := 18) dX8_minutesOf_15 rfl fl_X8_9 wx_8 rfl ?_
      refine r_iload_n hM (pc' := 19) dX8_minutesOf_18 rfl (x := v1) rfl ?_
      refine r_bipush hM (pc' := 21) dX8_minutesOf_19 rfl (by decide) (by decide) ?_
      have o1 := h.1
      have h := h.2
      refine r_imul hM (pc' := 22) dX8_minutesOf_21 rfl o1 ?_
      refine r_iload_n hM (pc' := 23) dX8_minutesOf_22 rfl (x := v2) rfl ?_
      have o2 := h.1
      have h := h.2
      refine r_iadd hM (pc' := 24) dX8_minutesOf_23 rfl o2 ?_
      have o3 := h.1
      have h := h.2
      refine r_iaload hM (pc' := 25) dX8_minutesOf_24 rfl wx_38 o3 ?_
      refine r_goto hM (tgt := 29) dX8_minutesOf_25 (by decide) ?_
      exact r_ireturn hM dX8_minutesOf_29 rfl h
theorem dX8_priceOf_0 : decode cX8_priceOf 0 = .ok (.iload_n 1, 1) := by decide +kernel
theorem dX8_priceOf_1 : decode cX8_priceOf 1 = .ok (.invokestatic 28, 3) := by decide +kernel
theorem dX8_priceOf_4 : decode cX8_priceOf 4 = .ok (.ifCond .eq 24, 3) := by decide +kernel
theorem dX8_priceOf_7 : decode cX8_priceOf 7 = .ok (.iload_n 2, 1) := by decide +kernel
theorem dX8_priceOf_8 : decode cX8_priceOf 8 = .ok (.invokestatic 28, 3) := by decide +kernel
theorem dX8_priceOf_11 : decode cX8_priceOf 11 = .ok (.ifCond .eq 17, 3) := by decide +kernel
theorem dX8_priceOf_14 : decode cX8_priceOf 14 = .ok (.aload_n 0, 1) := by decide +kernel
theorem dX8_priceOf_15 : decode cX8_priceOf 15 = .ok (.getfield 15, 3) := by decide +kernel
theorem dX8_priceOf_18 : decode cX8_priceOf 18 = .ok (.iload_n 1, 1) := by decide +kernel
theorem dX8_priceOf_19 : decode cX8_priceOf 19 = .ok (.bipush 12, 2) := by decide +kernel
theorem dX8_priceOf_21 : decode cX8_priceOf 21 = .ok (.imul, 1) := by decide +kernel
theorem dX8_priceOf_22 : decode cX8_priceOf 22 = .ok (.iload_n 2, 1) := by decide +kernel
theorem dX8_priceOf_23 : decode cX8_priceOf 23 = .ok (.iadd, 1) := by decide +kernel
theorem dX8_priceOf_24 : decode cX8_priceOf 24 = .ok (.iaload, 1) := by decide +kernel
theorem dX8_priceOf_25 : decode cX8_priceOf 25 = .ok (.goto 4, 3) := by decide +kernel
theorem dX8_priceOf_28 : decode cX8_priceOf 28 = .ok (.iconst 0, 1) := by decide +kernel
theorem dX8_priceOf_29 : decode cX8_priceOf 29 = .ok (.ireturn, 1) := by decide +kernel
set_option maxRecDepth 20000 in
theorem g_X8_priceOf_0 {G : GX} {d : Nat} {Ret : Option AV → St → Prop} {R : Nat → List AV → List AV → St → Prop} (hM : AM G wdX (d + 1) mX8_priceOf Ret R) (v1 : Int) (v2 : Int) (σ : St)
    (h : conI G wdX d mX9_isPlace [vI v1] σ (fun x1 σ1 => ((x1 = 0 → Ret (some (vI 0)) σ1) ∧ (¬ x1 = 0 → conI G wdX d mX9_isPlace [vI v2] σ1 (fun x2 σ2 => ((x2 = 0 → Ret (some (vI 0)) σ2) ∧ (¬ x2 = 0 → (r32 (v1 * 12) ∧ (r32 ((v1 * 12) + v2) ∧ ((0 ≤ ((v1 * 12) + v2) ∧ ((v1 * 12) + v2) < 144) ∧ Ret (some (vI (σ2.1 39 (((v1 * 12) + v2)).toNat))) σ2)))))))))) : R 0 [vR 8, vI v1, vI v2] [] σ := by
  refine r_iload_n hM (pc' := 1) dX8_priceOf_0 rfl (x := v1) rfl ?_
  refine r_callNI hM (pc' := 4) [vI v1] dX8_priceOf_1 rfl ml_X8_28 rfl rfl (Nat.le_of_ble_eq_true rfl) (conI.mono h (fun x1 σ1 h => ?_))
  refine r_if_eq hM (pc' := 7) (tgt := 28) dX8_priceOf_4 rfl (by decide) (fun c => ?_) (fun c => ?_)
  · have h := h.1 c
    refine r_iconst hM (pc' := 29) dX8_priceOf_28 rfl (by decide) ?_
    exact r_ireturn hM dX8_priceOf_29 rfl h
  · have h := h.2 c
    refine r_iload_n hM (pc' := 8) dX8_priceOf_7 rfl (x := v2) rfl ?_
    refine r_callNI hM (pc' := 11) [vI v2] dX8_priceOf_8 rfl ml_X8_28 rfl rfl (Nat.le_of_ble_eq_true rfl) (conI.mono h (fun x2 σ2 h => ?_))
    refine r_if_eq hM (pc' := 14) (tgt := 28) dX8_priceOf_11 rfl (by decide) (fun c => ?_) (fun c => ?_)
    · have h := h.1 c
      refine r_iconst hM (pc' := 29) dX8_priceOf_28 rfl (by decide) ?_
      exact r_ireturn hM dX8_priceOf_29 rfl h
    · have h := h.2 c
      refine r_aload_n hM (pc' := 15) dX8_priceOf_14 rfl (x := 8) rfl ?_
      refine r_getR hM (pc' := 18) dX8_priceOf_15 rfl fl_X8_15 wx_8 rfl ?_
      refine r_iload_n hM (pc' := 19) dX8_priceOf_18 rfl (x := v1) rfl ?_
      refine r_bipush hM (pc' := 21) dX8_priceOf_19 rfl (by decide) (by decide) ?_
      have o1 := h.1
      have h := h.2
      refine r_imul hM (pc' := 22) dX8_priceOf_21 rfl o1 ?_
      refine r_iload_n hM (pc' := 23) dX8_priceOf_22 rfl (x := v2) rfl ?_
      have o2 := h.1
      have h := h.2
      refine r_iadd hM (pc' := 24) dX8_priceOf_23 rfl o2 ?_
      have o3 := h.1
      have h := h.2
      refine r_iaload hM (pc' := 25) dX8_priceOf_24 rfl wx_39 o3 ?_
      refine r_goto hM (tgt := 29) dX8_priceOf_25 (by decide) ?_
      exact r_ireturn hM dX8_priceOf_29 rfl h
theorem dX8_isRelief_0 : decode cX8_isRelief 0 = .ok (.iload_n 1, 1) := by decide +kernel
theorem dX8_isRelief_1 : decode cX8_isRelief 1 = .ok (.invokestatic 28, 3) := by decide +kernel
theorem dX8_isRelief_4 : decode cX8_isRelief 4 = .ok (.ifCond .eq 16, 3) := by decide +kernel
theorem dX8_isRelief_7 : decode cX8_isRelief 7 = .ok (.aload_n 0, 1) := by decide +kernel
theorem dX8_isRelief_8 : decode cX8_isRelief 8 = .ok (.getfield 18, 3) := by decide +kernel
theorem dX8_isRelief_11 : decode cX8_isRelief 11 = .ok (.iload_n 1, 1) := by decide +kernel
theorem dX8_isRelief_12 : decode cX8_isRelief 12 = .ok (.baload, 1) := by decide +kernel
theorem dX8_isRelief_13 : decode cX8_isRelief 13 = .ok (.ifCond .eq 7, 3) := by decide +kernel
theorem dX8_isRelief_16 : decode cX8_isRelief 16 = .ok (.iconst 1, 1) := by decide +kernel
theorem dX8_isRelief_17 : decode cX8_isRelief 17 = .ok (.goto 4, 3) := by decide +kernel
theorem dX8_isRelief_20 : decode cX8_isRelief 20 = .ok (.iconst 0, 1) := by decide +kernel
theorem dX8_isRelief_21 : decode cX8_isRelief 21 = .ok (.ireturn, 1) := by decide +kernel
set_option maxRecDepth 20000 in
theorem g_X8_isRelief_0 {G : GX} {d : Nat} {Ret : Option AV → St → Prop} {R : Nat → List AV → List AV → St → Prop} (hM : AM G wdX (d + 1) mX8_isRelief Ret R) (v1 : Int) (σ : St)
    (h : conI G wdX d mX9_isPlace [vI v1] σ (fun x1 σ1 => ((x1 = 0 → Ret (some (vI 0)) σ1) ∧ (¬ x1 = 0 → ((0 ≤ v1 ∧ v1 < 12) ∧ (((σ1.1 40 (v1).toNat) = 0 → Ret (some (vI 0)) σ1) ∧ (¬ (σ1.1 40 (v1).toNat) = 0 → Ret (some (vI 1)) σ1))))))) : R 0 [vR 8, vI v1] [] σ := by
  refine r_iload_n hM (pc' := 1) dX8_isRelief_0 rfl (x := v1) rfl ?_
  refine r_callNI hM (pc' := 4) [vI v1] dX8_isRelief_1 rfl ml_X8_28 rfl rfl (Nat.le_of_ble_eq_true rfl) (conI.mono h (fun x1 σ1 h => ?_))
  refine r_if_eq hM (pc' := 7) (tgt := 20) dX8_isRelief_4 rfl (by decide) (fun c => ?_) (fun c => ?_)
  · have h := h.1 c
    refine r_iconst hM (pc' := 21) dX8_isRelief_20 rfl (by decide) ?_
    exact r_zreturn hM dX8_isRelief_21 rfl (by decide) h
  · have h := h.2 c
    refine r_aload_n hM (pc' := 8) dX8_isRelief_7 rfl (x := 8) rfl ?_
    refine r_getR hM (pc' := 11) dX8_isRelief_8 rfl fl_X8_18 wx_8 rfl ?_
    refine r_iload_n hM (pc' := 12) dX8_isRelief_11 rfl (x := v1) rfl ?_
    have o1 := h.1
    have h := h.2
    refine r_zaload hM (pc' := 13) dX8_isRelief_12 rfl wx_40 o1 ?_
    refine r_if_eq hM (pc' := 16) (tgt := 20) dX8_isRelief_13 rfl (by decide) (fun c => ?_) (fun c => ?_)
    · have h := h.1 c
      refine r_iconst hM (pc' := 21) dX8_isRelief_20 rfl (by decide) ?_
      exact r_zreturn hM dX8_isRelief_21 rfl (by decide) h
    · have h := h.2 c
      refine r_iconst hM (pc' := 17) dX8_isRelief_16 rfl (by decide) ?_
      refine r_goto hM (tgt := 21) dX8_isRelief_17 (by decide) ?_
      exact r_zreturn hM dX8_isRelief_21 rfl (by decide) h
theorem dX9_way_0 : decode cX9_way 0 = .ok (.aload_n 0, 1) := by decide +kernel
theorem dX9_way_1 : decode cX9_way 1 = .ok (.aload_n 0, 1) := by decide +kernel
theorem dX9_way_2 : decode cX9_way 2 = .ok (.getfield 10, 3) := by decide +kernel
theorem dX9_way_5 : decode cX9_way 5 = .ok (.iload_n 1, 1) := by decide +kernel
theorem dX9_way_6 : decode cX9_way 6 = .ok (.iload_n 2, 1) := by decide +kernel
theorem dX9_way_7 : decode cX9_way 7 = .ok (.iload_n 3, 1) := by decide +kernel
theorem dX9_way_8 : decode cX9_way 8 = .ok (.iload 4, 2) := by decide +kernel
theorem dX9_way_10 : decode cX9_way 10 = .ok (.invokevirtual 72, 3) := by decide +kernel
theorem dX9_way_13 : decode cX9_way 13 = .ok (.invokevirtual 76, 3) := by decide +kernel
theorem dX9_way_16 : decode cX9_way 16 = .ok (.ireturn, 1) := by decide +kernel
set_option maxRecDepth 20000 in
theorem g_X9_way_0 {G : GX} {d : Nat} {Ret : Option AV → St → Prop} {R : Nat → List AV → List AV → St → Prop} (hM : AM G wdX (d + 1) mX9_way Ret R) (v1 : Int) (v2 : Int) (v3 : Int) (v4 : Int) (σ : St)
    (h : conI G wdX d mX8_put [vR 8, vI v1, vI v2, vI v3, vI v4] σ (fun x1 σ1 => conI G wdX d mX9_noted [vR 9, vI x1] σ1 (fun x2 σ2 => ((x2 = 0 ∨ x2 = 1) ∧ Ret (some (vI x2)) σ2)))) : R 0 [vR 9, vI v1, vI v2, vI v3, vI v4] [] σ := by
  refine r_aload_n hM (pc' := 1) dX9_way_0 rfl (x := 9) rfl ?_
  refine r_aload_n hM (pc' := 2) dX9_way_1 rfl (x := 9) rfl ?_
  refine r_getR hM (pc' := 5) dX9_way_2 rfl fl_X9_10 wx_9 rfl ?_
  refine r_iload_n hM (pc' := 6) dX9_way_5 rfl (x := v1) rfl ?_
  refine r_iload_n hM (pc' := 7) dX9_way_6 rfl (x := v2) rfl ?_
  refine r_iload_n hM (pc' := 8) dX9_way_7 rfl (x := v3) rfl ?_
  refine r_iload hM (pc' := 10) dX9_way_8 rfl (x := v4) rfl ?_
  refine r_callVI hM (pc' := 13) [vI v1, vI v2, vI v3, vI v4] dX9_way_10 rfl ml_X9_72 wx_8 rfl rfl (Nat.le_of_ble_eq_true rfl) (conI.mono h (fun x1 σ1 h => ?_))
  refine r_callVI hM (pc' := 16) [vI x1] dX9_way_13 rfl ml_X9_76 wx_9 rfl rfl (Nat.le_of_ble_eq_true rfl) (conI.mono h (fun x2 σ2 h => ?_))
  have o1 := h.1
  have h := h.2
  exact r_zreturn hM dX9_way_16 rfl o1 h
theorem dX9_relief_0 : decode cX9_relief 0 = .ok (.aload_n 0, 1) := by decide +kernel
theorem dX9_relief_1 : decode cX9_relief 1 = .ok (.aload_n 0, 1) := by decide +kernel
theorem dX9_relief_2 : decode cX9_relief 2 = .ok (.getfield 10, 3) := by decide +kernel
theorem dX9_relief_5 : decode cX9_relief 5 = .ok (.iload_n 1, 1) := by decide +kernel
theorem dX9_relief_6 : decode cX9_relief 6 = .ok (.iload_n 2, 1) := by decide +kernel
theorem dX9_relief_7 : decode cX9_relief 7 = .ok (.invokevirtual 80, 3) := by decide +kernel
theorem dX9_relief_10 : decode cX9_relief 10 = .ok (.invokevirtual 76, 3) := by decide +kernel
theorem dX9_relief_13 : decode cX9_relief 13 = .ok (.ireturn, 1) := by decide +kernel
set_option maxRecDepth 20000 in
theorem g_X9_relief_0 {G : GX} {d : Nat} {Ret : Option AV → St → Prop} {R : Nat → List AV → List AV → St → Prop} (hM : AM G wdX (d + 1) mX9_relief Ret R) (v1 : Int) (v2 : Int) (σ : St)
    (h : conI G wdX d mX8_putRelief [vR 8, vI v1, vI v2] σ (fun x1 σ1 => conI G wdX d mX9_noted [vR 9, vI x1] σ1 (fun x2 σ2 => ((x2 = 0 ∨ x2 = 1) ∧ Ret (some (vI x2)) σ2)))) : R 0 [vR 9, vI v1, vI v2] [] σ := by
  refine r_aload_n hM (pc' := 1) dX9_relief_0 rfl (x := 9) rfl ?_
  refine r_aload_n hM (pc' := 2) dX9_relief_1 rfl (x := 9) rfl ?_
  refine r_getR hM (pc' := 5) dX9_relief_2 rfl fl_X9_10 wx_9 rfl ?_
  refine r_iload_n hM (pc' := 6) dX9_relief_5 rfl (x := v1) rfl ?_
  refine r_iload_n hM (pc' := 7) dX9_relief_6 rfl (x := v2) rfl ?_
  refine r_callVI hM (pc' := 10) [vI v1, vI v2] dX9_relief_7 rfl ml_X9_80 wx_8 rfl rfl (Nat.le_of_ble_eq_true rfl) (conI.mono h (fun x1 σ1 h => ?_))
  refine r_callVI hM (pc' := 13) [vI x1] dX9_relief_10 rfl ml_X9_76 wx_9 rfl rfl (Nat.le_of_ble_eq_true rfl) (conI.mono h (fun x2 σ2 h => ?_))
  have o1 := h.1
  have h := h.2
  exact r_zreturn hM dX9_relief_13 rfl o1 h
theorem dX9_trip_0 : decode cX9_trip 0 = .ok (.aload_n 0, 1) := by decide +kernel
theorem dX9_trip_1 : decode cX9_trip 1 = .ok (.aload_n 0, 1) := by decide +kernel
theorem dX9_trip_2 : decode cX9_trip 2 = .ok (.getfield 19, 3) := by decide +kernel
theorem dX9_trip_5 : decode cX9_trip 5 = .ok (.iload_n 1, 1) := by decide +kernel
theorem dX9_trip_6 : decode cX9_trip 6 = .ok (.iload_n 2, 1) := by decide +kernel
theorem dX9_trip_7 : decode cX9_trip 7 = .ok (.iload_n 3, 1) := by decide +kernel
theorem dX9_trip_8 : decode cX9_trip 8 = .ok (.iload 4, 2) := by decide +kernel
theorem dX9_trip_10 : decode cX9_trip 10 = .ok (.invokevirtual 84, 3) := by decide +kernel
theorem dX9_trip_13 : decode cX9_trip 13 = .ok (.invokevirtual 76, 3) := by decide +kernel
theorem dX9_trip_16 : decode cX9_trip 16 = .ok (.ifCond .eq 15, 3) := by decide +kernel
theorem dX9_trip_19 : decode cX9_trip 19 = .ok (.aload_n 0, 1) := by decide +kernel
theorem dX9_trip_20 : decode cX9_trip 20 = .ok (.getfield 19, 3) := by decide +kernel
theorem dX9_trip_23 : decode cX9_trip 23 = .ok (.getfield 87, 3) := by decide +kernel
theorem dX9_trip_26 : decode cX9_trip 26 = .ok (.iconst 1, 1) := by decide +kernel
theorem dX9_trip_27 : decode cX9_trip 27 = .ok (.isub, 1) := by decide +kernel
theorem dX9_trip_28 : decode cX9_trip 28 = .ok (.goto 4, 3) := by decide +kernel
theorem dX9_trip_31 : decode cX9_trip 31 = .ok (.iconst (-1), 1) := by decide +kernel
theorem dX9_trip_32 : decode cX9_trip 32 = .ok (.ireturn, 1) := by decide +kernel
set_option maxRecDepth 20000 in
theorem g_X9_trip_0 {G : GX} {d : Nat} {Ret : Option AV → St → Prop} {R : Nat → List AV → List AV → St → Prop} (hM : AM G wdX (d + 1) mX9_trip Ret R) (v1 : Int) (v2 : Int) (v3 : Int) (v4 : Int) (σ : St)
    (h : conI G wdX d mX7_add [vR 7, vI v1, vI v2, vI v3, vI v4] σ (fun x1 σ1 => conI G wdX d mX9_noted [vR 9, vI x1] σ1 (fun x2 σ2 => ((x2 = 0 → Ret (some (vI (-1))) σ2) ∧ (¬ x2 = 0 → (r32 ((σ2.1 7 4) - 1) ∧ Ret (some (vI ((σ2.1 7 4) - 1))) σ2)))))) : R 0 [vR 9, vI v1, vI v2, vI v3, vI v4] [] σ := by
  refine r_aload_n hM (pc' := 1) dX9_trip_0 rfl (x := 9) rfl ?_
  refine r_aload_n hM (pc' := 2) dX9_trip_1 rfl (x := 9) rfl ?_
  refine r_getR hM (pc' := 5) dX9_trip_2 rfl fl_X9_19 wx_9 rfl ?_
  refine r_iload_n hM (pc' := 6) dX9_trip_5 rfl (x := v1) rfl ?_
  refine r_iload_n hM (pc' := 7) dX9_trip_6 rfl (x := v2) rfl ?_
  refine r_iload_n hM (pc' := 8) dX9_trip_7 rfl (x := v3) rfl ?_
  refine r_iload hM (pc' := 10) dX9_trip_8 rfl (x := v4) rfl ?_
  refine r_callVI hM (pc' := 13) [vI v1, vI v2, vI v3, vI v4] dX9_trip_10 rfl ml_X9_84 wx_7 rfl rfl (Nat.le_of_ble_eq_true rfl) (conI.mono h (fun x1 σ1 h => ?_))
  refine r_callVI hM (pc' := 16) [vI x1] dX9_trip_13 rfl ml_X9_76 wx_9 rfl rfl (Nat.le_of_ble_eq_true rfl) (conI.mono h (fun x2 σ2 h => ?_))
  refine r_if_eq hM (pc' := 19) (tgt := 31) dX9_trip_16 rfl (by decide) (fun c => ?_) (fun c => ?_)
  · have h := h.1 c
    refine r_iconst hM (pc' := 32) dX9_trip_31 rfl (by decide) ?_
    exact r_ireturn hM dX9_trip_32 rfl h
  · have h := h.2 c
    refine r_aload_n hM (pc' := 20) dX9_trip_19 rfl (x := 9) rfl ?_
    refine r_getR hM (pc' := 23) dX9_trip_20 rfl fl_X9_19 wx_9 rfl ?_
    refine r_getI hM (pc' := 26) dX9_trip_23 rfl fl_X9_87 wx_7 rfl ?_
    refine r_iconst hM (pc' := 27) dX9_trip_26 rfl (by decide) ?_
    have o1 := h.1
    have h := h.2
    refine r_isub hM (pc' := 28) dX9_trip_27 rfl o1 ?_
    refine r_goto hM (tgt := 32) dX9_trip_28 (by decide) ?_
    exact r_ireturn hM dX9_trip_32 rfl h
theorem dX9_drop_0 : decode cX9_drop 0 = .ok (.aload_n 0, 1) := by decide +kernel
theorem dX9_drop_1 : decode cX9_drop 1 = .ok (.aload_n 0, 1) := by decide +kernel
theorem dX9_drop_2 : decode cX9_drop 2 = .ok (.getfield 19, 3) := by decide +kernel
theorem dX9_drop_5 : decode cX9_drop 5 = .ok (.iload_n 1, 1) := by decide +kernel
theorem dX9_drop_6 : decode cX9_drop 6 = .ok (.invokevirtual 91, 3) := by decide +kernel
theorem dX9_drop_9 : decode cX9_drop 9 = .ok (.invokevirtual 76, 3) := by decide +kernel
theorem dX9_drop_12 : decode cX9_drop 12 = .ok (.ireturn, 1) := by decide +kernel
set_option maxRecDepth 20000 in
theorem g_X9_drop_0 {G : GX} {d : Nat} {Ret : Option AV → St → Prop} {R : Nat → List AV → List AV → St → Prop} (hM : AM G wdX (d + 1) mX9_drop Ret R) (v1 : Int) (σ : St)
    (h : conI G wdX d mX7_takeAway [vR 7, vI v1] σ (fun x1 σ1 => conI G wdX d mX9_noted [vR 9, vI x1] σ1 (fun x2 σ2 => ((x2 = 0 ∨ x2 = 1) ∧ Ret (some (vI x2)) σ2)))) : R 0 [vR 9, vI v1] [] σ := by
  refine r_aload_n hM (pc' := 1) dX9_drop_0 rfl (x := 9) rfl ?_
  refine r_aload_n hM (pc' := 2) dX9_drop_1 rfl (x := 9) rfl ?_
  refine r_getR hM (pc' := 5) dX9_drop_2 rfl fl_X9_19 wx_9 rfl ?_
  refine r_iload_n hM (pc' := 6) dX9_drop_5 rfl (x := v1) rfl ?_
  refine r_callVI hM (pc' := 9) [vI v1] dX9_drop_6 rfl ml_X9_91 wx_7 rfl rfl (Nat.le_of_ble_eq_true rfl) (conI.mono h (fun x1 σ1 h => ?_))
  refine r_callVI hM (pc' := 12) [vI x1] dX9_drop_9 rfl ml_X9_76 wx_9 rfl rfl (Nat.le_of_ble_eq_true rfl) (conI.mono h (fun x2 σ2 h => ?_))
  have o1 := h.1
  have h := h.2
  exact r_zreturn hM dX9_drop_12 rfl o1 h
theorem dX9_move_0 : decode cX9_move 0 = .ok (.aload_n 0, 1) := by decide +kernel
theorem dX9_move_1 : decode cX9_move 1 = .ok (.aload_n 0, 1) := by decide +kernel
theorem dX9_move_2 : decode cX9_move 2 = .ok (.getfield 19, 3) := by decide +kernel
theorem dX9_move_5 : decode cX9_move 5 = .ok (.iload_n 1, 1) := by decide +kernel
theorem dX9_move_6 : decode cX9_move 6 = .ok (.iload_n 2, 1) := by decide +kernel
theorem dX9_move_7 : decode cX9_move 7 = .ok (.invokevirtual 95, 3) := by decide +kernel
theorem dX9_move_10 : decode cX9_move 10 = .ok (.invokevirtual 76, 3) := by decide +kernel
theorem dX9_move_13 : decode cX9_move 13 = .ok (.ireturn, 1) := by decide +kernel
set_option maxRecDepth 20000 in
theorem g_X9_move_0 {G : GX} {d : Nat} {Ret : Option AV → St → Prop} {R : Nat → List AV → List AV → St → Prop} (hM : AM G wdX (d + 1) mX9_move Ret R) (v1 : Int) (v2 : Int) (σ : St)
    (h : conI G wdX d mX7_shift [vR 7, vI v1, vI v2] σ (fun x1 σ1 => conI G wdX d mX9_noted [vR 9, vI x1] σ1 (fun x2 σ2 => ((x2 = 0 ∨ x2 = 1) ∧ Ret (some (vI x2)) σ2)))) : R 0 [vR 9, vI v1, vI v2] [] σ := by
  refine r_aload_n hM (pc' := 1) dX9_move_0 rfl (x := 9) rfl ?_
  refine r_aload_n hM (pc' := 2) dX9_move_1 rfl (x := 9) rfl ?_
  refine r_getR hM (pc' := 5) dX9_move_2 rfl fl_X9_19 wx_9 rfl ?_
  refine r_iload_n hM (pc' := 6) dX9_move_5 rfl (x := v1) rfl ?_
  refine r_iload_n hM (pc' := 7) dX9_move_6 rfl (x := v2) rfl ?_
  refine r_callVI hM (pc' := 10) [vI v1, vI v2] dX9_move_7 rfl ml_X9_95 wx_7 rfl rfl (Nat.le_of_ble_eq_true rfl) (conI.mono h (fun x1 σ1 h => ?_))
  refine r_callVI hM (pc' := 13) [vI x1] dX9_move_10 rfl ml_X9_76 wx_9 rfl rfl (Nat.le_of_ble_eq_true rfl) (conI.mono h (fun x2 σ2 h => ?_))
  have o1 := h.1
  have h := h.2
  exact r_zreturn hM dX9_move_13 rfl o1 h
theorem dX9_laws_0 : decode cX9_laws 0 = .ok (.aload_n 0, 1) := by decide +kernel
theorem dX9_laws_1 : decode cX9_laws 1 = .ok (.getfield 55, 3) := by decide +kernel
theorem dX9_laws_4 : decode cX9_laws 4 = .ok (.iload_n 1, 1) := by decide +kernel
theorem dX9_laws_5 : decode cX9_laws 5 = .ok (.iload_n 2, 1) := by decide +kernel
theorem dX9_laws_6 : decode cX9_laws 6 = .ok (.iload_n 3, 1) := by decide +kernel
theorem dX9_laws_7 : decode cX9_laws 7 = .ok (.iload 4, 2) := by decide +kernel
theorem dX9_laws_9 : decode cX9_laws 9 = .ok (.invokevirtual 99, 3) := by decide +kernel
theorem dX9_laws_12 : decode cX9_laws 12 = .ok (.istore 5, 2) := by decide +kernel
theorem dX9_laws_14 : decode cX9_laws 14 = .ok (.iload 5, 2) := by decide +kernel
theorem dX9_laws_16 : decode cX9_laws 16 = .ok (.ifCond .eq 10, 3) := by decide +kernel
theorem dX9_laws_19 : decode cX9_laws 19 = .ok (.aload_n 0, 1) := by decide +kernel
theorem dX9_laws_20 : decode cX9_laws 20 = .ok (.getfield 64, 3) := by decide +kernel
theorem dX9_laws_23 : decode cX9_laws 23 = .ok (.invokevirtual 102, 3) := by decide +kernel
theorem dX9_laws_26 : decode cX9_laws 26 = .ok (.iload 5, 2) := by decide +kernel
theorem dX9_laws_28 : decode cX9_laws 28 = .ok (.ireturn, 1) := by decide +kernel
set_option maxRecDepth 20000 in
theorem g_X9_laws_0 {G : GX} {d : Nat} {Ret : Option AV → St → Prop} {R : Nat → List AV → List AV → St → Prop} (hM : AM G wdX (d + 1) mX9_laws Ret R) (v1 : Int) (v2 : Int) (v3 : Int) (v4 : Int) (σ : St)
    (h : conI G wdX d mX0_put [vR 0, vI v1, vI v2, vI v3, vI v4] σ (fun x1 σ1 => ((x1 = 0 → ((x1 = 0 ∨ x1 = 1) ∧ Ret (some (vI x1)) σ1)) ∧ (¬ x1 = 0 → conV G wdX d mX5_forget [vR 5] σ1 (fun σ2 => ((x1 = 0 ∨ x1 = 1) ∧ Ret (some (vI x1)) σ2)))))) : R 0 [vR 9, vI v1, vI v2, vI v3, vI v4, vN] [] σ := by
  refine r_aload_n hM (pc' := 1) dX9_laws_0 rfl (x := 9) rfl ?_
  refine r_getR hM (pc' := 4) dX9_laws_1 rfl fl_X9_55 wx_9 rfl ?_
  refine r_iload_n hM (pc' := 5) dX9_laws_4 rfl (x := v1) rfl ?_
  refine r_iload_n hM (pc' := 6) dX9_laws_5 rfl (x := v2) rfl ?_
  refine r_iload_n hM (pc' := 7) dX9_laws_6 rfl (x := v3) rfl ?_
  refine r_iload hM (pc' := 9) dX9_laws_7 rfl (x := v4) rfl ?_
  refine r_callVI hM (pc' := 12) [vI v1, vI v2, vI v3, vI v4] dX9_laws_9 rfl ml_X9_99 wx_0 rfl rfl (Nat.le_of_ble_eq_true rfl) (conI.mono h (fun x1 σ1 h => ?_))
  refine r_istore hM (pc' := 14) dX9_laws_12 rfl (Nat.le_of_ble_eq_true rfl) rfl ?_
  show R 14 [vR 9, vI v1, vI v2, vI v3, vI v4, vI x1] _ _
  refine r_iload hM (pc' := 16) dX9_laws_14 rfl (x := x1) rfl ?_
  refine r_if_eq hM (pc' := 19) (tgt := 26) dX9_laws_16 rfl (by decide) (fun c => ?_) (fun c => ?_)
  · have h := h.1 c
    refine r_iload hM (pc' := 28) dX9_laws_26 rfl (x := x1) rfl ?_
    have o1 := h.1
    have h := h.2
    exact r_zreturn hM dX9_laws_28 rfl o1 h
  · have h := h.2 c
    refine r_aload_n hM (pc' := 20) dX9_laws_19 rfl (x := 9) rfl ?_
    refine r_getR hM (pc' := 23) dX9_laws_20 rfl fl_X9_64 wx_9 rfl ?_
    refine r_callVV hM (pc' := 26) [] dX9_laws_23 rfl ml_X9_102 wx_5 rfl rfl (Nat.le_of_ble_eq_true rfl) (conV.mono h (fun σ2 h => ?_))
    refine r_iload hM (pc' := 28) dX9_laws_26 rfl (x := x1) rfl ?_
    have o2 := h.1
    have h := h.2
    exact r_zreturn hM dX9_laws_28 rfl o2 h
theorem dX9_tripOf_0 : decode cX9_tripOf 0 = .ok (.aload_n 0, 1) := by decide +kernel
theorem dX9_tripOf_1 : decode cX9_tripOf 1 = .ok (.getfield 19, 3) := by decide +kernel
theorem dX9_tripOf_4 : decode cX9_tripOf 4 = .ok (.iload_n 1, 1) := by decide +kernel
theorem dX9_tripOf_5 : decode cX9_tripOf 5 = .ok (.invokevirtual 105, 3) := by decide +kernel
theorem dX9_tripOf_8 : decode cX9_tripOf 8 = .ok (.ifCond .ne 5, 3) := by decide +kernel
theorem dX9_tripOf_11 : decode cX9_tripOf 11 = .ok (.iconst (-1), 1) := by decide +kernel
theorem dX9_tripOf_12 : decode cX9_tripOf 12 = .ok (.ireturn, 1) := by decide +kernel
theorem dX9_tripOf_13 : decode cX9_tripOf 13 = .ok (.iload_n 2, 1) := by decide +kernel
theorem dX9_tripOf_14 : decode cX9_tripOf 14 = .ok (.tableswitch 70 0 3 #[30, 40, 50, 60], 30) := by decide +kernel
theorem dX9_tripOf_44 : decode cX9_tripOf 44 = .ok (.aload_n 0, 1) := by decide +kernel
theorem dX9_tripOf_45 : decode cX9_tripOf 45 = .ok (.getfield 19, 3) := by decide +kernel
theorem dX9_tripOf_48 : decode cX9_tripOf 48 = .ok (.getfield 108, 3) := by decide +kernel
theorem dX9_tripOf_51 : decode cX9_tripOf 51 = .ok (.iload_n 1, 1) := by decide +kernel
theorem dX9_tripOf_52 : decode cX9_tripOf 52 = .ok (.iaload, 1) := by decide +kernel
theorem dX9_tripOf_53 : decode cX9_tripOf 53 = .ok (.ireturn, 1) := by decide +kernel
theorem dX9_tripOf_54 : decode cX9_tripOf 54 = .ok (.aload_n 0, 1) := by decide +kernel
theorem dX9_tripOf_55 : decode cX9_tripOf 55 = .ok (.getfield 19, 3) := by decide +kernel
theorem dX9_tripOf_58 : decode cX9_tripOf 58 = .ok (.getfield 112, 3) := by decide +kernel
theorem dX9_tripOf_61 : decode cX9_tripOf 61 = .ok (.iload_n 1, 1) := by decide +kernel
theorem dX9_tripOf_62 : decode cX9_tripOf 62 = .ok (.iaload, 1) := by decide +kernel
theorem dX9_tripOf_63 : decode cX9_tripOf 63 = .ok (.ireturn, 1) := by decide +kernel
theorem dX9_tripOf_64 : decode cX9_tripOf 64 = .ok (.aload_n 0, 1) := by decide +kernel
theorem dX9_tripOf_65 : decode cX9_tripOf 65 = .ok (.getfield 19, 3) := by decide +kernel
theorem dX9_tripOf_68 : decode cX9_tripOf 68 = .ok (.getfield 115, 3) := by decide +kernel
theorem dX9_tripOf_71 : decode cX9_tripOf 71 = .ok (.iload_n 1, 1) := by decide +kernel
theorem dX9_tripOf_72 : decode cX9_tripOf 72 = .ok (.iaload, 1) := by decide +kernel
theorem dX9_tripOf_73 : decode cX9_tripOf 73 = .ok (.ireturn, 1) := by decide +kernel
theorem dX9_tripOf_74 : decode cX9_tripOf 74 = .ok (.aload_n 0, 1) := by decide +kernel
theorem dX9_tripOf_75 : decode cX9_tripOf 75 = .ok (.getfield 19, 3) := by decide +kernel
theorem dX9_tripOf_78 : decode cX9_tripOf 78 = .ok (.getfield 118, 3) := by decide +kernel
theorem dX9_tripOf_81 : decode cX9_tripOf 81 = .ok (.iload_n 1, 1) := by decide +kernel
theorem dX9_tripOf_82 : decode cX9_tripOf 82 = .ok (.iaload, 1) := by decide +kernel
theorem dX9_tripOf_83 : decode cX9_tripOf 83 = .ok (.ireturn, 1) := by decide +kernel
theorem dX9_tripOf_84 : decode cX9_tripOf 84 = .ok (.iconst (-1), 1) := by decide +kernel
theorem dX9_tripOf_85 : decode cX9_tripOf 85 = .ok (.ireturn, 1) := by decide +kernel
set_option maxRecDepth 20000 in
theorem g_X9_tripOf_0 {G : GX} {d : Nat} {Ret : Option AV → St → Prop} {R : Nat → List AV → List AV → St → Prop} (hM : AM G wdX (d + 1) mX9_tripOf Ret R) (v1 : Int) (v2 : Int) (σ : St)
    (h : conI G wdX d mX7_holds [vR 7, vI v1] σ (fun x1 σ1 => ((¬ x1 = 0 → ((v2 = 0 → ((0 ≤ v1 ∧ v1 < 16) ∧ Ret (some (vI (σ1.1 34 (v1).toNat))) σ1)) ∧ (v2 = 1 → ((0 ≤ v1 ∧ v1 < 16) ∧ Ret (some (vI (σ1.1 35 (v1).toNat))) σ1)) ∧ (v2 = 2 → ((0 ≤ v1 ∧ v1 < 16) ∧ Ret (some (vI (σ1.1 36 (v1).toNat))) σ1)) ∧ (v2 = 3 → ((0 ≤ v1 ∧ v1 < 16) ∧ Ret (some (vI (σ1.1 37 (v1).toNat))) σ1)) ∧ (¬ (0 ≤ v2 ∧ v2 ≤ 3) → Ret (some (vI (-1))) σ1))) ∧ (x1 = 0 → Ret (some (vI (-1))) σ1)))) : R 0 [vR 9, vI v1, vI v2] [] σ := by
  refine r_aload_n hM (pc' := 1) dX9_tripOf_0 rfl (x := 9) rfl ?_
  refine r_getR hM (pc' := 4) dX9_tripOf_1 rfl fl_X9_19 wx_9 rfl ?_
  refine r_iload_n hM (pc' := 5) dX9_tripOf_4 rfl (x := v1) rfl ?_
  refine r_callVI hM (pc' := 8) [vI v1] dX9_tripOf_5 rfl ml_X9_105 wx_7 rfl rfl (Nat.le_of_ble_eq_true rfl) (conI.mono h (fun x1 σ1 h => ?_))
  refine r_if_ne hM (pc' := 11) (tgt := 13) dX9_tripOf_8 rfl (by decide) (fun c => ?_) (fun c => ?_)
  · have h := h.1 c
    refine r_iload_n hM (pc' := 14) dX9_tripOf_13 rfl (x := v2) rfl ?_
    refine r_table hM (tgt := 84) [44, 54, 64, 74] dX9_tripOf_14 rfl (by decide) (by decide) ⟨fun c => ?_, fun c => ?_, fun c => ?_, fun c => ?_, trivial⟩ (fun c => ?_)
    · have h := h.1 (by omega)
      refine r_aload_n hM (pc' := 45) dX9_tripOf_44 rfl (x := 9) rfl ?_
      refine r_getR hM (pc' := 48) dX9_tripOf_45 rfl fl_X9_19 wx_9 rfl ?_
      refine r_getR hM (pc' := 51) dX9_tripOf_48 rfl fl_X9_108 wx_7 rfl ?_
      refine r_iload_n hM (pc' := 52) dX9_tripOf_51 rfl (x := v1) rfl ?_
      have o1 := h.1
      have h := h.2
      refine r_iaload hM (pc' := 53) dX9_tripOf_52 rfl wx_34 o1 ?_
      exact r_ireturn hM dX9_tripOf_53 rfl h
    · have h := h.2.1 (by omega)
      refine r_aload_n hM (pc' := 55) dX9_tripOf_54 rfl (x := 9) rfl ?_
      refine r_getR hM (pc' := 58) dX9_tripOf_55 rfl fl_X9_19 wx_9 rfl ?_
      refine r_getR hM (pc' := 61) dX9_tripOf_58 rfl fl_X9_112 wx_7 rfl ?_
      refine r_iload_n hM (pc' := 62) dX9_tripOf_61 rfl (x := v1) rfl ?_
      have o2 := h.1
      have h := h.2
      refine r_iaload hM (pc' := 63) dX9_tripOf_62 rfl wx_35 o2 ?_
      exact r_ireturn hM dX9_tripOf_63 rfl h
    · have h := h.2.2.1 (by omega)
      refine r_aload_n hM (pc' := 65) dX9_tripOf_64 rfl (x := 9) rfl ?_
      refine r_getR hM (pc' := 68) dX9_tripOf_65 rfl fl_X9_19 wx_9 rfl ?_
      refine r_getR hM (pc' := 71) dX9_tripOf_68 rfl fl_X9_115 wx_7 rfl ?_
      refine r_iload_n hM (pc' := 72) dX9_tripOf_71 rfl (x := v1) rfl ?_
      have o3 := h.1
      have h := h.2
      refine r_iaload hM (pc' := 73) dX9_tripOf_72 rfl wx_36 o3 ?_
      exact r_ireturn hM dX9_tripOf_73 rfl h
    · have h := h.2.2.2.1 (by omega)
      refine r_aload_n hM (pc' := 75) dX9_tripOf_74 rfl (x := 9) rfl ?_
      refine r_getR hM (pc' := 78) dX9_tripOf_75 rfl fl_X9_19 wx_9 rfl ?_
      refine r_getR hM (pc' := 81) dX9_tripOf_78 rfl fl_X9_118 wx_7 rfl ?_
      refine r_iload_n hM (pc' := 82) dX9_tripOf_81 rfl (x := v1) rfl ?_
      have o4 := h.1
      have h := h.2
      refine r_iaload hM (pc' := 83) dX9_tripOf_82 rfl wx_37 o4 ?_
      exact r_ireturn hM dX9_tripOf_83 rfl h
    · have h := h.2.2.2.2 c
      refine r_iconst hM (pc' := 85) dX9_tripOf_84 rfl (by decide) ?_
      exact r_ireturn hM dX9_tripOf_85 rfl h
  · have h := h.2 c
    refine r_iconst hM (pc' := 12) dX9_tripOf_11 rfl (by decide) ?_
    exact r_ireturn hM dX9_tripOf_12 rfl h
theorem dX9_may_0 : decode cX9_may 0 = .ok (.aload_n 0, 1) := by decide +kernel
theorem dX9_may_1 : decode cX9_may 1 = .ok (.getfield 19, 3) := by decide +kernel
theorem dX9_may_4 : decode cX9_may 4 = .ok (.iload_n 1, 1) := by decide +kernel
theorem dX9_may_5 : decode cX9_may 5 = .ok (.invokevirtual 105, 3) := by decide +kernel
theorem dX9_may_8 : decode cX9_may 8 = .ok (.ifCond .eq 14, 3) := by decide +kernel
theorem dX9_may_11 : decode cX9_may 11 = .ok (.aload_n 0, 1) := by decide +kernel
theorem dX9_may_12 : decode cX9_may 12 = .ok (.getfield 19, 3) := by decide +kernel
theorem dX9_may_15 : decode cX9_may 15 = .ok (.iload_n 2, 1) := by decide +kernel
theorem dX9_may_16 : decode cX9_may 16 = .ok (.invokevirtual 105, 3) := by decide +kernel
theorem dX9_may_19 : decode cX9_may 19 = .ok (.ifCond .ne 5, 3) := by decide +kernel
theorem dX9_may_22 : decode cX9_may 22 = .ok (.iconst (-1), 1) := by decide +kernel
theorem dX9_may_23 : decode cX9_may 23 = .ok (.ireturn, 1) := by decide +kernel
theorem dX9_may_24 : decode cX9_may 24 = .ok (.aload_n 0, 1) := by decide +kernel
theorem dX9_may_25 : decode cX9_may 25 = .ok (.getfield 28, 3) := by decide +kernel
theorem dX9_may_28 : decode cX9_may 28 = .ok (.iload_n 1, 1) := by decide +kernel
theorem dX9_may_29 : decode cX9_may 29 = .ok (.iload_n 2, 1) := by decide +kernel
theorem dX9_may_30 : decode cX9_may 30 = .ok (.iconst 0, 1) := by decide +kernel
theorem dX9_may_31 : decode cX9_may 31 = .ok (.invokevirtual 121, 3) := by decide +kernel
theorem dX9_may_34 : decode cX9_may 34 = .ok (.ifCond .eq 7, 3) := by decide +kernel
theorem dX9_may_37 : decode cX9_may 37 = .ok (.iconst 1, 1) := by decide +kernel
theorem dX9_may_38 : decode cX9_may 38 = .ok (.goto 4, 3) := by decide +kernel
theorem dX9_may_41 : decode cX9_may 41 = .ok (.iconst 0, 1) := by decide +kernel
theorem dX9_may_42 : decode cX9_may 42 = .ok (.ireturn, 1) := by decide +kernel
set_option maxRecDepth 20000 in
theorem g_X9_may_0 {G : GX} {d : Nat} {Ret : Option AV → St → Prop} {R : Nat → List AV → List AV → St → Prop} (hM : AM G wdX (d + 1) mX9_may Ret R) (v1 : Int) (v2 : Int) (σ : St)
    (h : conI G wdX d mX7_holds [vR 7, vI v1] σ (fun x1 σ1 => ((x1 = 0 → Ret (some (vI (-1))) σ1) ∧ (¬ x1 = 0 → conI G wdX d mX7_holds [vR 7, vI v2] σ1 (fun x2 σ2 => ((¬ x2 = 0 → conI G wdX d mX2_follows [vR 2, vI v1, vI v2, vI 0] σ2 (fun x3 σ3 => ((x3 = 0 → Ret (some (vI 0)) σ3) ∧ (¬ x3 = 0 → Ret (some (vI 1)) σ3)))) ∧ (x2 = 0 → Ret (some (vI (-1))) σ2))))))) : R 0 [vR 9, vI v1, vI v2] [] σ := by
  refine r_aload_n hM (pc' := 1) dX9_may_0 rfl (x := 9) rfl ?_
  refine r_getR hM (pc' := 4) dX9_may_1 rfl fl_X9_19 wx_9 rfl ?_
  refine r_iload_n hM (pc' := 5) dX9_may_4 rfl (x := v1) rfl ?_
  refine r_callVI hM (pc' := 8) [vI v1] dX9_may_5 rfl ml_X9_105 wx_7 rfl rfl (Nat.le_of_ble_eq_true rfl) (conI.mono h (fun x1 σ1 h => ?_))
  refine r_if_eq hM (pc' := 11) (tgt := 22) dX9_may_8 rfl (by decide) (fun c => ?_) (fun c => ?_)
  · have h := h.1 c
    refine r_iconst hM (pc' := 23) dX9_may_22 rfl (by decide) ?_
    exact r_ireturn hM dX9_may_23 rfl h
  · have h := h.2 c
    refine r_aload_n hM (pc' := 12) dX9_may_11 rfl (x := 9) rfl ?_
    refine r_getR hM (pc' := 15) dX9_may_12 rfl fl_X9_19 wx_9 rfl ?_
    refine r_iload_n hM (pc' := 16) dX9_may_15 rfl (x := v2) rfl ?_
    refine r_callVI hM (pc' := 19) [vI v2] dX9_may_16 rfl ml_X9_105 wx_7 rfl rfl (Nat.le_of_ble_eq_true rfl) (conI.mono h (fun x2 σ2 h => ?_))
    refine r_if_ne hM (pc' := 22) (tgt := 24) dX9_may_19 rfl (by decide) (fun c => ?_) (fun c => ?_)
    · have h := h.1 c
      refine r_aload_n hM (pc' := 25) dX9_may_24 rfl (x := 9) rfl ?_
      refine r_getR hM (pc' := 28) dX9_may_25 rfl fl_X9_28 wx_9 rfl ?_
      refine r_iload_n hM (pc' := 29) dX9_may_28 rfl (x := v1) rfl ?_
      refine r_iload_n hM (pc' := 30) dX9_may_29 rfl (x := v2) rfl ?_
      refine r_iconst hM (pc' := 31) dX9_may_30 rfl (by decide) ?_
      refine r_callVI hM (pc' := 34) [vI v1, vI v2, vI 0] dX9_may_31 rfl ml_X9_121 wx_2 rfl rfl (Nat.le_of_ble_eq_true rfl) (conI.mono h (fun x3 σ3 h => ?_))
      refine r_if_eq hM (pc' := 37) (tgt := 41) dX9_may_34 rfl (by decide) (fun c => ?_) (fun c => ?_)
      · have h := h.1 c
        refine r_iconst hM (pc' := 42) dX9_may_41 rfl (by decide) ?_
        exact r_ireturn hM dX9_may_42 rfl h
      · have h := h.2 c
        refine r_iconst hM (pc' := 38) dX9_may_37 rfl (by decide) ?_
        refine r_goto hM (tgt := 42) dX9_may_38 (by decide) ?_
        exact r_ireturn hM dX9_may_42 rfl h
    · have h := h.2 c
      refine r_iconst hM (pc' := 23) dX9_may_22 rfl (by decide) ?_
      exact r_ireturn hM dX9_may_23 rfl h
theorem dX9_goesOn_0 : decode cX9_goesOn 0 = .ok (.aload_n 0, 1) := by decide +kernel
theorem dX9_goesOn_1 : decode cX9_goesOn 1 = .ok (.invokevirtual 125, 3) := by decide +kernel
theorem dX9_goesOn_4 : decode cX9_goesOn 4 = .ok (.aload_n 0, 1) := by decide +kernel
theorem dX9_goesOn_5 : decode cX9_goesOn 5 = .ok (.getfield 28, 3) := by decide +kernel
theorem dX9_goesOn_8 : decode cX9_goesOn 8 = .ok (.invokevirtual 128, 3) := by decide +kernel
theorem dX9_goesOn_11 : decode cX9_goesOn 11 = .ok (.ifCond .eq 7, 3) := by decide +kernel
theorem dX9_goesOn_14 : decode cX9_goesOn 14 = .ok (.iconst 1, 1) := by decide +kernel
theorem dX9_goesOn_15 : decode cX9_goesOn 15 = .ok (.goto 4, 3) := by decide +kernel
theorem dX9_goesOn_18 : decode cX9_goesOn 18 = .ok (.iconst 0, 1) := by decide +kernel
theorem dX9_goesOn_19 : decode cX9_goesOn 19 = .ok (.ireturn, 1) := by decide +kernel
set_option maxRecDepth 20000 in
theorem g_X9_goesOn_0 {G : GX} {d : Nat} {Ret : Option AV → St → Prop} {R : Nat → List AV → List AV → St → Prop} (hM : AM G wdX (d + 1) mX9_goesOn Ret R) (σ : St)
    (h : conV G wdX d mX9_bringUpToDate [vR 9] σ (fun σ1 => conI G wdX d mX2_goOn [vR 2] σ1 (fun x2 σ2 => ((x2 = 0 → Ret (some (vI 0)) σ2) ∧ (¬ x2 = 0 → Ret (some (vI 1)) σ2))))) : R 0 [vR 9] [] σ := by
  refine r_aload_n hM (pc' := 1) dX9_goesOn_0 rfl (x := 9) rfl ?_
  refine r_callVV hM (pc' := 4) [] dX9_goesOn_1 rfl ml_X9_125 wx_9 rfl rfl (Nat.le_of_ble_eq_true rfl) (conV.mono h (fun σ1 h => ?_))
  refine r_aload_n hM (pc' := 5) dX9_goesOn_4 rfl (x := 9) rfl ?_
  refine r_getR hM (pc' := 8) dX9_goesOn_5 rfl fl_X9_28 wx_9 rfl ?_
  refine r_callVI hM (pc' := 11) [] dX9_goesOn_8 rfl ml_X9_128 wx_2 rfl rfl (Nat.le_of_ble_eq_true rfl) (conI.mono h (fun x2 σ2 h => ?_))
  refine r_if_eq hM (pc' := 14) (tgt := 18) dX9_goesOn_11 rfl (by decide) (fun c => ?_) (fun c => ?_)
  · have h := h.1 c
    refine r_iconst hM (pc' := 19) dX9_goesOn_18 rfl (by decide) ?_
    exact r_ireturn hM dX9_goesOn_19 rfl h
  · have h := h.2 c
    refine r_iconst hM (pc' := 15) dX9_goesOn_14 rfl (by decide) ?_
    refine r_goto hM (tgt := 19) dX9_goesOn_15 (by decide) ?_
    exact r_ireturn hM dX9_goesOn_19 rfl h
theorem dX9_plan_0 : decode cX9_plan 0 = .ok (.aload_n 0, 1) := by decide +kernel
theorem dX9_plan_1 : decode cX9_plan 1 = .ok (.invokevirtual 125, 3) := by decide +kernel
theorem dX9_plan_4 : decode cX9_plan 4 = .ok (.iload_n 1, 1) := by decide +kernel
theorem dX9_plan_5 : decode cX9_plan 5 = .ok (.tableswitch 75 0 4 #[35, 43, 51, 59, 67], 35) := by decide +kernel
theorem dX9_plan_40 : decode cX9_plan 40 = .ok (.aload_n 0, 1) := by decide +kernel
theorem dX9_plan_41 : decode cX9_plan 41 = .ok (.getfield 37, 3) := by decide +kernel
theorem dX9_plan_44 : decode cX9_plan 44 = .ok (.getfield 132, 3) := by decide +kernel
theorem dX9_plan_47 : decode cX9_plan 47 = .ok (.ireturn, 1) := by decide +kernel
theorem dX9_plan_48 : decode cX9_plan 48 = .ok (.aload_n 0, 1) := by decide +kernel
theorem dX9_plan_49 : decode cX9_plan 49 = .ok (.getfield 37, 3) := by decide +kernel
theorem dX9_plan_52 : decode cX9_plan 52 = .ok (.getfield 133, 3) := by decide +kernel
theorem dX9_plan_55 : decode cX9_plan 55 = .ok (.ireturn, 1) := by decide +kernel
theorem dX9_plan_56 : decode cX9_plan 56 = .ok (.aload_n 0, 1) := by decide +kernel
theorem dX9_plan_57 : decode cX9_plan 57 = .ok (.getfield 46, 3) := by decide +kernel
theorem dX9_plan_60 : decode cX9_plan 60 = .ok (.getfield 136, 3) := by decide +kernel
theorem dX9_plan_63 : decode cX9_plan 63 = .ok (.ireturn, 1) := by decide +kernel
theorem dX9_plan_64 : decode cX9_plan 64 = .ok (.aload_n 0, 1) := by decide +kernel
theorem dX9_plan_65 : decode cX9_plan 65 = .ok (.getfield 37, 3) := by decide +kernel
theorem dX9_plan_68 : decode cX9_plan 68 = .ok (.invokevirtual 137, 3) := by decide +kernel
theorem dX9_plan_71 : decode cX9_plan 71 = .ok (.ireturn, 1) := by decide +kernel
theorem dX9_plan_72 : decode cX9_plan 72 = .ok (.aload_n 0, 1) := by decide +kernel
theorem dX9_plan_73 : decode cX9_plan 73 = .ok (.getfield 37, 3) := by decide +kernel
theorem dX9_plan_76 : decode cX9_plan 76 = .ok (.invokevirtual 141, 3) := by decide +kernel
theorem dX9_plan_79 : decode cX9_plan 79 = .ok (.ireturn, 1) := by decide +kernel
theorem dX9_plan_80 : decode cX9_plan 80 = .ok (.iconst (-1), 1) := by decide +kernel
theorem dX9_plan_81 : decode cX9_plan 81 = .ok (.ireturn, 1) := by decide +kernel
set_option maxRecDepth 20000 in
theorem g_X9_plan_0 {G : GX} {d : Nat} {Ret : Option AV → St → Prop} {R : Nat → List AV → List AV → St → Prop} (hM : AM G wdX (d + 1) mX9_plan Ret R) (v1 : Int) (σ : St)
    (h : conV G wdX d mX9_bringUpToDate [vR 9] σ (fun σ1 => ((v1 = 0 → Ret (some (vI (σ1.1 4 3))) σ1) ∧ (v1 = 1 → Ret (some (vI (σ1.1 4 4))) σ1) ∧ (v1 = 2 → Ret (some (vI (σ1.1 6 5))) σ1) ∧ (v1 = 3 → conI G wdX d mX4_greatestSlack [vR 4] σ1 (fun x2 σ2 => Ret (some (vI x2)) σ2)) ∧ (v1 = 4 → conI G wdX d mX4_leastSlack [vR 4] σ1 (fun x3 σ3 => Ret (some (vI x3)) σ3)) ∧ (¬ (0 ≤ v1 ∧ v1 ≤ 4) → Ret (some (vI (-1))) σ1)))) : R 0 [vR 9, vI v1] [] σ := by
  refine r_aload_n hM (pc' := 1) dX9_plan_0 rfl (x := 9) rfl ?_
  refine r_callVV hM (pc' := 4) [] dX9_plan_1 rfl ml_X9_125 wx_9 rfl rfl (Nat.le_of_ble_eq_true rfl) (conV.mono h (fun σ1 h => ?_))
  refine r_iload_n hM (pc' := 5) dX9_plan_4 rfl (x := v1) rfl ?_
  refine r_table hM (tgt := 80) [40, 48, 56, 64, 72] dX9_plan_5 rfl (by decide) (by decide) ⟨fun c => ?_, fun c => ?_, fun c => ?_, fun c => ?_, fun c => ?_, trivial⟩ (fun c => ?_)
  · have h := h.1 (by omega)
    refine r_aload_n hM (pc' := 41) dX9_plan_40 rfl (x := 9) rfl ?_
    refine r_getR hM (pc' := 44) dX9_plan_41 rfl fl_X9_37 wx_9 rfl ?_
    refine r_getI hM (pc' := 47) dX9_plan_44 rfl fl_X9_132 wx_4 rfl ?_
    exact r_ireturn hM dX9_plan_47 rfl h
  · have h := h.2.1 (by omega)
    refine r_aload_n hM (pc' := 49) dX9_plan_48 rfl (x := 9) rfl ?_
    refine r_getR hM (pc' := 52) dX9_plan_49 rfl fl_X9_37 wx_9 rfl ?_
    refine r_getI hM (pc' := 55) dX9_plan_52 rfl fl_X9_133 wx_4 rfl ?_
    exact r_ireturn hM dX9_plan_55 rfl h
  · have h := h.2.2.1 (by omega)
    refine r_aload_n hM (pc' := 57) dX9_plan_56 rfl (x := 9) rfl ?_
    refine r_getR hM (pc' := 60) dX9_plan_57 rfl fl_X9_46 wx_9 rfl ?_
    refine r_getI hM (pc' := 63) dX9_plan_60 rfl fl_X9_136 wx_6 rfl ?_
    exact r_ireturn hM dX9_plan_63 rfl h
  · have h := h.2.2.2.1 (by omega)
    refine r_aload_n hM (pc' := 65) dX9_plan_64 rfl (x := 9) rfl ?_
    refine r_getR hM (pc' := 68) dX9_plan_65 rfl fl_X9_37 wx_9 rfl ?_
    refine r_callVI hM (pc' := 71) [] dX9_plan_68 rfl ml_X9_137 wx_4 rfl rfl (Nat.le_of_ble_eq_true rfl) (conI.mono h (fun x2 σ2 h => ?_))
    exact r_ireturn hM dX9_plan_71 rfl h
  · have h := h.2.2.2.2.1 (by omega)
    refine r_aload_n hM (pc' := 73) dX9_plan_72 rfl (x := 9) rfl ?_
    refine r_getR hM (pc' := 76) dX9_plan_73 rfl fl_X9_37 wx_9 rfl ?_
    refine r_callVI hM (pc' := 79) [] dX9_plan_76 rfl ml_X9_141 wx_4 rfl rfl (Nat.le_of_ble_eq_true rfl) (conI.mono h (fun x3 σ3 h => ?_))
    exact r_ireturn hM dX9_plan_79 rfl h
  · have h := h.2.2.2.2.2 c
    refine r_iconst hM (pc' := 81) dX9_plan_80 rfl (by decide) ?_
    exact r_ireturn hM dX9_plan_81 rfl h
theorem dX9_block_0 : decode cX9_block 0 = .ok (.aload_n 0, 1) := by decide +kernel
theorem dX9_block_1 : decode cX9_block 1 = .ok (.invokevirtual 125, 3) := by decide +kernel
theorem dX9_block_4 : decode cX9_block 4 = .ok (.aload_n 0, 1) := by decide +kernel
theorem dX9_block_5 : decode cX9_block 5 = .ok (.getfield 37, 3) := by decide +kernel
theorem dX9_block_8 : decode cX9_block 8 = .ok (.iload_n 1, 1) := by decide +kernel
theorem dX9_block_9 : decode cX9_block 9 = .ok (.iload_n 2, 1) := by decide +kernel
theorem dX9_block_10 : decode cX9_block 10 = .ok (.invokevirtual 144, 3) := by decide +kernel
theorem dX9_block_13 : decode cX9_block 13 = .ok (.ireturn, 1) := by decide +kernel
set_option maxRecDepth 20000 in
theorem g_X9_block_0 {G : GX} {d : Nat} {Ret : Option AV → St → Prop} {R : Nat → List AV → List AV → St → Prop} (hM : AM G wdX (d + 1) mX9_block Ret R) (v1 : Int) (v2 : Int) (σ : St)
    (h : conV G wdX d mX9_bringUpToDate [vR 9] σ (fun σ1 => conI G wdX d mX4_tripAt [vR 4, vI v1, vI v2] σ1 (fun x2 σ2 => Ret (some (vI x2)) σ2))) : R 0 [vR 9, vI v1, vI v2] [] σ := by
  refine r_aload_n hM (pc' := 1) dX9_block_0 rfl (x := 9) rfl ?_
  refine r_callVV hM (pc' := 4) [] dX9_block_1 rfl ml_X9_125 wx_9 rfl rfl (Nat.le_of_ble_eq_true rfl) (conV.mono h (fun σ1 h => ?_))
  refine r_aload_n hM (pc' := 5) dX9_block_4 rfl (x := 9) rfl ?_
  refine r_getR hM (pc' := 8) dX9_block_5 rfl fl_X9_37 wx_9 rfl ?_
  refine r_iload_n hM (pc' := 9) dX9_block_8 rfl (x := v1) rfl ?_
  refine r_iload_n hM (pc' := 10) dX9_block_9 rfl (x := v2) rfl ?_
  refine r_callVI hM (pc' := 13) [vI v1, vI v2] dX9_block_10 rfl ml_X9_144 wx_4 rfl rfl (Nat.le_of_ble_eq_true rfl) (conI.mono h (fun x2 σ2 h => ?_))
  exact r_ireturn hM dX9_block_13 rfl h
theorem dX9_planned_0 : decode cX9_planned 0 = .ok (.aload_n 0, 1) := by decide +kernel
theorem dX9_planned_1 : decode cX9_planned 1 = .ok (.getfield 19, 3) := by decide +kernel
theorem dX9_planned_4 : decode cX9_planned 4 = .ok (.iload_n 1, 1) := by decide +kernel
theorem dX9_planned_5 : decode cX9_planned 5 = .ok (.invokevirtual 105, 3) := by decide +kernel
theorem dX9_planned_8 : decode cX9_planned 8 = .ok (.ifCond .ne 5, 3) := by decide +kernel
theorem dX9_planned_11 : decode cX9_planned 11 = .ok (.iconst (-1), 1) := by decide +kernel
theorem dX9_planned_12 : decode cX9_planned 12 = .ok (.ireturn, 1) := by decide +kernel
theorem dX9_planned_13 : decode cX9_planned 13 = .ok (.aload_n 0, 1) := by decide +kernel
theorem dX9_planned_14 : decode cX9_planned 14 = .ok (.invokevirtual 125, 3) := by decide +kernel
theorem dX9_planned_17 : decode cX9_planned 17 = .ok (.iload_n 2, 1) := by decide +kernel
theorem dX9_planned_18 : decode cX9_planned 18 = .ok (.tableswitch 70 0 3 #[30, 40, 50, 60], 30) := by decide +kernel
theorem dX9_planned_48 : decode cX9_planned 48 = .ok (.aload_n 0, 1) := by decide +kernel
theorem dX9_planned_49 : decode cX9_planned 49 = .ok (.getfield 37, 3) := by decide +kernel
theorem dX9_planned_52 : decode cX9_planned 52 = .ok (.getfield 148, 3) := by decide +kernel
theorem dX9_planned_55 : decode cX9_planned 55 = .ok (.iload_n 1, 1) := by decide +kernel
theorem dX9_planned_56 : decode cX9_planned 56 = .ok (.iaload, 1) := by decide +kernel
theorem dX9_planned_57 : decode cX9_planned 57 = .ok (.ireturn, 1) := by decide +kernel
theorem dX9_planned_58 : decode cX9_planned 58 = .ok (.aload_n 0, 1) := by decide +kernel
theorem dX9_planned_59 : decode cX9_planned 59 = .ok (.getfield 37, 3) := by decide +kernel
theorem dX9_planned_62 : decode cX9_planned 62 = .ok (.getfield 151, 3) := by decide +kernel
theorem dX9_planned_65 : decode cX9_planned 65 = .ok (.iload_n 1, 1) := by decide +kernel
theorem dX9_planned_66 : decode cX9_planned 66 = .ok (.iaload, 1) := by decide +kernel
theorem dX9_planned_67 : decode cX9_planned 67 = .ok (.ireturn, 1) := by decide +kernel
theorem dX9_planned_68 : decode cX9_planned 68 = .ok (.aload_n 0, 1) := by decide +kernel
theorem dX9_planned_69 : decode cX9_planned 69 = .ok (.getfield 37, 3) := by decide +kernel
theorem dX9_planned_72 : decode cX9_planned 72 = .ok (.getfield 154, 3) := by decide +kernel
theorem dX9_planned_75 : decode cX9_planned 75 = .ok (.iload_n 1, 1) := by decide +kernel
theorem dX9_planned_76 : decode cX9_planned 76 = .ok (.iaload, 1) := by decide +kernel
theorem dX9_planned_77 : decode cX9_planned 77 = .ok (.ireturn, 1) := by decide +kernel
theorem dX9_planned_78 : decode cX9_planned 78 = .ok (.aload_n 0, 1) := by decide +kernel
theorem dX9_planned_79 : decode cX9_planned 79 = .ok (.getfield 46, 3) := by decide +kernel
theorem dX9_planned_82 : decode cX9_planned 82 = .ok (.getfield 157, 3) := by decide +kernel
theorem dX9_planned_85 : decode cX9_planned 85 = .ok (.iload_n 1, 1) := by decide +kernel
theorem dX9_planned_86 : decode cX9_planned 86 = .ok (.iaload, 1) := by decide +kernel
theorem dX9_planned_87 : decode cX9_planned 87 = .ok (.ireturn, 1) := by decide +kernel
theorem dX9_planned_88 : decode cX9_planned 88 = .ok (.iconst (-1), 1) := by decide +kernel
theorem dX9_planned_89 : decode cX9_planned 89 = .ok (.ireturn, 1) := by decide +kernel
set_option maxRecDepth 20000 in
theorem g_X9_planned_0 {G : GX} {d : Nat} {Ret : Option AV → St → Prop} {R : Nat → List AV → List AV → St → Prop} (hM : AM G wdX (d + 1) mX9_planned Ret R) (v1 : Int) (v2 : Int) (σ : St)
    (h : conI G wdX d mX7_holds [vR 7, vI v1] σ (fun x1 σ1 => ((¬ x1 = 0 → conV G wdX d mX9_bringUpToDate [vR 9] σ1 (fun σ2 => ((v2 = 0 → ((0 ≤ v1 ∧ v1 < 16) ∧ Ret (some (vI (σ2.1 22 (v1).toNat))) σ2)) ∧ (v2 = 1 → ((0 ≤ v1 ∧ v1 < 16) ∧ Ret (some (vI (σ2.1 20 (v1).toNat))) σ2)) ∧ (v2 = 2 → ((0 ≤ v1 ∧ v1 < 16) ∧ Ret (some (vI (σ2.1 21 (v1).toNat))) σ2)) ∧ (v2 = 3 → ((0 ≤ v1 ∧ v1 < 16) ∧ Ret (some (vI (σ2.1 33 (v1).toNat))) σ2)) ∧ (¬ (0 ≤ v2 ∧ v2 ≤ 3) → Ret (some (vI (-1))) σ2)))) ∧ (x1 = 0 → Ret (some (vI (-1))) σ1)))) : R 0 [vR 9, vI v1, vI v2] [] σ := by
  refine r_aload_n hM (pc' := 1) dX9_planned_0 rfl (x := 9) rfl ?_
  refine r_getR hM (pc' := 4) dX9_planned_1 rfl fl_X9_19 wx_9 rfl ?_
  refine r_iload_n hM (pc' := 5) dX9_planned_4 rfl (x := v1) rfl ?_
  refine r_callVI hM (pc' := 8) [vI v1] dX9_planned_5 rfl ml_X9_105 wx_7 rfl rfl (Nat.le_of_ble_eq_true rfl) (conI.mono h (fun x1 σ1 h => ?_))
  refine r_if_ne hM (pc' := 11) (tgt := 13) dX9_planned_8 rfl (by decide) (fun c => ?_) (fun c => ?_)
  · have h := h.1 c
    refine r_aload_n hM (pc' := 14) dX9_planned_13 rfl (x := 9) rfl ?_
    refine r_callVV hM (pc' := 17) [] dX9_planned_14 rfl ml_X9_125 wx_9 rfl rfl (Nat.le_of_ble_eq_true rfl) (conV.mono h (fun σ2 h => ?_))
    refine r_iload_n hM (pc' := 18) dX9_planned_17 rfl (x := v2) rfl ?_
    refine r_table hM (tgt := 88) [48, 58, 68, 78] dX9_planned_18 rfl (by decide) (by decide) ⟨fun c => ?_, fun c => ?_, fun c => ?_, fun c => ?_, trivial⟩ (fun c => ?_)
    · have h := h.1 (by omega)
      refine r_aload_n hM (pc' := 49) dX9_planned_48 rfl (x := 9) rfl ?_
      refine r_getR hM (pc' := 52) dX9_planned_49 rfl fl_X9_37 wx_9 rfl ?_
      refine r_getR hM (pc' := 55) dX9_planned_52 rfl fl_X9_148 wx_4 rfl ?_
      refine r_iload_n hM (pc' := 56) dX9_planned_55 rfl (x := v1) rfl ?_
      have o1 := h.1
      have h := h.2
      refine r_iaload hM (pc' := 57) dX9_planned_56 rfl wx_22 o1 ?_
      exact r_ireturn hM dX9_planned_57 rfl h
    · have h := h.2.1 (by omega)
      refine r_aload_n hM (pc' := 59) dX9_planned_58 rfl (x := 9) rfl ?_
      refine r_getR hM (pc' := 62) dX9_planned_59 rfl fl_X9_37 wx_9 rfl ?_
      refine r_getR hM (pc' := 65) dX9_planned_62 rfl fl_X9_151 wx_4 rfl ?_
      refine r_iload_n hM (pc' := 66) dX9_planned_65 rfl (x := v1) rfl ?_
      have o2 := h.1
      have h := h.2
      refine r_iaload hM (pc' := 67) dX9_planned_66 rfl wx_20 o2 ?_
      exact r_ireturn hM dX9_planned_67 rfl h
    · have h := h.2.2.1 (by omega)
      refine r_aload_n hM (pc' := 69) dX9_planned_68 rfl (x := 9) rfl ?_
      refine r_getR hM (pc' := 72) dX9_planned_69 rfl fl_X9_37 wx_9 rfl ?_
      refine r_getR hM (pc' := 75) dX9_planned_72 rfl fl_X9_154 wx_4 rfl ?_
      refine r_iload_n hM (pc' := 76) dX9_planned_75 rfl (x := v1) rfl ?_
      have o3 := h.1
      have h := h.2
      refine r_iaload hM (pc' := 77) dX9_planned_76 rfl wx_21 o3 ?_
      exact r_ireturn hM dX9_planned_77 rfl h
    · have h := h.2.2.2.1 (by omega)
      refine r_aload_n hM (pc' := 79) dX9_planned_78 rfl (x := 9) rfl ?_
      refine r_getR hM (pc' := 82) dX9_planned_79 rfl fl_X9_46 wx_9 rfl ?_
      refine r_getR hM (pc' := 85) dX9_planned_82 rfl fl_X9_157 wx_6 rfl ?_
      refine r_iload_n hM (pc' := 86) dX9_planned_85 rfl (x := v1) rfl ?_
      have o4 := h.1
      have h := h.2
      refine r_iaload hM (pc' := 87) dX9_planned_86 rfl wx_33 o4 ?_
      exact r_ireturn hM dX9_planned_87 rfl h
    · have h := h.2.2.2.2 c
      refine r_iconst hM (pc' := 89) dX9_planned_88 rfl (by decide) ?_
      exact r_ireturn hM dX9_planned_89 rfl h
  · have h := h.2 c
    refine r_iconst hM (pc' := 12) dX9_planned_11 rfl (by decide) ?_
    exact r_ireturn hM dX9_planned_12 rfl h
theorem dX9_segment_0 : decode cX9_segment 0 = .ok (.aload_n 0, 1) := by decide +kernel
theorem dX9_segment_1 : decode cX9_segment 1 = .ok (.invokevirtual 125, 3) := by decide +kernel
theorem dX9_segment_4 : decode cX9_segment 4 = .ok (.aload_n 0, 1) := by decide +kernel
theorem dX9_segment_5 : decode cX9_segment 5 = .ok (.getfield 46, 3) := by decide +kernel
theorem dX9_segment_8 : decode cX9_segment 8 = .ok (.iload_n 1, 1) := by decide +kernel
theorem dX9_segment_9 : decode cX9_segment 9 = .ok (.invokevirtual 160, 3) := by decide +kernel
theorem dX9_segment_12 : decode cX9_segment 12 = .ok (.ifCond .ne 5, 3) := by decide +kernel
theorem dX9_segment_15 : decode cX9_segment 15 = .ok (.iconst (-1), 1) := by decide +kernel
theorem dX9_segment_16 : decode cX9_segment 16 = .ok (.ireturn, 1) := by decide +kernel
theorem dX9_segment_17 : decode cX9_segment 17 = .ok (.iload_n 2, 1) := by decide +kernel
theorem dX9_segment_18 : decode cX9_segment 18 = .ok (.tableswitch 70 0 3 #[30, 40, 50, 60], 30) := by decide +kernel
theorem dX9_segment_48 : decode cX9_segment 48 = .ok (.aload_n 0, 1) := by decide +kernel
theorem dX9_segment_49 : decode cX9_segment 49 = .ok (.getfield 46, 3) := by decide +kernel
theorem dX9_segment_52 : decode cX9_segment 52 = .ok (.getfield 161, 3) := by decide +kernel
theorem dX9_segment_55 : decode cX9_segment 55 = .ok (.iload_n 1, 1) := by decide +kernel
theorem dX9_segment_56 : decode cX9_segment 56 = .ok (.iaload, 1) := by decide +kernel
theorem dX9_segment_57 : decode cX9_segment 57 = .ok (.ireturn, 1) := by decide +kernel
theorem dX9_segment_58 : decode cX9_segment 58 = .ok (.aload_n 0, 1) := by decide +kernel
theorem dX9_segment_59 : decode cX9_segment 59 = .ok (.getfield 46, 3) := by decide +kernel
theorem dX9_segment_62 : decode cX9_segment 62 = .ok (.getfield 164, 3) := by decide +kernel
theorem dX9_segment_65 : decode cX9_segment 65 = .ok (.iload_n 1, 1) := by decide +kernel
theorem dX9_segment_66 : decode cX9_segment 66 = .ok (.iaload, 1) := by decide +kernel
theorem dX9_segment_67 : decode cX9_segment 67 = .ok (.ireturn, 1) := by decide +kernel
theorem dX9_segment_68 : decode cX9_segment 68 = .ok (.aload_n 0, 1) := by decide +kernel
theorem dX9_segment_69 : decode cX9_segment 69 = .ok (.getfield 46, 3) := by decide +kernel
theorem dX9_segment_72 : decode cX9_segment 72 = .ok (.getfield 167, 3) := by decide +kernel
theorem dX9_segment_75 : decode cX9_segment 75 = .ok (.iload_n 1, 1) := by decide +kernel
theorem dX9_segment_76 : decode cX9_segment 76 = .ok (.iaload, 1) := by decide +kernel
theorem dX9_segment_77 : decode cX9_segment 77 = .ok (.ireturn, 1) := by decide +kernel
theorem dX9_segment_78 : decode cX9_segment 78 = .ok (.aload_n 0, 1) := by decide +kernel
theorem dX9_segment_79 : decode cX9_segment 79 = .ok (.getfield 46, 3) := by decide +kernel
theorem dX9_segment_82 : decode cX9_segment 82 = .ok (.getfield 170, 3) := by decide +kernel
theorem dX9_segment_85 : decode cX9_segment 85 = .ok (.iload_n 1, 1) := by decide +kernel
theorem dX9_segment_86 : decode cX9_segment 86 = .ok (.iaload, 1) := by decide +kernel
theorem dX9_segment_87 : decode cX9_segment 87 = .ok (.ireturn, 1) := by decide +kernel
theorem dX9_segment_88 : decode cX9_segment 88 = .ok (.iconst (-1), 1) := by decide +kernel
theorem dX9_segment_89 : decode cX9_segment 89 = .ok (.ireturn, 1) := by decide +kernel
set_option maxRecDepth 20000 in
theorem g_X9_segment_0 {G : GX} {d : Nat} {Ret : Option AV → St → Prop} {R : Nat → List AV → List AV → St → Prop} (hM : AM G wdX (d + 1) mX9_segment Ret R) (v1 : Int) (v2 : Int) (σ : St)
    (h : conV G wdX d mX9_bringUpToDate [vR 9] σ (fun σ1 => conI G wdX d mX6_holds [vR 6, vI v1] σ1 (fun x2 σ2 => ((¬ x2 = 0 → ((v2 = 0 → ((0 ≤ v1 ∧ v1 < 16) ∧ Ret (some (vI (σ2.1 29 (v1).toNat))) σ2)) ∧ (v2 = 1 → ((0 ≤ v1 ∧ v1 < 16) ∧ Ret (some (vI (σ2.1 30 (v1).toNat))) σ2)) ∧ (v2 = 2 → ((0 ≤ v1 ∧ v1 < 16) ∧ Ret (some (vI (σ2.1 31 (v1).toNat))) σ2)) ∧ (v2 = 3 → ((0 ≤ v1 ∧ v1 < 16) ∧ Ret (some (vI (σ2.1 32 (v1).toNat))) σ2)) ∧ (¬ (0 ≤ v2 ∧ v2 ≤ 3) → Ret (some (vI (-1))) σ2))) ∧ (x2 = 0 → Ret (some (vI (-1))) σ2))))) : R 0 [vR 9, vI v1, vI v2] [] σ := by
  refine r_aload_n hM (pc' := 1) dX9_segment_0 rfl (x := 9) rfl ?_
  refine r_callVV hM (pc' := 4) [] dX9_segment_1 rfl ml_X9_125 wx_9 rfl rfl (Nat.le_of_ble_eq_true rfl) (conV.mono h (fun σ1 h => ?_))
  refine r_aload_n hM (pc' := 5) dX9_segment_4 rfl (x := 9) rfl ?_
  refine r_getR hM (pc' := 8) dX9_segment_5 rfl fl_X9_46 wx_9 rfl ?_
  refine r_iload_n hM (pc' := 9) dX9_segment_8 rfl (x := v1) rfl ?_
  refine r_callVI hM (pc' := 12) [vI v1] dX9_segment_9 rfl ml_X9_160 wx_6 rfl rfl (Nat.le_of_ble_eq_true rfl) (conI.mono h (fun x2 σ2 h => ?_))
  refine r_if_ne hM (pc' := 15) (tgt := 17) dX9_segment_12 rfl (by decide) (fun c => ?_) (fun c => ?_)
  · have h := h.1 c
    refine r_iload_n hM (pc' := 18) dX9_segment_17 rfl (x := v2) rfl ?_
    refine r_table hM (tgt := 88) [48, 58, 68, 78] dX9_segment_18 rfl (by decide) (by decide) ⟨fun c => ?_, fun c => ?_, fun c => ?_, fun c => ?_, trivial⟩ (fun c => ?_)
    · have h := h.1 (by omega)
      refine r_aload_n hM (pc' := 49) dX9_segment_48 rfl (x := 9) rfl ?_
      refine r_getR hM (pc' := 52) dX9_segment_49 rfl fl_X9_46 wx_9 rfl ?_
      refine r_getR hM (pc' := 55) dX9_segment_52 rfl fl_X9_161 wx_6 rfl ?_
      refine r_iload_n hM (pc' := 56) dX9_segment_55 rfl (x := v1) rfl ?_
      have o1 := h.1
      have h := h.2
      refine r_iaload hM (pc' := 57) dX9_segment_56 rfl wx_29 o1 ?_
      exact r_ireturn hM dX9_segment_57 rfl h
    · have h := h.2.1 (by omega)
      refine r_aload_n hM (pc' := 59) dX9_segment_58 rfl (x := 9) rfl ?_
      refine r_getR hM (pc' := 62) dX9_segment_59 rfl fl_X9_46 wx_9 rfl ?_
      refine r_getR hM (pc' := 65) dX9_segment_62 rfl fl_X9_164 wx_6 rfl ?_
      refine r_iload_n hM (pc' := 66) dX9_segment_65 rfl (x := v1) rfl ?_
      have o2 := h.1
      have h := h.2
      refine r_iaload hM (pc' := 67) dX9_segment_66 rfl wx_30 o2 ?_
      exact r_ireturn hM dX9_segment_67 rfl h
    · have h := h.2.2.1 (by omega)
      refine r_aload_n hM (pc' := 69) dX9_segment_68 rfl (x := 9) rfl ?_
      refine r_getR hM (pc' := 72) dX9_segment_69 rfl fl_X9_46 wx_9 rfl ?_
      refine r_getR hM (pc' := 75) dX9_segment_72 rfl fl_X9_167 wx_6 rfl ?_
      refine r_iload_n hM (pc' := 76) dX9_segment_75 rfl (x := v1) rfl ?_
      have o3 := h.1
      have h := h.2
      refine r_iaload hM (pc' := 77) dX9_segment_76 rfl wx_31 o3 ?_
      exact r_ireturn hM dX9_segment_77 rfl h
    · have h := h.2.2.2.1 (by omega)
      refine r_aload_n hM (pc' := 79) dX9_segment_78 rfl (x := 9) rfl ?_
      refine r_getR hM (pc' := 82) dX9_segment_79 rfl fl_X9_46 wx_9 rfl ?_
      refine r_getR hM (pc' := 85) dX9_segment_82 rfl fl_X9_170 wx_6 rfl ?_
      refine r_iload_n hM (pc' := 86) dX9_segment_85 rfl (x := v1) rfl ?_
      have o4 := h.1
      have h := h.2
      refine r_iaload hM (pc' := 87) dX9_segment_86 rfl wx_32 o4 ?_
      exact r_ireturn hM dX9_segment_87 rfl h
    · have h := h.2.2.2.2 c
      refine r_iconst hM (pc' := 89) dX9_segment_88 rfl (by decide) ?_
      exact r_ireturn hM dX9_segment_89 rfl h
  · have h := h.2 c
    refine r_iconst hM (pc' := 16) dX9_segment_15 rfl (by decide) ?_
    exact r_ireturn hM dX9_segment_16 rfl h
theorem dX9_clash_0 : decode cX9_clash 0 = .ok (.aload_n 0, 1) := by decide +kernel
theorem dX9_clash_1 : decode cX9_clash 1 = .ok (.invokevirtual 125, 3) := by decide +kernel
theorem dX9_clash_4 : decode cX9_clash 4 = .ok (.aload_n 0, 1) := by decide +kernel
theorem dX9_clash_5 : decode cX9_clash 5 = .ok (.getfield 46, 3) := by decide +kernel
theorem dX9_clash_8 : decode cX9_clash 8 = .ok (.iload_n 1, 1) := by decide +kernel
theorem dX9_clash_9 : decode cX9_clash 9 = .ok (.iload_n 2, 1) := by decide +kernel
theorem dX9_clash_10 : decode cX9_clash 10 = .ok (.invokevirtual 173, 3) := by decide +kernel
theorem dX9_clash_13 : decode cX9_clash 13 = .ok (.ifCond .ne 5, 3) := by decide +kernel
theorem dX9_clash_16 : decode cX9_clash 16 = .ok (.iconst (-1), 1) := by decide +kernel
theorem dX9_clash_17 : decode cX9_clash 17 = .ok (.ireturn, 1) := by decide +kernel
theorem dX9_clash_18 : decode cX9_clash 18 = .ok (.iload_n 3, 1) := by decide +kernel
theorem dX9_clash_19 : decode cX9_clash 19 = .ok (.iconst (-1), 1) := by decide +kernel
theorem dX9_clash_20 : decode cX9_clash 20 = .ok (.if_icmp .ne 13, 3) := by decide +kernel
theorem dX9_clash_23 : decode cX9_clash 23 = .ok (.aload_n 0, 1) := by decide +kernel
theorem dX9_clash_24 : decode cX9_clash 24 = .ok (.getfield 55, 3) := by decide +kernel
theorem dX9_clash_27 : decode cX9_clash 27 = .ok (.iload_n 1, 1) := by decide +kernel
theorem dX9_clash_28 : decode cX9_clash 28 = .ok (.iload_n 2, 1) := by decide +kernel
theorem dX9_clash_29 : decode cX9_clash 29 = .ok (.invokevirtual 176, 3) := by decide +kernel
theorem dX9_clash_32 : decode cX9_clash 32 = .ok (.ireturn, 1) := by decide +kernel
theorem dX9_clash_33 : decode cX9_clash 33 = .ok (.iload_n 2, 1) := by decide +kernel
theorem dX9_clash_34 : decode cX9_clash 34 = .ok (.iload_n 3, 1) := by decide +kernel
theorem dX9_clash_35 : decode cX9_clash 35 = .ok (.if_icmp .lt 9, 3) := by decide +kernel
theorem dX9_clash_38 : decode cX9_clash 38 = .ok (.iload 4, 2) := by decide +kernel
theorem dX9_clash_40 : decode cX9_clash 40 = .ok (.iload_n 1, 1) := by decide +kernel
theorem dX9_clash_41 : decode cX9_clash 41 = .ok (.if_icmp .ge 7, 3) := by decide +kernel
theorem dX9_clash_44 : decode cX9_clash 44 = .ok (.iconst 1, 1) := by decide +kernel
theorem dX9_clash_45 : decode cX9_clash 45 = .ok (.goto 4, 3) := by decide +kernel
theorem dX9_clash_48 : decode cX9_clash 48 = .ok (.iconst 0, 1) := by decide +kernel
theorem dX9_clash_49 : decode cX9_clash 49 = .ok (.istore 5, 2) := by decide +kernel
theorem dX9_clash_51 : decode cX9_clash 51 = .ok (.aload_n 0, 1) := by decide +kernel
theorem dX9_clash_52 : decode cX9_clash 52 = .ok (.getfield 46, 3) := by decide +kernel
theorem dX9_clash_55 : decode cX9_clash 55 = .ok (.iload_n 3, 1) := by decide +kernel
theorem dX9_clash_56 : decode cX9_clash 56 = .ok (.iload 4, 2) := by decide +kernel
theorem dX9_clash_58 : decode cX9_clash 58 = .ok (.invokevirtual 173, 3) := by decide +kernel
theorem dX9_clash_61 : decode cX9_clash 61 = .ok (.ifCond .eq 8, 3) := by decide +kernel
theorem dX9_clash_64 : decode cX9_clash 64 = .ok (.iload 5, 2) := by decide +kernel
theorem dX9_clash_66 : decode cX9_clash 66 = .ok (.ifCond .ne 5, 3) := by decide +kernel
theorem dX9_clash_69 : decode cX9_clash 69 = .ok (.iconst (-1), 1) := by decide +kernel
theorem dX9_clash_70 : decode cX9_clash 70 = .ok (.ireturn, 1) := by decide +kernel
theorem dX9_clash_71 : decode cX9_clash 71 = .ok (.aload_n 0, 1) := by decide +kernel
theorem dX9_clash_72 : decode cX9_clash 72 = .ok (.getfield 55, 3) := by decide +kernel
theorem dX9_clash_75 : decode cX9_clash 75 = .ok (.iload_n 1, 1) := by decide +kernel
theorem dX9_clash_76 : decode cX9_clash 76 = .ok (.iload_n 2, 1) := by decide +kernel
theorem dX9_clash_77 : decode cX9_clash 77 = .ok (.iload_n 3, 1) := by decide +kernel
theorem dX9_clash_78 : decode cX9_clash 78 = .ok (.iload 4, 2) := by decide +kernel
theorem dX9_clash_80 : decode cX9_clash 80 = .ok (.invokevirtual 179, 3) := by decide +kernel
theorem dX9_clash_83 : decode cX9_clash 83 = .ok (.ireturn, 1) := by decide +kernel
set_option maxRecDepth 20000 in
theorem g_X9_clash_0 {G : GX} {d : Nat} {Ret : Option AV → St → Prop} {R : Nat → List AV → List AV → St → Prop} (hM : AM G wdX (d + 1) mX9_clash Ret R) (v1 : Int) (v2 : Int) (v3 : Int) (v4 : Int) (σ : St)
    (h : conV G wdX d mX9_bringUpToDate [vR 9] σ (fun σ1 => conI G wdX d mX6_isPiece [vR 6, vI v1, vI v2] σ1 (fun x2 σ2 => ((¬ x2 = 0 → ((¬ v3 = (-1) → ((v2 < v3 → R 49 [vR 9, vI v1, vI v2, vI v3, vI v4, vN] [vI 1] σ2) ∧ (¬ v2 < v3 → ((v1 ≤ v4 → R 49 [vR 9, vI v1, vI v2, vI v3, vI v4, vN] [vI 0] σ2) ∧ (¬ v1 ≤ v4 → R 49 [vR 9, vI v1, vI v2, vI v3, vI v4, vN] [vI 1] σ2))))) ∧ (v3 = (-1) → conI G wdX d mX0_brokenByOne [vR 0, vI v1, vI v2] σ2 (fun x3 σ3 => Ret (some (vI x3)) σ3)))) ∧ (x2 = 0 → Ret (some (vI (-1))) σ2))))) : R 0 [vR 9, vI v1, vI v2, vI v3, vI v4, vN] [] σ := by
  refine r_aload_n hM (pc' := 1) dX9_clash_0 rfl (x := 9) rfl ?_
  refine r_callVV hM (pc' := 4) [] dX9_clash_1 rfl ml_X9_125 wx_9 rfl rfl (Nat.le_of_ble_eq_true rfl) (conV.mono h (fun σ1 h => ?_))
  refine r_aload_n hM (pc' := 5) dX9_clash_4 rfl (x := 9) rfl ?_
  refine r_getR hM (pc' := 8) dX9_clash_5 rfl fl_X9_46 wx_9 rfl ?_
  refine r_iload_n hM (pc' := 9) dX9_clash_8 rfl (x := v1) rfl ?_
  refine r_iload_n hM (pc' := 10) dX9_clash_9 rfl (x := v2) rfl ?_
  refine r_callVI hM (pc' := 13) [vI v1, vI v2] dX9_clash_10 rfl ml_X9_173 wx_6 rfl rfl (Nat.le_of_ble_eq_true rfl) (conI.mono h (fun x2 σ2 h => ?_))
  refine r_if_ne hM (pc' := 16) (tgt := 18) dX9_clash_13 rfl (by decide) (fun c => ?_) (fun c => ?_)
  · have h := h.1 c
    refine r_iload_n hM (pc' := 19) dX9_clash_18 rfl (x := v3) rfl ?_
    refine r_iconst hM (pc' := 20) dX9_clash_19 rfl (by decide) ?_
    refine r_icmp_ne hM (pc' := 23) (tgt := 33) dX9_clash_20 rfl (by decide) (fun c => ?_) (fun c => ?_)
    · have h := h.1 c
      refine r_iload_n hM (pc' := 34) dX9_clash_33 rfl (x := v2) rfl ?_
      refine r_iload_n hM (pc' := 35) dX9_clash_34 rfl (x := v3) rfl ?_
      refine r_icmp_lt hM (pc' := 38) (tgt := 44) dX9_clash_35 rfl (by decide) (fun c => ?_) (fun c => ?_)
      · have h := h.1 c
        refine r_iconst hM (pc' := 45) dX9_clash_44 rfl (by decide) ?_
        refine r_goto hM (tgt := 49) dX9_clash_45 (by decide) ?_
        exact h
      · have h := h.2 c
        refine r_iload hM (pc' := 40) dX9_clash_38 rfl (x := v4) rfl ?_
        refine r_iload_n hM (pc' := 41) dX9_clash_40 rfl (x := v1) rfl ?_
        refine r_icmp_ge hM (pc' := 44) (tgt := 48) dX9_clash_41 rfl (by decide) (fun c => ?_) (fun c => ?_)
        · have h := h.1 c
          refine r_iconst hM (pc' := 49) dX9_clash_48 rfl (by decide) ?_
          exact h
        · have h := h.2 c
          refine r_iconst hM (pc' := 45) dX9_clash_44 rfl (by decide) ?_
          refine r_goto hM (tgt := 49) dX9_clash_45 (by decide) ?_
          exact h
    · have h := h.2 c
      refine r_aload_n hM (pc' := 24) dX9_clash_23 rfl (x := 9) rfl ?_
      refine r_getR hM (pc' := 27) dX9_clash_24 rfl fl_X9_55 wx_9 rfl ?_
      refine r_iload_n hM (pc' := 28) dX9_clash_27 rfl (x := v1) rfl ?_
      refine r_iload_n hM (pc' := 29) dX9_clash_28 rfl (x := v2) rfl ?_
      refine r_callVI hM (pc' := 32) [vI v1, vI v2] dX9_clash_29 rfl ml_X9_176 wx_0 rfl rfl (Nat.le_of_ble_eq_true rfl) (conI.mono h (fun x3 σ3 h => ?_))
      exact r_ireturn hM dX9_clash_32 rfl h
  · have h := h.2 c
    refine r_iconst hM (pc' := 17) dX9_clash_16 rfl (by decide) ?_
    exact r_ireturn hM dX9_clash_17 rfl h
set_option maxRecDepth 20000 in
theorem g_X9_clash_49 {G : GX} {d : Nat} {Ret : Option AV → St → Prop} {R : Nat → List AV → List AV → St → Prop} (hM : AM G wdX (d + 1) mX9_clash Ret R) (v1 : Int) (v2 : Int) (v3 : Int) (v4 : Int) (w0 : Int) (σ : St)
    (h : conI G wdX d mX6_isPiece [vR 6, vI v3, vI v4] σ (fun x1 σ1 => ((x1 = 0 → Ret (some (vI (-1))) σ1) ∧ (¬ x1 = 0 → ((¬ w0 = 0 → conI G wdX d mX0_brokenByTwo [vR 0, vI v1, vI v2, vI v3, vI v4] σ1 (fun x2 σ2 => Ret (some (vI x2)) σ2)) ∧ (w0 = 0 → Ret (some (vI (-1))) σ1)))))) : R 49 [vR 9, vI v1, vI v2, vI v3, vI v4, vN] [vI w0] σ := by
  refine r_istore hM (pc' := 51) dX9_clash_49 rfl (Nat.le_of_ble_eq_true rfl) rfl ?_
  show R 51 [vR 9, vI v1, vI v2, vI v3, vI v4, vI w0] _ _
  refine r_aload_n hM (pc' := 52) dX9_clash_51 rfl (x := 9) rfl ?_
  refine r_getR hM (pc' := 55) dX9_clash_52 rfl fl_X9_46 wx_9 rfl ?_
  refine r_iload_n hM (pc' := 56) dX9_clash_55 rfl (x := v3) rfl ?_
  refine r_iload hM (pc' := 58) dX9_clash_56 rfl (x := v4) rfl ?_
  refine r_callVI hM (pc' := 61) [vI v3, vI v4] dX9_clash_58 rfl ml_X9_173 wx_6 rfl rfl (Nat.le_of_ble_eq_true rfl) (conI.mono h (fun x1 σ1 h => ?_))
  refine r_if_eq hM (pc' := 64) (tgt := 69) dX9_clash_61 rfl (by decide) (fun c => ?_) (fun c => ?_)
  · have h := h.1 c
    refine r_iconst hM (pc' := 70) dX9_clash_69 rfl (by decide) ?_
    exact r_ireturn hM dX9_clash_70 rfl h
  · have h := h.2 c
    refine r_iload hM (pc' := 66) dX9_clash_64 rfl (x := w0) rfl ?_
    refine r_if_ne hM (pc' := 69) (tgt := 71) dX9_clash_66 rfl (by decide) (fun c => ?_) (fun c => ?_)
    · have h := h.1 c
      refine r_aload_n hM (pc' := 72) dX9_clash_71 rfl (x := 9) rfl ?_
      refine r_getR hM (pc' := 75) dX9_clash_72 rfl fl_X9_55 wx_9 rfl ?_
      refine r_iload_n hM (pc' := 76) dX9_clash_75 rfl (x := v1) rfl ?_
      refine r_iload_n hM (pc' := 77) dX9_clash_76 rfl (x := v2) rfl ?_
      refine r_iload_n hM (pc' := 78) dX9_clash_77 rfl (x := v3) rfl ?_
      refine r_iload hM (pc' := 80) dX9_clash_78 rfl (x := v4) rfl ?_
      refine r_callVI hM (pc' := 83) [vI v1, vI v2, vI v3, vI v4] dX9_clash_80 rfl ml_X9_179 wx_0 rfl rfl (Nat.le_of_ble_eq_true rfl) (conI.mono h (fun x2 σ2 h => ?_))
      exact r_ireturn hM dX9_clash_83 rfl h
    · have h := h.2 c
      refine r_iconst hM (pc' := 70) dX9_clash_69 rfl (by decide) ?_
      exact r_ireturn hM dX9_clash_70 rfl h
theorem dX9_roster_0 : decode cX9_roster 0 = .ok (.aload_n 0, 1) := by decide +kernel
theorem dX9_roster_1 : decode cX9_roster 1 = .ok (.invokevirtual 125, 3) := by decide +kernel
theorem dX9_roster_4 : decode cX9_roster 4 = .ok (.aload_n 0, 1) := by decide +kernel
theorem dX9_roster_5 : decode cX9_roster 5 = .ok (.getfield 64, 3) := by decide +kernel
theorem dX9_roster_8 : decode cX9_roster 8 = .ok (.invokevirtual 183, 3) := by decide +kernel
theorem dX9_roster_11 : decode cX9_roster 11 = .ok (.ireturn, 1) := by decide +kernel
set_option maxRecDepth 20000 in
theorem g_X9_roster_0 {G : GX} {d : Nat} {Ret : Option AV → St → Prop} {R : Nat → List AV → List AV → St → Prop} (hM : AM G wdX (d + 1) mX9_roster Ret R) (σ : St)
    (h : conV G wdX d mX9_bringUpToDate [vR 9] σ (fun σ1 => conI G wdX d mX5_tell [vR 5] σ1 (fun x2 σ2 => Ret (some (vI x2)) σ2))) : R 0 [vR 9] [] σ := by
  refine r_aload_n hM (pc' := 1) dX9_roster_0 rfl (x := 9) rfl ?_
  refine r_callVV hM (pc' := 4) [] dX9_roster_1 rfl ml_X9_125 wx_9 rfl rfl (Nat.le_of_ble_eq_true rfl) (conV.mono h (fun σ1 h => ?_))
  refine r_aload_n hM (pc' := 5) dX9_roster_4 rfl (x := 9) rfl ?_
  refine r_getR hM (pc' := 8) dX9_roster_5 rfl fl_X9_64 wx_9 rfl ?_
  refine r_callVI hM (pc' := 11) [] dX9_roster_8 rfl ml_X9_183 wx_5 rfl rfl (Nat.le_of_ble_eq_true rfl) (conI.mono h (fun x2 σ2 h => ?_))
  exact r_ireturn hM dX9_roster_11 rfl h
theorem dX9_duty_0 : decode cX9_duty 0 = .ok (.aload_n 0, 1) := by decide +kernel
theorem dX9_duty_1 : decode cX9_duty 1 = .ok (.getfield 64, 3) := by decide +kernel
theorem dX9_duty_4 : decode cX9_duty 4 = .ok (.iload_n 1, 1) := by decide +kernel
theorem dX9_duty_5 : decode cX9_duty 5 = .ok (.iload_n 2, 1) := by decide +kernel
theorem dX9_duty_6 : decode cX9_duty 6 = .ok (.invokevirtual 186, 3) := by decide +kernel
theorem dX9_duty_9 : decode cX9_duty 9 = .ok (.ireturn, 1) := by decide +kernel
set_option maxRecDepth 20000 in
theorem g_X9_duty_0 {G : GX} {d : Nat} {Ret : Option AV → St → Prop} {R : Nat → List AV → List AV → St → Prop} (hM : AM G wdX (d + 1) mX9_duty Ret R) (v1 : Int) (v2 : Int) (σ : St)
    (h : conI G wdX d mX5_of [vR 5, vI v1, vI v2] σ (fun x1 σ1 => Ret (some (vI x1)) σ1)) : R 0 [vR 9, vI v1, vI v2] [] σ := by
  refine r_aload_n hM (pc' := 1) dX9_duty_0 rfl (x := 9) rfl ?_
  refine r_getR hM (pc' := 4) dX9_duty_1 rfl fl_X9_64 wx_9 rfl ?_
  refine r_iload_n hM (pc' := 5) dX9_duty_4 rfl (x := v1) rfl ?_
  refine r_iload_n hM (pc' := 6) dX9_duty_5 rfl (x := v2) rfl ?_
  refine r_callVI hM (pc' := 9) [vI v1, vI v2] dX9_duty_6 rfl ml_X9_186 wx_5 rfl rfl (Nat.le_of_ble_eq_true rfl) (conI.mono h (fun x1 σ1 h => ?_))
  exact r_ireturn hM dX9_duty_9 rfl h
theorem dX9_apart_0 : decode cX9_apart 0 = .ok (.aload_n 0, 1) := by decide +kernel
theorem dX9_apart_1 : decode cX9_apart 1 = .ok (.invokevirtual 125, 3) := by decide +kernel
theorem dX9_apart_4 : decode cX9_apart 4 = .ok (.aload_n 0, 1) := by decide +kernel
theorem dX9_apart_5 : decode cX9_apart 5 = .ok (.getfield 28, 3) := by decide +kernel
theorem dX9_apart_8 : decode cX9_apart 8 = .ok (.invokevirtual 189, 3) := by decide +kernel
theorem dX9_apart_11 : decode cX9_apart 11 = .ok (.ireturn, 1) := by decide +kernel
set_option maxRecDepth 20000 in
theorem g_X9_apart_0 {G : GX} {d : Nat} {Ret : Option AV → St → Prop} {R : Nat → List AV → List AV → St → Prop} (hM : AM G wdX (d + 1) mX9_apart Ret R) (σ : St)
    (h : conV G wdX d mX9_bringUpToDate [vR 9] σ (fun σ1 => conI G wdX d mX2_mostApart [vR 2] σ1 (fun x2 σ2 => Ret (some (vI x2)) σ2))) : R 0 [vR 9] [] σ := by
  refine r_aload_n hM (pc' := 1) dX9_apart_0 rfl (x := 9) rfl ?_
  refine r_callVV hM (pc' := 4) [] dX9_apart_1 rfl ml_X9_125 wx_9 rfl rfl (Nat.le_of_ble_eq_true rfl) (conV.mono h (fun σ1 h => ?_))
  refine r_aload_n hM (pc' := 5) dX9_apart_4 rfl (x := 9) rfl ?_
  refine r_getR hM (pc' := 8) dX9_apart_5 rfl fl_X9_28 wx_9 rfl ?_
  refine r_callVI hM (pc' := 11) [] dX9_apart_8 rfl ml_X9_189 wx_2 rfl rfl (Nat.le_of_ble_eq_true rfl) (conI.mono h (fun x2 σ2 h => ?_))
  exact r_ireturn hM dX9_apart_11 rfl h
theorem dX9_saves_0 : decode cX9_saves 0 = .ok (.aload_n 0, 1) := by decide +kernel
theorem dX9_saves_1 : decode cX9_saves 1 = .ok (.getfield 19, 3) := by decide +kernel
theorem dX9_saves_4 : decode cX9_saves 4 = .ok (.iload_n 1, 1) := by decide +kernel
theorem dX9_saves_5 : decode cX9_saves 5 = .ok (.iload_n 2, 1) := by decide +kernel
theorem dX9_saves_6 : decode cX9_saves 6 = .ok (.invokevirtual 192, 3) := by decide +kernel
theorem dX9_saves_9 : decode cX9_saves 9 = .ok (.ifCond .ne 6, 3) := by decide +kernel
theorem dX9_saves_12 : decode cX9_saves 12 = .ok (.bipush (-100), 2) := by decide +kernel
theorem dX9_saves_14 : decode cX9_saves 14 = .ok (.ireturn, 1) := by decide +kernel
theorem dX9_saves_15 : decode cX9_saves 15 = .ok (.aload_n 0, 1) := by decide +kernel
theorem dX9_saves_16 : decode cX9_saves 16 = .ok (.invokevirtual 125, 3) := by decide +kernel
theorem dX9_saves_19 : decode cX9_saves 19 = .ok (.aload_n 0, 1) := by decide +kernel
theorem dX9_saves_20 : decode cX9_saves 20 = .ok (.getfield 37, 3) := by decide +kernel
theorem dX9_saves_23 : decode cX9_saves 23 = .ok (.getfield 132, 3) := by decide +kernel
theorem dX9_saves_26 : decode cX9_saves 26 = .ok (.aload_n 0, 1) := by decide +kernel
theorem dX9_saves_27 : decode cX9_saves 27 = .ok (.getfield 37, 3) := by decide +kernel
theorem dX9_saves_30 : decode cX9_saves 30 = .ok (.iload_n 1, 1) := by decide +kernel
theorem dX9_saves_31 : decode cX9_saves 31 = .ok (.iload_n 2, 1) := by decide +kernel
theorem dX9_saves_32 : decode cX9_saves 32 = .ok (.invokevirtual 195, 3) := by decide +kernel
theorem dX9_saves_35 : decode cX9_saves 35 = .ok (.isub, 1) := by decide +kernel
theorem dX9_saves_36 : decode cX9_saves 36 = .ok (.ireturn, 1) := by decide +kernel
set_option maxRecDepth 20000 in
theorem g_X9_saves_0 {G : GX} {d : Nat} {Ret : Option AV → St → Prop} {R : Nat → List AV → List AV → St → Prop} (hM : AM G wdX (d + 1) mX9_saves Ret R) (v1 : Int) (v2 : Int) (σ : St)
    (h : conI G wdX d mX7_canShift [vR 7, vI v1, vI v2] σ (fun x1 σ1 => ((¬ x1 = 0 → conV G wdX d mX9_bringUpToDate [vR 9] σ1 (fun σ2 => conI G wdX d mX4_fewestWith [vR 4, vI v1, vI v2] σ2 (fun x3 σ3 => (r32 ((σ2.1 4 3) - x3) ∧ Ret (some (vI ((σ2.1 4 3) - x3))) σ3)))) ∧ (x1 = 0 → Ret (some (vI (-100))) σ1)))) : R 0 [vR 9, vI v1, vI v2] [] σ := by
  refine r_aload_n hM (pc' := 1) dX9_saves_0 rfl (x := 9) rfl ?_
  refine r_getR hM (pc' := 4) dX9_saves_1 rfl fl_X9_19 wx_9 rfl ?_
  refine r_iload_n hM (pc' := 5) dX9_saves_4 rfl (x := v1) rfl ?_
  refine r_iload_n hM (pc' := 6) dX9_saves_5 rfl (x := v2) rfl ?_
  refine r_callVI hM (pc' := 9) [vI v1, vI v2] dX9_saves_6 rfl ml_X9_192 wx_7 rfl rfl (Nat.le_of_ble_eq_true rfl) (conI.mono h (fun x1 σ1 h => ?_))
  refine r_if_ne hM (pc' := 12) (tgt := 15) dX9_saves_9 rfl (by decide) (fun c => ?_) (fun c => ?_)
  · have h := h.1 c
    refine r_aload_n hM (pc' := 16) dX9_saves_15 rfl (x := 9) rfl ?_
    refine r_callVV hM (pc' := 19) [] dX9_saves_16 rfl ml_X9_125 wx_9 rfl rfl (Nat.le_of_ble_eq_true rfl) (conV.mono h (fun σ2 h => ?_))
    refine r_aload_n hM (pc' := 20) dX9_saves_19 rfl (x := 9) rfl ?_
    refine r_getR hM (pc' := 23) dX9_saves_20 rfl fl_X9_37 wx_9 rfl ?_
    refine r_getI hM (pc' := 26) dX9_saves_23 rfl fl_X9_132 wx_4 rfl ?_
    refine r_aload_n hM (pc' := 27) dX9_saves_26 rfl (x := 9) rfl ?_
    refine r_getR hM (pc' := 30) dX9_saves_27 rfl fl_X9_37 wx_9 rfl ?_
    refine r_iload_n hM (pc' := 31) dX9_saves_30 rfl (x := v1) rfl ?_
    refine r_iload_n hM (pc' := 32) dX9_saves_31 rfl (x := v2) rfl ?_
    refine r_callVI hM (pc' := 35) [vI v1, vI v2] dX9_saves_32 rfl ml_X9_195 wx_4 rfl rfl (Nat.le_of_ble_eq_true rfl) (conI.mono h (fun x3 σ3 h => ?_))
    have o1 := h.1
    have h := h.2
    refine r_isub hM (pc' := 36) dX9_saves_35 rfl o1 ?_
    exact r_ireturn hM dX9_saves_36 rfl h
  · have h := h.2 c
    refine r_bipush hM (pc' := 14) dX9_saves_12 rfl (by decide) (by decide) ?_
    exact r_ireturn hM dX9_saves_14 rfl h
theorem dX9_about_0 : decode cX9_about 0 = .ok (.iload_n 1, 1) := by decide +kernel
theorem dX9_about_1 : decode cX9_about 1 = .ok (.tableswitch 83 0 4 #[35, 43, 51, 59, 67], 35) := by decide +kernel
theorem dX9_about_36 : decode cX9_about 36 = .ok (.aload_n 0, 1) := by decide +kernel
theorem dX9_about_37 : decode cX9_about 37 = .ok (.getfield 19, 3) := by decide +kernel
theorem dX9_about_40 : decode cX9_about 40 = .ok (.getfield 87, 3) := by decide +kernel
theorem dX9_about_43 : decode cX9_about 43 = .ok (.ireturn, 1) := by decide +kernel
theorem dX9_about_44 : decode cX9_about 44 = .ok (.aload_n 0, 1) := by decide +kernel
theorem dX9_about_45 : decode cX9_about 45 = .ok (.getfield 55, 3) := by decide +kernel
theorem dX9_about_48 : decode cX9_about 48 = .ok (.getfield 198, 3) := by decide +kernel
theorem dX9_about_51 : decode cX9_about 51 = .ok (.ireturn, 1) := by decide +kernel
theorem dX9_about_52 : decode cX9_about 52 = .ok (.aload_n 0, 1) := by decide +kernel
theorem dX9_about_53 : decode cX9_about 53 = .ok (.getfield 55, 3) := by decide +kernel
theorem dX9_about_56 : decode cX9_about 56 = .ok (.getfield 201, 3) := by decide +kernel
theorem dX9_about_59 : decode cX9_about 59 = .ok (.ireturn, 1) := by decide +kernel
theorem dX9_about_60 : decode cX9_about 60 = .ok (.aload_n 0, 1) := by decide +kernel
theorem dX9_about_61 : decode cX9_about 61 = .ok (.getfield 55, 3) := by decide +kernel
theorem dX9_about_64 : decode cX9_about 64 = .ok (.getfield 204, 3) := by decide +kernel
theorem dX9_about_67 : decode cX9_about 67 = .ok (.ireturn, 1) := by decide +kernel
theorem dX9_about_68 : decode cX9_about 68 = .ok (.aload_n 0, 1) := by decide +kernel
theorem dX9_about_69 : decode cX9_about 69 = .ok (.getfield 55, 3) := by decide +kernel
theorem dX9_about_72 : decode cX9_about 72 = .ok (.getfield 207, 3) := by decide +kernel
theorem dX9_about_75 : decode cX9_about 75 = .ok (.ifCond .eq 7, 3) := by decide +kernel
theorem dX9_about_78 : decode cX9_about 78 = .ok (.iconst 1, 1) := by decide +kernel
theorem dX9_about_79 : decode cX9_about 79 = .ok (.goto 4, 3) := by decide +kernel
theorem dX9_about_82 : decode cX9_about 82 = .ok (.iconst 0, 1) := by decide +kernel
theorem dX9_about_83 : decode cX9_about 83 = .ok (.ireturn, 1) := by decide +kernel
theorem dX9_about_84 : decode cX9_about 84 = .ok (.iconst (-1), 1) := by decide +kernel
theorem dX9_about_85 : decode cX9_about 85 = .ok (.ireturn, 1) := by decide +kernel
set_option maxRecDepth 20000 in
theorem g_X9_about_0 {G : GX} {d : Nat} {Ret : Option AV → St → Prop} {R : Nat → List AV → List AV → St → Prop} (hM : AM G wdX d mX9_about Ret R) (v1 : Int) (σ : St)
    (h : ((v1 = 0 → Ret (some (vI (σ.1 7 4))) σ) ∧ (v1 = 1 → Ret (some (vI (σ.1 0 0))) σ) ∧ (v1 = 2 → Ret (some (vI (σ.1 0 1))) σ) ∧ (v1 = 3 → Ret (some (vI (σ.1 0 2))) σ) ∧ (v1 = 4 → (((σ.1 0 3) = 0 → Ret (some (vI 0)) σ) ∧ (¬ (σ.1 0 3) = 0 → Ret (some (vI 1)) σ))) ∧ (¬ (0 ≤ v1 ∧ v1 ≤ 4) → Ret (some (vI (-1))) σ))) : R 0 [vR 9, vI v1] [] σ := by
  refine r_iload_n hM (pc' := 1) dX9_about_0 rfl (x := v1) rfl ?_
  refine r_table hM (tgt := 84) [36, 44, 52, 60, 68] dX9_about_1 rfl (by decide) (by decide) ⟨fun c => ?_, fun c => ?_, fun c => ?_, fun c => ?_, fun c => ?_, trivial⟩ (fun c => ?_)
  · have h := h.1 (by omega)
    refine r_aload_n hM (pc' := 37) dX9_about_36 rfl (x := 9) rfl ?_
    refine r_getR hM (pc' := 40) dX9_about_37 rfl fl_X9_19 wx_9 rfl ?_
    refine r_getI hM (pc' := 43) dX9_about_40 rfl fl_X9_87 wx_7 rfl ?_
    exact r_ireturn hM dX9_about_43 rfl h
  · have h := h.2.1 (by omega)
    refine r_aload_n hM (pc' := 45) dX9_about_44 rfl (x := 9) rfl ?_
    refine r_getR hM (pc' := 48) dX9_about_45 rfl fl_X9_55 wx_9 rfl ?_
    refine r_getI hM (pc' := 51) dX9_about_48 rfl fl_X9_198 wx_0 rfl ?_
    exact r_ireturn hM dX9_about_51 rfl h
  · have h := h.2.2.1 (by omega)
    refine r_aload_n hM (pc' := 53) dX9_about_52 rfl (x := 9) rfl ?_
    refine r_getR hM (pc' := 56) dX9_about_53 rfl fl_X9_55 wx_9 rfl ?_
    refine r_getI hM (pc' := 59) dX9_about_56 rfl fl_X9_201 wx_0 rfl ?_
    exact r_ireturn hM dX9_about_59 rfl h
  · have h := h.2.2.2.1 (by omega)
    refine r_aload_n hM (pc' := 61) dX9_about_60 rfl (x := 9) rfl ?_
    refine r_getR hM (pc' := 64) dX9_about_61 rfl fl_X9_55 wx_9 rfl ?_
    refine r_getI hM (pc' := 67) dX9_about_64 rfl fl_X9_204 wx_0 rfl ?_
    exact r_ireturn hM dX9_about_67 rfl h
  · have h := h.2.2.2.2.1 (by omega)
    refine r_aload_n hM (pc' := 69) dX9_about_68 rfl (x := 9) rfl ?_
    refine r_getR hM (pc' := 72) dX9_about_69 rfl fl_X9_55 wx_9 rfl ?_
    refine r_getI hM (pc' := 75) dX9_about_72 rfl fl_X9_207 wx_0 rfl ?_
    refine r_if_eq hM (pc' := 78) (tgt := 82) dX9_about_75 rfl (by decide) (fun c => ?_) (fun c => ?_)
    · have h := h.1 c
      refine r_iconst hM (pc' := 83) dX9_about_82 rfl (by decide) ?_
      exact r_ireturn hM dX9_about_83 rfl h
    · have h := h.2 c
      refine r_iconst hM (pc' := 79) dX9_about_78 rfl (by decide) ?_
      refine r_goto hM (tgt := 83) dX9_about_79 (by decide) ?_
      exact r_ireturn hM dX9_about_83 rfl h
  · have h := h.2.2.2.2.2 c
    refine r_iconst hM (pc' := 85) dX9_about_84 rfl (by decide) ?_
    exact r_ireturn hM dX9_about_85 rfl h
theorem dX9_noted_0 : decode cX9_noted 0 = .ok (.iload_n 1, 1) := by decide +kernel
theorem dX9_noted_1 : decode cX9_noted 1 = .ok (.ifCond .eq 15, 3) := by decide +kernel
theorem dX9_noted_4 : decode cX9_noted 4 = .ok (.aload_n 0, 1) := by decide +kernel
theorem dX9_noted_5 : decode cX9_noted 5 = .ok (.iconst 0, 1) := by decide +kernel
theorem dX9_noted_6 : decode cX9_noted 6 = .ok (.putfield 68, 3) := by decide +kernel
theorem dX9_noted_9 : decode cX9_noted 9 = .ok (.aload_n 0, 1) := by decide +kernel
theorem dX9_noted_10 : decode cX9_noted 10 = .ok (.getfield 64, 3) := by decide +kernel
theorem dX9_noted_13 : decode cX9_noted 13 = .ok (.invokevirtual 102, 3) := by decide +kernel
theorem dX9_noted_16 : decode cX9_noted 16 = .ok (.iload_n 1, 1) := by decide +kernel
theorem dX9_noted_17 : decode cX9_noted 17 = .ok (.ireturn, 1) := by decide +kernel
set_option maxRecDepth 20000 in
theorem g_X9_noted_0 {G : GX} {d : Nat} {Ret : Option AV → St → Prop} {R : Nat → List AV → List AV → St → Prop} (hM : AM G wdX (d + 1) mX9_noted Ret R) (v1 : Int) (σ : St)
    (h : ((v1 = 0 → ((v1 = 0 ∨ v1 = 1) ∧ Ret (some (vI v1)) σ)) ∧ (¬ v1 = 0 → (∀ τ1, τ1 = sI σ 9 7 0 → conV G wdX d mX5_forget [vR 5] τ1 (fun σ1 => ((v1 = 0 ∨ v1 = 1) ∧ Ret (some (vI v1)) σ1)))))) : R 0 [vR 9, vI v1] [] σ := by
  refine r_iload_n hM (pc' := 1) dX9_noted_0 rfl (x := v1) rfl ?_
  refine r_if_eq hM (pc' := 4) (tgt := 16) dX9_noted_1 rfl (by decide) (fun c => ?_) (fun c => ?_)
  · have h := h.1 c
    refine r_iload_n hM (pc' := 17) dX9_noted_16 rfl (x := v1) rfl ?_
    have o1 := h.1
    have h := h.2
    exact r_zreturn hM dX9_noted_17 rfl o1 h
  · have h := h.2 c
    refine r_aload_n hM (pc' := 5) dX9_noted_4 rfl (x := 9) rfl ?_
    refine r_iconst hM (pc' := 6) dX9_noted_5 rfl (by decide) ?_
    refine r_putZ hM (pc' := 9) dX9_noted_6 rfl fp_X9_68 wx_9 rfl (by decide) (fun τ1 e1 => ?_)
    have h := h τ1 e1
    refine r_aload_n hM (pc' := 10) dX9_noted_9 rfl (x := 9) rfl ?_
    refine r_getR hM (pc' := 13) dX9_noted_10 rfl fl_X9_64 wx_9 rfl ?_
    refine r_callVV hM (pc' := 16) [] dX9_noted_13 rfl ml_X9_102 wx_5 rfl rfl (Nat.le_of_ble_eq_true rfl) (conV.mono h (fun σ1 h => ?_))
    refine r_iload_n hM (pc' := 17) dX9_noted_16 rfl (x := v1) rfl ?_
    have o2 := h.1
    have h := h.2
    exact r_zreturn hM dX9_noted_17 rfl o2 h
theorem dX9_bringUpToDate_0 : decode cX9_bringUpToDate 0 = .ok (.aload_n 0, 1) := by decide +kernel
theorem dX9_bringUpToDate_1 : decode cX9_bringUpToDate 1 = .ok (.getfield 68, 3) := by decide +kernel
theorem dX9_bringUpToDate_4 : decode cX9_bringUpToDate 4 = .ok (.ifCond .ne 29, 3) := by decide +kernel
theorem dX9_bringUpToDate_7 : decode cX9_bringUpToDate 7 = .ok (.aload_n 0, 1) := by decide +kernel
theorem dX9_bringUpToDate_8 : decode cX9_bringUpToDate 8 = .ok (.getfield 28, 3) := by decide +kernel
theorem dX9_bringUpToDate_11 : decode cX9_bringUpToDate 11 = .ok (.invokevirtual 210, 3) := by decide +kernel
theorem dX9_bringUpToDate_14 : decode cX9_bringUpToDate 14 = .ok (.aload_n 0, 1) := by decide +kernel
theorem dX9_bringUpToDate_15 : decode cX9_bringUpToDate 15 = .ok (.getfield 37, 3) := by decide +kernel
theorem dX9_bringUpToDate_18 : decode cX9_bringUpToDate 18 = .ok (.invokevirtual 212, 3) := by decide +kernel
theorem dX9_bringUpToDate_21 : decode cX9_bringUpToDate 21 = .ok (.aload_n 0, 1) := by decide +kernel
theorem dX9_bringUpToDate_22 : decode cX9_bringUpToDate 22 = .ok (.getfield 46, 3) := by decide +kernel
theorem dX9_bringUpToDate_25 : decode cX9_bringUpToDate 25 = .ok (.invokevirtual 215, 3) := by decide +kernel
theorem dX9_bringUpToDate_28 : decode cX9_bringUpToDate 28 = .ok (.aload_n 0, 1) := by decide +kernel
theorem dX9_bringUpToDate_29 : decode cX9_bringUpToDate 29 = .ok (.iconst 1, 1) := by decide +kernel
theorem dX9_bringUpToDate_30 : decode cX9_bringUpToDate 30 = .ok (.putfield 68, 3) := by decide +kernel
theorem dX9_bringUpToDate_33 : decode cX9_bringUpToDate 33 = .ok (.return_, 1) := by decide +kernel
set_option maxRecDepth 20000 in
theorem g_X9_bringUpToDate_0 {G : GX} {d : Nat} {Ret : Option AV → St → Prop} {R : Nat → List AV → List AV → St → Prop} (hM : AM G wdX (d + 1) mX9_bringUpToDate Ret R) (σ : St)
    (h : ((¬ (σ.1 9 7) = 0 → Ret none σ) ∧ ((σ.1 9 7) = 0 → conV G wdX d mX2_tell [vR 2] σ (fun σ1 => conV G wdX d mX4_make [vR 4] σ1 (fun σ2 => conV G wdX d mX6_cut [vR 6] σ2 (fun σ3 => (∀ τ1, τ1 = sI σ3 9 7 1 → Ret none τ1))))))) : R 0 [vR 9] [] σ := by
  refine r_aload_n hM (pc' := 1) dX9_bringUpToDate_0 rfl (x := 9) rfl ?_
  refine r_getI hM (pc' := 4) dX9_bringUpToDate_1 rfl fl_X9_68 wx_9 rfl ?_
  refine r_if_ne hM (pc' := 7) (tgt := 33) dX9_bringUpToDate_4 rfl (by decide) (fun c => ?_) (fun c => ?_)
  · have h := h.1 c
    exact r_return hM dX9_bringUpToDate_33 rfl h
  · have h := h.2 c
    refine r_aload_n hM (pc' := 8) dX9_bringUpToDate_7 rfl (x := 9) rfl ?_
    refine r_getR hM (pc' := 11) dX9_bringUpToDate_8 rfl fl_X9_28 wx_9 rfl ?_
    refine r_callVV hM (pc' := 14) [] dX9_bringUpToDate_11 rfl ml_X9_210 wx_2 rfl rfl (Nat.le_of_ble_eq_true rfl) (conV.mono h (fun σ1 h => ?_))
    refine r_aload_n hM (pc' := 15) dX9_bringUpToDate_14 rfl (x := 9) rfl ?_
    refine r_getR hM (pc' := 18) dX9_bringUpToDate_15 rfl fl_X9_37 wx_9 rfl ?_
    refine r_callVV hM (pc' := 21) [] dX9_bringUpToDate_18 rfl ml_X9_212 wx_4 rfl rfl (Nat.le_of_ble_eq_true rfl) (conV.mono h (fun σ2 h => ?_))
    refine r_aload_n hM (pc' := 22) dX9_bringUpToDate_21 rfl (x := 9) rfl ?_
    refine r_getR hM (pc' := 25) dX9_bringUpToDate_22 rfl fl_X9_46 wx_9 rfl ?_
    refine r_callVV hM (pc' := 28) [] dX9_bringUpToDate_25 rfl ml_X9_215 wx_6 rfl rfl (Nat.le_of_ble_eq_true rfl) (conV.mono h (fun σ3 h => ?_))
    refine r_aload_n hM (pc' := 29) dX9_bringUpToDate_28 rfl (x := 9) rfl ?_
    refine r_iconst hM (pc' := 30) dX9_bringUpToDate_29 rfl (by decide) ?_
    refine r_putZ hM (pc' := 33) dX9_bringUpToDate_30 rfl fp_X9_68 wx_9 rfl (by decide) (fun τ1 e1 => ?_)
    have h := h τ1 e1
    exact r_return hM dX9_bringUpToDate_33 rfl h
theorem dX9_lowest_0 : decode cX9_lowest 0 = .ok (.iload_n 0, 1) := by decide +kernel
theorem dX9_lowest_1 : decode cX9_lowest 1 = .ok (.iload_n 0, 1) := by decide +kernel
theorem dX9_lowest_2 : decode cX9_lowest 2 = .ok (.ineg, 1) := by decide +kernel
theorem dX9_lowest_3 : decode cX9_lowest 3 = .ok (.iand, 1) := by decide +kernel
theorem dX9_lowest_4 : decode cX9_lowest 4 = .ok (.iconst 1, 1) := by decide +kernel
theorem dX9_lowest_5 : decode cX9_lowest 5 = .ok (.isub, 1) := by decide +kernel
theorem dX9_lowest_6 : decode cX9_lowest 6 = .ok (.invokestatic 218, 3) := by decide +kernel
theorem dX9_lowest_9 : decode cX9_lowest 9 = .ok (.ireturn, 1) := by decide +kernel
set_option maxRecDepth 20000 in
theorem g_X9_lowest_0 {G : GX} {d : Nat} {Ret : Option AV → St → Prop} {R : Nat → List AV → List AV → St → Prop} (hM : AM G wdX (d + 1) mX9_lowest Ret R) (v0 : Int) (σ : St)
    (h : (r32 (-v0) ∧ (r32 ((bAnd v0 (-v0)) - 1) ∧ conI G wdX d mJ6_bitCount_0f7a4 [vI ((bAnd v0 (-v0)) - 1)] σ (fun x1 σ1 => Ret (some (vI x1)) σ1)))) : R 0 [vI v0] [] σ := by
  refine r_iload_n hM (pc' := 1) dX9_lowest_0 rfl (x := v0) rfl ?_
  refine r_iload_n hM (pc' := 2) dX9_lowest_1 rfl (x := v0) rfl ?_
  have o1 := h.1
  have h := h.2
  refine r_ineg hM (pc' := 3) dX9_lowest_2 rfl o1 ?_
  refine r_iand hM (pc' := 4) dX9_lowest_3 rfl ?_
  refine r_iconst hM (pc' := 5) dX9_lowest_4 rfl (by decide) ?_
  have o2 := h.1
  have h := h.2
  refine r_isub hM (pc' := 6) dX9_lowest_5 rfl o2 ?_
  refine r_callSI hM (pc' := 9) [vI ((bAnd v0 (-v0)) - 1)] dX9_lowest_6 rfl ml_X9_218 rfl rfl (Nat.le_of_ble_eq_true rfl) (conI.mono h (fun x1 σ1 h => ?_))
  exact r_ireturn hM dX9_lowest_9 rfl h
theorem dX9_isPlace_0 : decode cX9_isPlace 0 = .ok (.iload_n 0, 1) := by decide +kernel
theorem dX9_isPlace_1 : decode cX9_isPlace 1 = .ok (.ifCond .lt 13, 3) := by decide +kernel
theorem dX9_isPlace_4 : decode cX9_isPlace 4 = .ok (.iload_n 0, 1) := by decide +kernel
theorem dX9_isPlace_5 : decode cX9_isPlace 5 = .ok (.bipush 12, 2) := by decide +kernel
theorem dX9_isPlace_7 : decode cX9_isPlace 7 = .ok (.if_icmp .ge 7, 3) := by decide +kernel
theorem dX9_isPlace_10 : decode cX9_isPlace 10 = .ok (.iconst 1, 1) := by decide +kernel
theorem dX9_isPlace_11 : decode cX9_isPlace 11 = .ok (.goto 4, 3) := by decide +kernel
theorem dX9_isPlace_14 : decode cX9_isPlace 14 = .ok (.iconst 0, 1) := by decide +kernel
theorem dX9_isPlace_15 : decode cX9_isPlace 15 = .ok (.ireturn, 1) := by decide +kernel
set_option maxRecDepth 20000 in
theorem g_X9_isPlace_0 {G : GX} {d : Nat} {Ret : Option AV → St → Prop} {R : Nat → List AV → List AV → St → Prop} (hM : AM G wdX d mX9_isPlace Ret R) (v0 : Int) (σ : St)
    (h : ((v0 < 0 → Ret (some (vI 0)) σ) ∧ (¬ v0 < 0 → ((12 ≤ v0 → Ret (some (vI 0)) σ) ∧ (¬ 12 ≤ v0 → Ret (some (vI 1)) σ))))) : R 0 [vI v0] [] σ := by
  refine r_iload_n hM (pc' := 1) dX9_isPlace_0 rfl (x := v0) rfl ?_
  refine r_if_lt hM (pc' := 4) (tgt := 14) dX9_isPlace_1 rfl (by decide) (fun c => ?_) (fun c => ?_)
  · have h := h.1 c
    refine r_iconst hM (pc' := 15) dX9_isPlace_14 rfl (by decide) ?_
    exact r_zreturn hM dX9_isPlace_15 rfl (by decide) h
  · have h := h.2 c
    refine r_iload_n hM (pc' := 5) dX9_isPlace_4 rfl (x := v0) rfl ?_
    refine r_bipush hM (pc' := 7) dX9_isPlace_5 rfl (by decide) (by decide) ?_
    refine r_icmp_ge hM (pc' := 10) (tgt := 14) dX9_isPlace_7 rfl (by decide) (fun c => ?_) (fun c => ?_)
    · have h := h.1 c
      refine r_iconst hM (pc' := 15) dX9_isPlace_14 rfl (by decide) ?_
      exact r_zreturn hM dX9_isPlace_15 rfl (by decide) h
    · have h := h.2 c
      refine r_iconst hM (pc' := 11) dX9_isPlace_10 rfl (by decide) ?_
      refine r_goto hM (tgt := 15) dX9_isPlace_11 (by decide) ?_
      exact r_zreturn hM dX9_isPlace_15 rfl (by decide) h
theorem dX9_within_0 : decode cX9_within 0 = .ok (.iload_n 0, 1) := by decide +kernel
theorem dX9_within_1 : decode cX9_within 1 = .ok (.iload_n 1, 1) := by decide +kernel
theorem dX9_within_2 : decode cX9_within 2 = .ok (.if_icmp .lt 12, 3) := by decide +kernel
theorem dX9_within_5 : decode cX9_within 5 = .ok (.iload_n 0, 1) := by decide +kernel
theorem dX9_within_6 : decode cX9_within 6 = .ok (.iload_n 2, 1) := by decide +kernel
theorem dX9_within_7 : decode cX9_within 7 = .ok (.if_icmp .gt 7, 3) := by decide +kernel
theorem dX9_within_10 : decode cX9_within 10 = .ok (.iconst 1, 1) := by decide +kernel
theorem dX9_within_11 : decode cX9_within 11 = .ok (.goto 4, 3) := by decide +kernel
theorem dX9_within_14 : decode cX9_within 14 = .ok (.iconst 0, 1) := by decide +kernel
theorem dX9_within_15 : decode cX9_within 15 = .ok (.ireturn, 1) := by decide +kernel
set_option maxRecDepth 20000 in
theorem g_X9_within_0 {G : GX} {d : Nat} {Ret : Option AV → St → Prop} {R : Nat → List AV → List AV → St → Prop} (hM : AM G wdX d mX9_within Ret R) (v0 : Int) (v1 : Int) (v2 : Int) (σ : St)
    (h : ((v0 < v1 → Ret (some (vI 0)) σ) ∧ (¬ v0 < v1 → ((v2 < v0 → Ret (some (vI 0)) σ) ∧ (¬ v2 < v0 → Ret (some (vI 1)) σ))))) : R 0 [vI v0, vI v1, vI v2] [] σ := by
  refine r_iload_n hM (pc' := 1) dX9_within_0 rfl (x := v0) rfl ?_
  refine r_iload_n hM (pc' := 2) dX9_within_1 rfl (x := v1) rfl ?_
  refine r_icmp_lt hM (pc' := 5) (tgt := 14) dX9_within_2 rfl (by decide) (fun c => ?_) (fun c => ?_)
  · have h := h.1 c
    refine r_iconst hM (pc' := 15) dX9_within_14 rfl (by decide) ?_
    exact r_zreturn hM dX9_within_15 rfl (by decide) h
  · have h := h.2 c
    refine r_iload_n hM (pc' := 6) dX9_within_5 rfl (x := v0) rfl ?_
    refine r_iload_n hM (pc' := 7) dX9_within_6 rfl (x := v2) rfl ?_
    refine r_icmp_gt hM (pc' := 10) (tgt := 14) dX9_within_7 rfl (by decide) (fun c => ?_) (fun c => ?_)
    · have h := h.1 c
      refine r_iconst hM (pc' := 15) dX9_within_14 rfl (by decide) ?_
      exact r_zreturn hM dX9_within_15 rfl (by decide) h
    · have h := h.2 c
      refine r_iconst hM (pc' := 11) dX9_within_10 rfl (by decide) ?_
      refine r_goto hM (tgt := 15) dX9_within_11 (by decide) ?_
      exact r_zreturn hM dX9_within_15 rfl (by decide) h
theorem dJ6_bitCount_0f7a4_0 : decode cJ6_bitCount_0f7a4 0 = .ok (.iload_n 0, 1) := by decide +kernel
theorem dJ6_bitCount_0f7a4_1 : decode cJ6_bitCount_0f7a4 1 = .ok (.iload_n 0, 1) := by decide +kernel
theorem dJ6_bitCount_0f7a4_2 : decode cJ6_bitCount_0f7a4 2 = .ok (.iconst 1, 1) := by decide +kernel
theorem dJ6_bitCount_0f7a4_3 : decode cJ6_bitCount_0f7a4 3 = .ok (.iushr, 1) := by decide +kernel
theorem dJ6_bitCount_0f7a4_4 : decode cJ6_bitCount_0f7a4 4 = .ok (.ldc_w 265, 3) := by decide +kernel
theorem dJ6_bitCount_0f7a4_7 : decode cJ6_bitCount_0f7a4 7 = .ok (.iand, 1) := by decide +kernel
theorem dJ6_bitCount_0f7a4_8 : decode cJ6_bitCount_0f7a4 8 = .ok (.isub, 1) := by decide +kernel
theorem dJ6_bitCount_0f7a4_9 : decode cJ6_bitCount_0f7a4 9 = .ok (.istore_n 0, 1) := by decide +kernel
theorem dJ6_bitCount_0f7a4_10 : decode cJ6_bitCount_0f7a4 10 = .ok (.iload_n 0, 1) := by decide +kernel
theorem dJ6_bitCount_0f7a4_11 : decode cJ6_bitCount_0f7a4 11 = .ok (.ldc_w 266, 3) := by decide +kernel
theorem dJ6_bitCount_0f7a4_14 : decode cJ6_bitCount_0f7a4 14 = .ok (.iand, 1) := by decide +kernel
theorem dJ6_bitCount_0f7a4_15 : decode cJ6_bitCount_0f7a4 15 = .ok (.iload_n 0, 1) := by decide +kernel
theorem dJ6_bitCount_0f7a4_16 : decode cJ6_bitCount_0f7a4 16 = .ok (.iconst 2, 1) := by decide +kernel
theorem dJ6_bitCount_0f7a4_17 : decode cJ6_bitCount_0f7a4 17 = .ok (.iushr, 1) := by decide +kernel
theorem dJ6_bitCount_0f7a4_18 : decode cJ6_bitCount_0f7a4 18 = .ok (.ldc_w 266, 3) := by decide +kernel
theorem dJ6_bitCount_0f7a4_21 : decode cJ6_bitCount_0f7a4 21 = .ok (.iand, 1) := by decide +kernel
theorem dJ6_bitCount_0f7a4_22 : decode cJ6_bitCount_0f7a4 22 = .ok (.iadd, 1) := by decide +kernel
theorem dJ6_bitCount_0f7a4_23 : decode cJ6_bitCount_0f7a4 23 = .ok (.istore_n 0, 1) := by decide +kernel
theorem dJ6_bitCount_0f7a4_24 : decode cJ6_bitCount_0f7a4 24 = .ok (.iload_n 0, 1) := by decide +kernel
theorem dJ6_bitCount_0f7a4_25 : decode cJ6_bitCount_0f7a4 25 = .ok (.iload_n 0, 1) := by decide +kernel
theorem dJ6_bitCount_0f7a4_26 : decode cJ6_bitCount_0f7a4 26 = .ok (.iconst 4, 1) := by decide +kernel
theorem dJ6_bitCount_0f7a4_27 : decode cJ6_bitCount_0f7a4 27 = .ok (.iushr, 1) := by decide +kernel
theorem dJ6_bitCount_0f7a4_28 : decode cJ6_bitCount_0f7a4 28 = .ok (.iadd, 1) := by decide +kernel
theorem dJ6_bitCount_0f7a4_29 : decode cJ6_bitCount_0f7a4 29 = .ok (.ldc_w 267, 3) := by decide +kernel
theorem dJ6_bitCount_0f7a4_32 : decode cJ6_bitCount_0f7a4 32 = .ok (.iand, 1) := by decide +kernel
theorem dJ6_bitCount_0f7a4_33 : decode cJ6_bitCount_0f7a4 33 = .ok (.istore_n 0, 1) := by decide +kernel
theorem dJ6_bitCount_0f7a4_34 : decode cJ6_bitCount_0f7a4 34 = .ok (.iload_n 0, 1) := by decide +kernel
theorem dJ6_bitCount_0f7a4_35 : decode cJ6_bitCount_0f7a4 35 = .ok (.iload_n 0, 1) := by decide +kernel
theorem dJ6_bitCount_0f7a4_36 : decode cJ6_bitCount_0f7a4 36 = .ok (.bipush 8, 2) := by decide +kernel
theorem dJ6_bitCount_0f7a4_38 : decode cJ6_bitCount_0f7a4 38 = .ok (.iushr, 1) := by decide +kernel
theorem dJ6_bitCount_0f7a4_39 : decode cJ6_bitCount_0f7a4 39 = .ok (.iadd, 1) := by decide +kernel
theorem dJ6_bitCount_0f7a4_40 : decode cJ6_bitCount_0f7a4 40 = .ok (.istore_n 0, 1) := by decide +kernel
theorem dJ6_bitCount_0f7a4_41 : decode cJ6_bitCount_0f7a4 41 = .ok (.iload_n 0, 1) := by decide +kernel
theorem dJ6_bitCount_0f7a4_42 : decode cJ6_bitCount_0f7a4 42 = .ok (.iload_n 0, 1) := by decide +kernel
theorem dJ6_bitCount_0f7a4_43 : decode cJ6_bitCount_0f7a4 43 = .ok (.bipush 16, 2) := by decide +kernel
theorem dJ6_bitCount_0f7a4_45 : decode cJ6_bitCount_0f7a4 45 = .ok (.iushr, 1) := by decide +kernel
theorem dJ6_bitCount_0f7a4_46 : decode cJ6_bitCount_0f7a4 46 = .ok (.iadd, 1) := by decide +kernel
theorem dJ6_bitCount_0f7a4_47 : decode cJ6_bitCount_0f7a4 47 = .ok (.istore_n 0, 1) := by decide +kernel
theorem dJ6_bitCount_0f7a4_48 : decode cJ6_bitCount_0f7a4 48 = .ok (.iload_n 0, 1) := by decide +kernel
theorem dJ6_bitCount_0f7a4_49 : decode cJ6_bitCount_0f7a4 49 = .ok (.bipush 63, 2) := by decide +kernel
theorem dJ6_bitCount_0f7a4_51 : decode cJ6_bitCount_0f7a4 51 = .ok (.iand, 1) := by decide +kernel
theorem dJ6_bitCount_0f7a4_52 : decode cJ6_bitCount_0f7a4 52 = .ok (.ireturn, 1) := by decide +kernel
set_option maxRecDepth 20000 in
theorem g_J6_bitCount_0f7a4_0 {G : GX} {wd : List CD} {d : Nat} {Ret : Option AV → St → Prop} {R : Nat → List AV → List AV → St → Prop} (hM : AM G wd d mJ6_bitCount_0f7a4 Ret R) (v0 : Int) (σ : St)
    (h : (r32 (v0 - (bAnd (bUsh v0 1) 1431655765)) ∧ (∀ u1, u1 = (v0 - (bAnd (bUsh v0 1) 1431655765)) → (r32 ((bAnd u1 858993459) + (bAnd (bUsh u1 2) 858993459)) ∧ (∀ u2, u2 = ((bAnd u1 858993459) + (bAnd (bUsh u1 2) 858993459)) → (r32 (u2 + (bUsh u2 4)) ∧ (∀ u3, u3 = (bAnd (u2 + (bUsh u2 4)) 252645135) → (r32 (u3 + (bUsh u3 8)) ∧ (r32 ((u3 + (bUsh u3 8)) + (bUsh (u3 + (bUsh u3 8)) 16)) ∧ (∀ u4, u4 = ((u3 + (bUsh u3 8)) + (bUsh (u3 + (bUsh u3 8)) 16)) → Ret (some (vI (bAnd u4 63))) σ)))))))))) : R 0 [vI v0] [] σ := by
  refine r_iload_n hM (pc' := 1) dJ6_bitCount_0f7a4_0 rfl (x := v0) rfl ?_
  refine r_iload_n hM (pc' := 2) dJ6_bitCount_0f7a4_1 rfl (x := v0) rfl ?_
  refine r_iconst hM (pc' := 3) dJ6_bitCount_0f7a4_2 rfl (by decide) ?_
  refine r_iushr hM (pc' := 4) dJ6_bitCount_0f7a4_3 rfl ?_
  refine r_ldc_w hM (pc' := 7) dJ6_bitCount_0f7a4_4 rfl (x := 1431655765) k_J6_265 (by decide) ?_
  refine r_iand hM (pc' := 8) dJ6_bitCount_0f7a4_7 rfl ?_
  have o1 := h.1
  have h := h.2
  refine r_isub hM (pc' := 9) dJ6_bitCount_0f7a4_8 rfl o1 ?_
  refine r_istore_nN hM (pc' := 10) dJ6_bitCount_0f7a4_9 rfl (Nat.le_of_ble_eq_true rfl) rfl (fun u1 eu1 => ?_)
  have h := h u1 eu1
  show R 10 [vI u1] _ _
  refine r_iload_n hM (pc' := 11) dJ6_bitCount_0f7a4_10 rfl (x := u1) rfl ?_
  refine r_ldc_w hM (pc' := 14) dJ6_bitCount_0f7a4_11 rfl (x := 858993459) k_J6_266 (by decide) ?_
  refine r_iand hM (pc' := 15) dJ6_bitCount_0f7a4_14 rfl ?_
  refine r_iload_n hM (pc' := 16) dJ6_bitCount_0f7a4_15 rfl (x := u1) rfl ?_
  refine r_iconst hM (pc' := 17) dJ6_bitCount_0f7a4_16 rfl (by decide) ?_
  refine r_iushr hM (pc' := 18) dJ6_bitCount_0f7a4_17 rfl ?_
  refine r_ldc_w hM (pc' := 21) dJ6_bitCount_0f7a4_18 rfl (x := 858993459) k_J6_266 (by decide) ?_
  refine r_iand hM (pc' := 22) dJ6_bitCount_0f7a4_21 rfl ?_
  have o2 := h.1
  have h := h.2
  refine r_iadd hM (pc' := 23) dJ6_bitCount_0f7a4_22 rfl o2 ?_
  refine r_istore_nN hM (pc' := 24) dJ6_bitCount_0f7a4_23 rfl (Nat.le_of_ble_eq_true rfl) rfl (fun u2 eu2 => ?_)
  have h := h u2 eu2
  show R 24 [vI u2] _ _
  refine r_iload_n hM (pc' := 25) dJ6_bitCount_0f7a4_24 rfl (x := u2) rfl ?_
  refine r_iload_n hM (pc' := 26) dJ6_bitCount_0f7a4_25 rfl (x := u2) rfl ?_
  refine r_iconst hM (pc' := 27) dJ6_bitCount_0f7a4_26 rfl (by decide) ?_
  refine r_iushr hM (pc' := 28) dJ6_bitCount_0f7a4_27 rfl ?_
  have o3 := h.1
  have h := h.2
  refine r_iadd hM (pc' := 29) dJ6_bitCount_0f7a4_28 rfl o3 ?_
  refine r_ldc_w hM (pc' := 32) dJ6_bitCount_0f7a4_29 rfl (x := 252645135) k_J6_267 (by decide) ?_
  refine r_iand hM (pc' := 33) dJ6_bitCount_0f7a4_32 rfl ?_
  refine r_istore_nN hM (pc' := 34) dJ6_bitCount_0f7a4_33 rfl (Nat.le_of_ble_eq_true rfl) rfl (fun u3 eu3 => ?_)
  have h := h u3 eu3
  show R 34 [vI u3] _ _
  refine r_iload_n hM (pc' := 35) dJ6_bitCount_0f7a4_34 rfl (x := u3) rfl ?_
  refine r_iload_n hM (pc' := 36) dJ6_bitCount_0f7a4_35 rfl (x := u3) rfl ?_
  refine r_bipush hM (pc' := 38) dJ6_bitCount_0f7a4_36 rfl (by decide) (by decide) ?_
  refine r_iushr hM (pc' := 39) dJ6_bitCount_0f7a4_38 rfl ?_
  have o4 := h.1
  have h := h.2
  refine r_iadd hM (pc' := 40) dJ6_bitCount_0f7a4_39 rfl o4 ?_
  refine r_istore_n hM (pc' := 41) dJ6_bitCount_0f7a4_40 rfl (Nat.le_of_ble_eq_true rfl) rfl ?_
  show R 41 [vI (u3 + (bUsh u3 8))] _ _
  refine r_iload_n hM (pc' := 42) dJ6_bitCount_0f7a4_41 rfl (x := (u3 + (bUsh u3 8))) rfl ?_
  refine r_iload_n hM (pc' := 43) dJ6_bitCount_0f7a4_42 rfl (x := (u3 + (bUsh u3 8))) rfl ?_
  refine r_bipush hM (pc' := 45) dJ6_bitCount_0f7a4_43 rfl (by decide) (by decide) ?_
  refine r_iushr hM (pc' := 46) dJ6_bitCount_0f7a4_45 rfl ?_
  have o5 := h.1
  have h := h.2
  refine r_iadd hM (pc' := 47) dJ6_bitCount_0f7a4_46 rfl o5 ?_
  refine r_istore_nN hM (pc' := 48) dJ6_bitCount_0f7a4_47 rfl (Nat.le_of_ble_eq_true rfl) rfl (fun u4 eu4 => ?_)
  have h := h u4 eu4
  show R 48 [vI u4] _ _
  refine r_iload_n hM (pc' := 49) dJ6_bitCount_0f7a4_48 rfl (x := u4) rfl ?_
  refine r_bipush hM (pc' := 51) dJ6_bitCount_0f7a4_49 rfl (by decide) (by decide) ?_
  refine r_iand hM (pc' := 52) dJ6_bitCount_0f7a4_51 rfl ?_
  exact r_ireturn hM dJ6_bitCount_0f7a4_52 rfl h
theorem dJ9_max_7cf53_0 : decode cJ9_max_7cf53 0 = .ok (.iload_n 0, 1) := by decide +kernel
theorem dJ9_max_7cf53_1 : decode cJ9_max_7cf53 1 = .ok (.iload_n 1, 1) := by decide +kernel
theorem dJ9_max_7cf53_2 : decode cJ9_max_7cf53 2 = .ok (.if_icmp .lt 7, 3) := by decide +kernel
theorem dJ9_max_7cf53_5 : decode cJ9_max_7cf53 5 = .ok (.iload_n 0, 1) := by decide +kernel
theorem dJ9_max_7cf53_6 : decode cJ9_max_7cf53 6 = .ok (.goto 4, 3) := by decide +kernel
theorem dJ9_max_7cf53_9 : decode cJ9_max_7cf53 9 = .ok (.iload_n 1, 1) := by decide +kernel
theorem dJ9_max_7cf53_10 : decode cJ9_max_7cf53 10 = .ok (.ireturn, 1) := by decide +kernel
set_option maxRecDepth 20000 in
theorem g_J9_max_7cf53_0 {G : GX} {wd : List CD} {d : Nat} {Ret : Option AV → St → Prop} {R : Nat → List AV → List AV → St → Prop} (hM : AM G wd d mJ9_max_7cf53 Ret R) (v0 : Int) (v1 : Int) (σ : St)
    (h : ((v0 < v1 → Ret (some (vI v1)) σ) ∧ (¬ v0 < v1 → Ret (some (vI v0)) σ))) : R 0 [vI v0, vI v1] [] σ := by
  refine r_iload_n hM (pc' := 1) dJ9_max_7cf53_0 rfl (x := v0) rfl ?_
  refine r_iload_n hM (pc' := 2) dJ9_max_7cf53_1 rfl (x := v1) rfl ?_
  refine r_icmp_lt hM (pc' := 5) (tgt := 9) dJ9_max_7cf53_2 rfl (by decide) (fun c => ?_) (fun c => ?_)
  · have h := h.1 c
    refine r_iload_n hM (pc' := 10) dJ9_max_7cf53_9 rfl (x := v1) rfl ?_
    exact r_ireturn hM dJ9_max_7cf53_10 rfl h
  · have h := h.2 c
    refine r_iload_n hM (pc' := 6) dJ9_max_7cf53_5 rfl (x := v0) rfl ?_
    refine r_goto hM (tgt := 10) dJ9_max_7cf53_6 (by decide) ?_
    exact r_ireturn hM dJ9_max_7cf53_10 rfl h
theorem dJ9_min_7cf53_0 : decode cJ9_min_7cf53 0 = .ok (.iload_n 0, 1) := by decide +kernel
theorem dJ9_min_7cf53_1 : decode cJ9_min_7cf53 1 = .ok (.iload_n 1, 1) := by decide +kernel
theorem dJ9_min_7cf53_2 : decode cJ9_min_7cf53 2 = .ok (.if_icmp .gt 7, 3) := by decide +kernel
theorem dJ9_min_7cf53_5 : decode cJ9_min_7cf53 5 = .ok (.iload_n 0, 1) := by decide +kernel
theorem dJ9_min_7cf53_6 : decode cJ9_min_7cf53 6 = .ok (.goto 4, 3) := by decide +kernel
theorem dJ9_min_7cf53_9 : decode cJ9_min_7cf53 9 = .ok (.iload_n 1, 1) := by decide +kernel
theorem dJ9_min_7cf53_10 : decode cJ9_min_7cf53 10 = .ok (.ireturn, 1) := by decide +kernel
set_option maxRecDepth 20000 in
theorem g_J9_min_7cf53_0 {G : GX} {wd : List CD} {d : Nat} {Ret : Option AV → St → Prop} {R : Nat → List AV → List AV → St → Prop} (hM : AM G wd d mJ9_min_7cf53 Ret R) (v0 : Int) (v1 : Int) (σ : St)
    (h : ((v1 < v0 → Ret (some (vI v1)) σ) ∧ (¬ v1 < v0 → Ret (some (vI v0)) σ))) : R 0 [vI v0, vI v1] [] σ := by
  refine r_iload_n hM (pc' := 1) dJ9_min_7cf53_0 rfl (x := v0) rfl ?_
  refine r_iload_n hM (pc' := 2) dJ9_min_7cf53_1 rfl (x := v1) rfl ?_
  refine r_icmp_gt hM (pc' := 5) (tgt := 9) dJ9_min_7cf53_2 rfl (by decide) (fun c => ?_) (fun c => ?_)
  · have h := h.1 c
    refine r_iload_n hM (pc' := 10) dJ9_min_7cf53_9 rfl (x := v1) rfl ?_
    exact r_ireturn hM dJ9_min_7cf53_10 rfl h
  · have h := h.2 c
    refine r_iload_n hM (pc' := 6) dJ9_min_7cf53_5 rfl (x := v0) rfl ?_
    refine r_goto hM (tgt := 10) dJ9_min_7cf53_6 (by decide) ?_
    exact r_ireturn hM dJ9_min_7cf53_10 rfl h
theorem dJ7_fill_d0a16_0 : decode cJ7_fill_d0a16 0 = .ok (.iconst 0, 1) := by decide +kernel
theorem dJ7_fill_d0a16_1 : decode cJ7_fill_d0a16 1 = .ok (.istore_n 3, 1) := by decide +kernel
theorem dJ7_fill_d0a16_2 : decode cJ7_fill_d0a16 2 = .ok (.aload_n 0, 1) := by decide +kernel
theorem dJ7_fill_d0a16_3 : decode cJ7_fill_d0a16 3 = .ok (.arraylength, 1) := by decide +kernel
theorem dJ7_fill_d0a16_4 : decode cJ7_fill_d0a16 4 = .ok (.istore 4, 2) := by decide +kernel
theorem dJ7_fill_d0a16_6 : decode cJ7_fill_d0a16 6 = .ok (.iload_n 3, 1) := by decide +kernel
theorem dJ7_fill_d0a16_7 : decode cJ7_fill_d0a16 7 = .ok (.iload 4, 2) := by decide +kernel
theorem dJ7_fill_d0a16_9 : decode cJ7_fill_d0a16 9 = .ok (.if_icmp .ge 13, 3) := by decide +kernel
theorem dJ7_fill_d0a16_12 : decode cJ7_fill_d0a16 12 = .ok (.aload_n 0, 1) := by decide +kernel
theorem dJ7_fill_d0a16_13 : decode cJ7_fill_d0a16 13 = .ok (.iload_n 3, 1) := by decide +kernel
theorem dJ7_fill_d0a16_14 : decode cJ7_fill_d0a16 14 = .ok (.lload_n 1, 1) := by decide +kernel
theorem dJ7_fill_d0a16_15 : decode cJ7_fill_d0a16 15 = .ok (.lastore, 1) := by decide +kernel
theorem dJ7_fill_d0a16_16 : decode cJ7_fill_d0a16 16 = .ok (.iinc 3 1, 3) := by decide +kernel
theorem dJ7_fill_d0a16_19 : decode cJ7_fill_d0a16 19 = .ok (.goto (-13), 3) := by decide +kernel
theorem dJ7_fill_d0a16_22 : decode cJ7_fill_d0a16 22 = .ok (.return_, 1) := by decide +kernel
set_option maxRecDepth 20000 in
theorem g_J7_fill_d0a16_0 {G : GX} {wd : List CD} {d : Nat} {Ret : Option AV → St → Prop} {R : Nat → List AV → List AV → St → Prop} (hM : AM G wd d mJ7_fill_d0a16 Ret R) (v1 : Int64) {a n : Nat} (ha : wd[a]? = some (.inr (1, n))) (hn : n < 2147483648) (σ : St)
    (h : R 6 [vR a, vL v1, vN, vI 0, vI (n : Int)] [] σ) : R 0 [vR a, vL v1, vN, vN, vN] [] σ := by
  refine r_iconst hM (pc' := 1) dJ7_fill_d0a16_0 rfl (by decide) ?_
  refine r_istore_n hM (pc' := 2) dJ7_fill_d0a16_1 rfl (Nat.le_of_ble_eq_true rfl) rfl ?_
  show R 2 [vR a, vL v1, vN, vI 0, vN] _ _
  refine r_aload_n hM (pc' := 3) dJ7_fill_d0a16_2 rfl (x := a) rfl ?_
  refine r_alenL hM (pc' := 4) dJ7_fill_d0a16_3 rfl ha hn ?_
  refine r_istore hM (pc' := 6) dJ7_fill_d0a16_4 rfl (Nat.le_of_ble_eq_true rfl) rfl ?_
  show R 6 [vR a, vL v1, vN, vI 0, vI (n : Int)] _ _
  exact h
set_option maxRecDepth 20000 in
theorem g_J7_fill_d0a16_6 {G : GX} {wd : List CD} {d : Nat} {Ret : Option AV → St → Prop} {R : Nat → List AV → List AV → St → Prop} (hM : AM G wd d mJ7_fill_d0a16 Ret R) (v1 : Int64) (v3 : Int) (v4 : Int) {a n : Nat} (ha : wd[a]? = some (.inr (1, n))) (hn : n < 2147483648) (σ : St)
    (h : ((v4 ≤ v3 → Ret none σ) ∧ (¬ v4 ≤ v3 → ((0 ≤ v3 ∧ v3 < n) ∧ (∀ τ1, τ1 = sL σ a (v3).toNat v1 → (r32 (v3 + 1) ∧ R 6 [vR a, vL v1, vN, vI (v3 + 1), vI v4] [] τ1)))))) : R 6 [vR a, vL v1, vN, vI v3, vI v4] [] σ := by
  refine r_iload_n hM (pc' := 7) dJ7_fill_d0a16_6 rfl (x := v3) rfl ?_
  refine r_iload hM (pc' := 9) dJ7_fill_d0a16_7 rfl (x := v4) rfl ?_
  refine r_icmp_ge hM (pc' := 12) (tgt := 22) dJ7_fill_d0a16_9 rfl (by decide) (fun c => ?_) (fun c => ?_)
  · have h := h.1 c
    exact r_return hM dJ7_fill_d0a16_22 rfl h
  · have h := h.2 c
    refine r_aload_n hM (pc' := 13) dJ7_fill_d0a16_12 rfl (x := a) rfl ?_
    refine r_iload_n hM (pc' := 14) dJ7_fill_d0a16_13 rfl (x := v3) rfl ?_
    refine r_lload_n hM (pc' := 15) dJ7_fill_d0a16_14 rfl (x := v1) rfl ?_
    have o1 := h.1
    have h := h.2
    refine r_lastore hM (pc' := 16) dJ7_fill_d0a16_15 rfl ha o1 (fun τ1 e1 => ?_)
    have h := h τ1 e1
    have o2 := h.1
    have h := h.2
    refine r_iinc hM (pc' := 19) dJ7_fill_d0a16_16 rfl (x := v3) rfl rfl o2 ?_
    show R 19 [vR a, vL v1, vN, vI (v3 + 1), vI v4] _ _
    refine r_goto hM (tgt := 6) dJ7_fill_d0a16_19 (by decide) ?_
    exact h
theorem dJ7_fill_53178_0 : decode cJ7_fill_53178 0 = .ok (.iconst 0, 1) := by decide +kernel
theorem dJ7_fill_53178_1 : decode cJ7_fill_53178 1 = .ok (.istore_n 2, 1) := by decide +kernel
theorem dJ7_fill_53178_2 : decode cJ7_fill_53178 2 = .ok (.aload_n 0, 1) := by decide +kernel
theorem dJ7_fill_53178_3 : decode cJ7_fill_53178 3 = .ok (.arraylength, 1) := by decide +kernel
theorem dJ7_fill_53178_4 : decode cJ7_fill_53178 4 = .ok (.istore_n 3, 1) := by decide +kernel
theorem dJ7_fill_53178_5 : decode cJ7_fill_53178 5 = .ok (.iload_n 2, 1) := by decide +kernel
theorem dJ7_fill_53178_6 : decode cJ7_fill_53178 6 = .ok (.iload_n 3, 1) := by decide +kernel
theorem dJ7_fill_53178_7 : decode cJ7_fill_53178 7 = .ok (.if_icmp .ge 13, 3) := by decide +kernel
theorem dJ7_fill_53178_10 : decode cJ7_fill_53178 10 = .ok (.aload_n 0, 1) := by decide +kernel
theorem dJ7_fill_53178_11 : decode cJ7_fill_53178 11 = .ok (.iload_n 2, 1) := by decide +kernel
theorem dJ7_fill_53178_12 : decode cJ7_fill_53178 12 = .ok (.iload_n 1, 1) := by decide +kernel
theorem dJ7_fill_53178_13 : decode cJ7_fill_53178 13 = .ok (.iastore, 1) := by decide +kernel
theorem dJ7_fill_53178_14 : decode cJ7_fill_53178 14 = .ok (.iinc 2 1, 3) := by decide +kernel
theorem dJ7_fill_53178_17 : decode cJ7_fill_53178 17 = .ok (.goto (-12), 3) := by decide +kernel
theorem dJ7_fill_53178_20 : decode cJ7_fill_53178 20 = .ok (.return_, 1) := by decide +kernel
set_option maxRecDepth 20000 in
theorem g_J7_fill_53178_0 {G : GX} {wd : List CD} {d : Nat} {Ret : Option AV → St → Prop} {R : Nat → List AV → List AV → St → Prop} (hM : AM G wd d mJ7_fill_53178 Ret R) (v1 : Int) {a n : Nat} (ha : wd[a]? = some (.inr (0, n))) (hn : n < 2147483648) (σ : St)
    (h : R 5 [vR a, vI v1, vI 0, vI (n : Int)] [] σ) : R 0 [vR a, vI v1, vN, vN] [] σ := by
  refine r_iconst hM (pc' := 1) dJ7_fill_53178_0 rfl (by decide) ?_
  refine r_istore_n hM (pc' := 2) dJ7_fill_53178_1 rfl (Nat.le_of_ble_eq_true rfl) rfl ?_
  show R 2 [vR a, vI v1, vI 0, vN] _ _
  refine r_aload_n hM (pc' := 3) dJ7_fill_53178_2 rfl (x := a) rfl ?_
  refine r_alenI hM (pc' := 4) dJ7_fill_53178_3 rfl ha hn ?_
  refine r_istore_n hM (pc' := 5) dJ7_fill_53178_4 rfl (Nat.le_of_ble_eq_true rfl) rfl ?_
  show R 5 [vR a, vI v1, vI 0, vI (n : Int)] _ _
  exact h
set_option maxRecDepth 20000 in
theorem g_J7_fill_53178_5 {G : GX} {wd : List CD} {d : Nat} {Ret : Option AV → St → Prop} {R : Nat → List AV → List AV → St → Prop} (hM : AM G wd d mJ7_fill_53178 Ret R) (v1 : Int) (v2 : Int) (v3 : Int) {a n : Nat} (ha : wd[a]? = some (.inr (0, n))) (hn : n < 2147483648) (σ : St)
    (h : ((v3 ≤ v2 → Ret none σ) ∧ (¬ v3 ≤ v2 → ((0 ≤ v2 ∧ v2 < n) ∧ (∀ τ1, τ1 = sI σ a (v2).toNat v1 → (r32 (v2 + 1) ∧ R 5 [vR a, vI v1, vI (v2 + 1), vI v3] [] τ1)))))) : R 5 [vR a, vI v1, vI v2, vI v3] [] σ := by
  refine r_iload_n hM (pc' := 6) dJ7_fill_53178_5 rfl (x := v2) rfl ?_
  refine r_iload_n hM (pc' := 7) dJ7_fill_53178_6 rfl (x := v3) rfl ?_
  refine r_icmp_ge hM (pc' := 10) (tgt := 20) dJ7_fill_53178_7 rfl (by decide) (fun c => ?_) (fun c => ?_)
  · have h := h.1 c
    exact r_return hM dJ7_fill_53178_20 rfl h
  · have h := h.2 c
    refine r_aload_n hM (pc' := 11) dJ7_fill_53178_10 rfl (x := a) rfl ?_
    refine r_iload_n hM (pc' := 12) dJ7_fill_53178_11 rfl (x := v2) rfl ?_
    refine r_iload_n hM (pc' := 13) dJ7_fill_53178_12 rfl (x := v1) rfl ?_
    have o1 := h.1
    have h := h.2
    refine r_iastore hM (pc' := 14) dJ7_fill_53178_13 rfl ha o1 (fun τ1 e1 => ?_)
    have h := h τ1 e1
    have o2 := h.1
    have h := h.2
    refine r_iinc hM (pc' := 17) dJ7_fill_53178_14 rfl (x := v2) rfl rfl o2 ?_
    show R 17 [vR a, vI v1, vI (v2 + 1), vI v3] _ _
    refine r_goto hM (tgt := 5) dJ7_fill_53178_17 (by decide) ?_
    exact h
