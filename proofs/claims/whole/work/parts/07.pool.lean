/-! places of the classes' pools; constants -/
theorem gdD {w : Cond} (i : Nat) (h : (lw_tbl[i]? == some w && goodWord w) = true) : w ∈ lw_gd := by
  simp only [Bool.and_eq_true, beq_iff_eq] at h
  exact lw_gdI i h.1 h.2
theorem nsD {w : Cond} (i : Nat) (h : (lw_tbl[i]? == some w && lw_isNest w) = true) : w ∈ lw_nest := by
  simp only [Bool.and_eq_true, beq_iff_eq] at h
  exact lw_nestI i h.1 h.2
theorem kb_m21 : (Int8.ofInt (-21)).toInt32 = (-21 : Int32) := by decide
theorem kb_m20 : (Int8.ofInt (-20)).toInt32 = (-20 : Int32) := by decide
theorem kb_m19 : (Int8.ofInt (-19)).toInt32 = (-19 : Int32) := by decide
theorem kb_m4 : (Int8.ofInt (-4)).toInt32 = (-4 : Int32) := by decide
theorem kb_m2 : (Int8.ofInt (-2)).toInt32 = (-2 : Int32) := by decide
theorem kb_6 : (Int8.ofInt (6)).toInt32 = (6 : Int32) := by decide
theorem kb_7 : (Int8.ofInt (7)).toInt32 = (7 : Int32) := by decide
theorem kb_8 : (Int8.ofInt (8)).toInt32 = (8 : Int32) := by decide
theorem kb_9 : (Int8.ofInt (9)).toInt32 = (9 : Int32) := by decide
theorem kb_10 : (Int8.ofInt (10)).toInt32 = (10 : Int32) := by decide
theorem kb_11 : (Int8.ofInt (11)).toInt32 = (11 : Int32) := by decide
theorem kb_12 : (Int8.ofInt (12)).toInt32 = (12 : Int32) := by decide
theorem kb_13 : (Int8.ofInt (13)).toInt32 = (13 : Int32) := by decide
theorem kb_14 : (Int8.ofInt (14)).toInt32 = (14 : Int32) := by decide
theorem kb_15 : (Int8.ofInt (15)).toInt32 = (15 : Int32) := by decide
theorem kb_16 : (Int8.ofInt (16)).toInt32 = (16 : Int32) := by decide
theorem kb_17 : (Int8.ofInt (17)).toInt32 = (17 : Int32) := by decide
theorem kb_18 : (Int8.ofInt (18)).toInt32 = (18 : Int32) := by decide
theorem kb_19 : (Int8.ofInt (19)).toInt32 = (19 : Int32) := by decide
theorem kb_20 : (Int8.ofInt (20)).toInt32 = (20 : Int32) := by decide
theorem kb_21 : (Int8.ofInt (21)).toInt32 = (21 : Int32) := by decide
theorem kb_22 : (Int8.ofInt (22)).toInt32 = (22 : Int32) := by decide
theorem kb_23 : (Int8.ofInt (23)).toInt32 = (23 : Int32) := by decide
theorem kb_24 : (Int8.ofInt (24)).toInt32 = (24 : Int32) := by decide
theorem kb_25 : (Int8.ofInt (25)).toInt32 = (25 : Int32) := by decide
theorem kb_26 : (Int8.ofInt (26)).toInt32 = (26 : Int32) := by decide
theorem kb_27 : (Int8.ofInt (27)).toInt32 = (27 : Int32) := by decide
theorem kb_28 : (Int8.ofInt (28)).toInt32 = (28 : Int32) := by decide
theorem kb_29 : (Int8.ofInt (29)).toInt32 = (29 : Int32) := by decide
theorem kb_30 : (Int8.ofInt (30)).toInt32 = (30 : Int32) := by decide
theorem kb_31 : (Int8.ofInt (31)).toInt32 = (31 : Int32) := by decide
theorem kb_32 : (Int8.ofInt (32)).toInt32 = (32 : Int32) := by decide
theorem kb_33 : (Int8.ofInt (33)).toInt32 = (33 : Int32) := by decide
theorem kb_34 : (Int8.ofInt (34)).toInt32 = (34 : Int32) := by decide
theorem kb_35 : (Int8.ofInt (35)).toInt32 = (35 : Int32) := by decide
theorem kb_40 : (Int8.ofInt (40)).toInt32 = (40 : Int32) := by decide
theorem kb_42 : (Int8.ofInt (42)).toInt32 = (42 : Int32) := by decide
theorem kb_43 : (Int8.ofInt (43)).toInt32 = (43 : Int32) := by decide
theorem kb_45 : (Int8.ofInt (45)).toInt32 = (45 : Int32) := by decide
theorem kb_47 : (Int8.ofInt (47)).toInt32 = (47 : Int32) := by decide
theorem kb_48 : (Int8.ofInt (48)).toInt32 = (48 : Int32) := by decide
theorem kb_57 : (Int8.ofInt (57)).toInt32 = (57 : Int32) := by decide
theorem kb_59 : (Int8.ofInt (59)).toInt32 = (59 : Int32) := by decide
theorem kb_60 : (Int8.ofInt (60)).toInt32 = (60 : Int32) := by decide
theorem kb_61 : (Int8.ofInt (61)).toInt32 = (61 : Int32) := by decide
theorem kb_62 : (Int8.ofInt (62)).toInt32 = (62 : Int32) := by decide
theorem kb_63 : (Int8.ofInt (63)).toInt32 = (63 : Int32) := by decide
theorem kb_64 : (Int8.ofInt (64)).toInt32 = (64 : Int32) := by decide
theorem kb_70 : (Int8.ofInt (70)).toInt32 = (70 : Int32) := by decide
theorem kb_91 : (Int8.ofInt (91)).toInt32 = (91 : Int32) := by decide
theorem kb_93 : (Int8.ofInt (93)).toInt32 = (93 : Int32) := by decide
theorem kb_97 : (Int8.ofInt (97)).toInt32 = (97 : Int32) := by decide
theorem kb_99 : (Int8.ofInt (99)).toInt32 = (99 : Int32) := by decide
theorem kb_100 : (Int8.ofInt (100)).toInt32 = (100 : Int32) := by decide
theorem kb_122 : (Int8.ofInt (122)).toInt32 = (122 : Int32) := by decide
theorem ki_m1 : Int32.ofInt (-1) = (-1 : Int32) := by decide
theorem ki_0 : Int32.ofInt (0) = (0 : Int32) := by decide
theorem ki_1 : Int32.ofInt (1) = (1 : Int32) := by decide
theorem ki_2 : Int32.ofInt (2) = (2 : Int32) := by decide
theorem ki_3 : Int32.ofInt (3) = (3 : Int32) := by decide
theorem ki_4 : Int32.ofInt (4) = (4 : Int32) := by decide
theorem ki_5 : Int32.ofInt (5) = (5 : Int32) := by decide
theorem kl_0 : Int64.ofNat ((0 : Fin 2) : Nat) = (0 : Int64) := by decide
theorem kl_1 : Int64.ofNat ((1 : Fin 2) : Nat) = (1 : Int64) := by decide
theorem ks_144 : (Int16.ofInt (144)).toInt32 = (144 : Int32) := by decide
theorem ks_255 : (Int16.ofInt (255)).toInt32 = (255 : Int32) := by decide
theorem ks_380 : (Int16.ofInt (380)).toInt32 = (380 : Int32) := by decide
theorem ks_399 : (Int16.ofInt (399)).toInt32 = (399 : Int32) := by decide
theorem ks_400 : (Int16.ofInt (400)).toInt32 = (400 : Int32) := by decide
theorem ks_401 : (Int16.ofInt (401)).toInt32 = (401 : Int32) := by decide
theorem ks_410 : (Int16.ofInt (410)).toInt32 = (410 : Int32) := by decide
theorem ks_422 : (Int16.ofInt (422)).toInt32 = (422 : Int32) := by decide
theorem ks_560 : (Int16.ofInt (560)).toInt32 = (560 : Int32) := by decide
theorem ks_566 : (Int16.ofInt (566)).toInt32 = (566 : Int32) := by decide
theorem ks_726 : (Int16.ofInt (726)).toInt32 = (726 : Int32) := by decide
theorem ks_900 : (Int16.ofInt (900)).toInt32 = (900 : Int32) := by decide
theorem ks_999 : (Int16.ofInt (999)).toInt32 = (999 : Int32) := by decide
theorem ks_1000 : (Int16.ofInt (1000)).toInt32 = (1000 : Int32) := by decide
theorem ks_2048 : (Int16.ofInt (2048)).toInt32 = (2048 : Int32) := by decide
theorem ks_3200 : (Int16.ofInt (3200)).toInt32 = (3200 : Int32) := by decide
theorem ks_3926 : (Int16.ofInt (3926)).toInt32 = (3926 : Int32) := by decide
theorem ks_4096 : (Int16.ofInt (4096)).toInt32 = (4096 : Int32) := by decide
theorem ks_7926 : (Int16.ofInt (7926)).toInt32 = (7926 : Int32) := by decide
theorem ks_8426 : (Int16.ofInt (8426)).toInt32 = (8426 : Int32) := by decide
theorem ks_8726 : (Int16.ofInt (8726)).toInt32 = (8726 : Int32) := by decide
theorem ks_8918 : (Int16.ofInt (8918)).toInt32 = (8918 : Int32) := by decide
theorem ks_9999 : (Int16.ofInt (9999)).toInt32 = (9999 : Int32) := by decide
theorem mok_Fp_init : MOK k_Fp_init := ⟨(lw_gdI 116 (by decide +kernel) rfl), (lw_gdI 92 (by decide +kernel) rfl), ⟨by decide +kernel, by decide +kernel⟩, by decide +kernel⟩
theorem mok_Re_init : MOK k_Re_init := ⟨(lw_gdI 126 (by decide +kernel) rfl), (lw_gdI 93 (by decide +kernel) rfl), ⟨by decide +kernel, by decide +kernel⟩, by decide +kernel⟩
theorem mok_La_init : MOK k_La_init := ⟨(lw_gdI 132 (by decide +kernel) rfl), (lw_gdI 94 (by decide +kernel) rfl), ⟨by decide +kernel, by decide +kernel⟩, by decide +kernel⟩
theorem mok_Fa_init : MOK k_Fa_init := ⟨(lw_gdI 198 (by decide +kernel) rfl), (lw_gdI 95 (by decide +kernel) rfl), ⟨by decide +kernel, by decide +kernel⟩, by decide +kernel⟩
theorem mok_Rp_init : MOK k_Rp_init := ⟨(lw_gdI 212 (by decide +kernel) rfl), (lw_gdI 96 (by decide +kernel) rfl), ⟨by decide +kernel, by decide +kernel⟩, by decide +kernel⟩
theorem mok_Ro_init : MOK k_Ro_init := ⟨(lw_gdI 225 (by decide +kernel) rfl), (lw_gdI 97 (by decide +kernel) rfl), ⟨by decide +kernel, by decide +kernel⟩, by decide +kernel⟩
theorem mok_Cr_init : MOK k_Cr_init := ⟨(lw_gdI 235 (by decide +kernel) rfl), (lw_gdI 98 (by decide +kernel) rfl), ⟨by decide +kernel, by decide +kernel⟩, by decide +kernel⟩
theorem mok_To_init : MOK k_To_init := ⟨(lw_gdI 251 (by decide +kernel) rfl), (lw_gdI 99 (by decide +kernel) rfl), ⟨by decide +kernel, by decide +kernel⟩, by decide +kernel⟩
theorem mok_Di_init : MOK k_Di_init := ⟨(lw_gdI 259 (by decide +kernel) rfl), (lw_gdI 100 (by decide +kernel) rfl), ⟨by decide +kernel, by decide +kernel⟩, by decide +kernel⟩
theorem mok_Po_init : MOK k_Po_init := ⟨(lw_gdI 322 (by decide +kernel) rfl), (lw_gdI 101 (by decide +kernel) rfl), ⟨by decide +kernel, by decide +kernel⟩, by decide +kernel⟩
theorem mok_Ar_fill_II : MOK k_Ar_fill_II := ⟨(lw_gdI 365 (by decide +kernel) rfl), (lw_gdI 102 (by decide +kernel) rfl), ⟨by decide +kernel, by decide +kernel⟩, by decide +kernel⟩
theorem mok_Bo_init : MOK k_Bo_init := ⟨(lw_gdI 369 (by decide +kernel) rfl), (lw_gdI 103 (by decide +kernel) rfl), ⟨by decide +kernel, by decide +kernel⟩, by decide +kernel⟩
theorem mok_Fp_place : MOK k_Fp_place := ⟨(lw_gdI 509 (by decide +kernel) rfl), (lw_gdI 92 (by decide +kernel) rfl), ⟨by decide +kernel, by decide +kernel⟩, by decide +kernel⟩
theorem mok_Fp_within : MOK k_Fp_within := ⟨(lw_gdI 512 (by decide +kernel) rfl), (lw_gdI 92 (by decide +kernel) rfl), ⟨by decide +kernel, by decide +kernel⟩, by decide +kernel⟩
theorem mok_Fp_put : MOK k_Fp_put := ⟨(lw_gdI 515 (by decide +kernel) rfl), (lw_gdI 92 (by decide +kernel) rfl), ⟨by decide +kernel, by decide +kernel⟩, by decide +kernel⟩
theorem mok_Fp_miles : MOK k_Fp_miles := ⟨(lw_gdI 519 (by decide +kernel) rfl), (lw_gdI 92 (by decide +kernel) rfl), ⟨by decide +kernel, by decide +kernel⟩, by decide +kernel⟩
theorem mok_To_hasPlace : MOK k_To_hasPlace := ⟨(lw_gdI 523 (by decide +kernel) rfl), (lw_gdI 99 (by decide +kernel) rfl), ⟨by decide +kernel, by decide +kernel⟩, by decide +kernel⟩
theorem mok_To_between : MOK k_To_between := ⟨(lw_gdI 527 (by decide +kernel) rfl), (lw_gdI 99 (by decide +kernel) rfl), ⟨by decide +kernel, by decide +kernel⟩, by decide +kernel⟩
theorem mok_Fp_get : MOK k_Fp_get := ⟨(lw_gdI 530 (by decide +kernel) rfl), (lw_gdI 92 (by decide +kernel) rfl), ⟨by decide +kernel, by decide +kernel⟩, by decide +kernel⟩
theorem mok_Fp_heat : MOK k_Fp_heat := ⟨(lw_gdI 534 (by decide +kernel) rfl), (lw_gdI 92 (by decide +kernel) rfl), ⟨by decide +kernel, by decide +kernel⟩, by decide +kernel⟩
theorem mok_Fp_isDay : MOK k_Fp_isDay := ⟨(lw_gdI 537 (by decide +kernel) rfl), (lw_gdI 92 (by decide +kernel) rfl), ⟨by decide +kernel, by decide +kernel⟩, by decide +kernel⟩
theorem mok_Fp_feed : MOK k_Fp_feed := ⟨(lw_gdI 542 (by decide +kernel) rfl), (lw_gdI 92 (by decide +kernel) rfl), ⟨by decide +kernel, by decide +kernel⟩, by decide +kernel⟩
theorem mok_Fp_append : MOK k_Fp_append := ⟨(lw_gdI 546 (by decide +kernel) rfl), (lw_gdI 92 (by decide +kernel) rfl), ⟨by decide +kernel, by decide +kernel⟩, by decide +kernel⟩
theorem mok_Fp_end : MOK k_Fp_end := ⟨(lw_gdI 550 (by decide +kernel) rfl), (lw_gdI 92 (by decide +kernel) rfl), ⟨by decide +kernel, by decide +kernel⟩, by decide +kernel⟩
theorem mok_Fp_law : MOK k_Fp_law := ⟨(lw_gdI 554 (by decide +kernel) rfl), (lw_gdI 92 (by decide +kernel) rfl), ⟨by decide +kernel, by decide +kernel⟩, by decide +kernel⟩
theorem mok_Re_read : MOK k_Re_read := ⟨(lw_gdI 558 (by decide +kernel) rfl), (lw_gdI 93 (by decide +kernel) rfl), ⟨by decide +kernel, by decide +kernel⟩, by decide +kernel⟩
theorem mok_Re_scan : MOK k_Re_scan := ⟨(lw_gdI 562 (by decide +kernel) rfl), (lw_gdI 93 (by decide +kernel) rfl), ⟨by decide +kernel, by decide +kernel⟩, by decide +kernel⟩
theorem mok_Re_isDigit : MOK k_Re_isDigit := ⟨(lw_gdI 566 (by decide +kernel) rfl), (lw_gdI 93 (by decide +kernel) rfl), ⟨by decide +kernel, by decide +kernel⟩, by decide +kernel⟩
theorem mok_Re_runOf : MOK k_Re_runOf := ⟨(lw_gdI 570 (by decide +kernel) rfl), (lw_gdI 93 (by decide +kernel) rfl), ⟨by decide +kernel, by decide +kernel⟩, by decide +kernel⟩
theorem mok_Re_numberIn : MOK k_Re_numberIn := ⟨(lw_gdI 573 (by decide +kernel) rfl), (lw_gdI 93 (by decide +kernel) rfl), ⟨by decide +kernel, by decide +kernel⟩, by decide +kernel⟩
theorem mok_Re_addToken : MOK k_Re_addToken := ⟨(lw_gdI 577 (by decide +kernel) rfl), (lw_gdI 93 (by decide +kernel) rfl), ⟨by decide +kernel, by decide +kernel⟩, by decide +kernel⟩
theorem mok_Re_isLetter : MOK k_Re_isLetter := ⟨(lw_gdI 581 (by decide +kernel) rfl), (lw_gdI 93 (by decide +kernel) rfl), ⟨by decide +kernel, by decide +kernel⟩, by decide +kernel⟩
theorem mok_Re_wordIn : MOK k_Re_wordIn := ⟨(lw_gdI 584 (by decide +kernel) rfl), (lw_gdI 93 (by decide +kernel) rfl), ⟨by decide +kernel, by decide +kernel⟩, by decide +kernel⟩
theorem mok_St_length : MOK k_St_length := ⟨(lw_gdI 589 (by decide +kernel) rfl), (lw_gdI 105 (by decide +kernel) rfl), ⟨by decide +kernel, by decide +kernel⟩, by decide +kernel⟩
theorem mok_St_coder : MOK k_St_coder := ⟨(lw_gdI 593 (by decide +kernel) rfl), (lw_gdI 105 (by decide +kernel) rfl), ⟨by decide +kernel, by decide +kernel⟩, by decide +kernel⟩
theorem mok_St_charAt : MOK k_St_charAt := ⟨(lw_gdI 599 (by decide +kernel) rfl), (lw_gdI 105 (by decide +kernel) rfl), ⟨by decide +kernel, by decide +kernel⟩, by decide +kernel⟩
theorem mok_St_isLatin1 : MOK k_St_isLatin1 := ⟨(lw_gdI 603 (by decide +kernel) rfl), (lw_gdI 105 (by decide +kernel) rfl), ⟨by decide +kernel, by decide +kernel⟩, by decide +kernel⟩
theorem mok_S1_charAt : MOK k_S1_charAt := ⟨(lw_gdI 606 (by decide +kernel) rfl), (lw_gdI 106 (by decide +kernel) rfl), ⟨by decide +kernel, by decide +kernel⟩, by decide +kernel⟩
theorem mok_St_checkIndex : MOK k_St_checkIndex := ⟨(lw_gdI 609 (by decide +kernel) rfl), (lw_gdI 105 (by decide +kernel) rfl), ⟨by decide +kernel, by decide +kernel⟩, by decide +kernel⟩
theorem mok_Pr_checkIndex : MOK k_Pr_checkIndex := ⟨(lw_gdI 614 (by decide +kernel) rfl), (lw_gdI 107 (by decide +kernel) rfl), ⟨by decide +kernel, by decide +kernel⟩, by decide +kernel⟩
theorem mok_S2_charAt : MOK k_S2_charAt := ⟨(lw_gdI 617 (by decide +kernel) rfl), (lw_gdI 108 (by decide +kernel) rfl), ⟨by decide +kernel, by decide +kernel⟩, by decide +kernel⟩
theorem mok_S2_checkIndex : MOK k_S2_checkIndex := ⟨(lw_gdI 620 (by decide +kernel) rfl), (lw_gdI 108 (by decide +kernel) rfl), ⟨by decide +kernel, by decide +kernel⟩, by decide +kernel⟩
theorem mok_S2_length : MOK k_S2_length := ⟨(lw_gdI 623 (by decide +kernel) rfl), (lw_gdI 108 (by decide +kernel) rfl), ⟨by decide +kernel, by decide +kernel⟩, by decide +kernel⟩
theorem mok_S2_getChar : MOK k_S2_getChar := ⟨(lw_gdI 627 (by decide +kernel) rfl), (lw_gdI 108 (by decide +kernel) rfl), ⟨by decide +kernel, by decide +kernel⟩, by decide +kernel⟩
theorem mok_Re_isWordAt : MOK k_Re_isWordAt := ⟨(lw_gdI 636 (by decide +kernel) rfl), (lw_gdI 93 (by decide +kernel) rfl), ⟨by decide +kernel, by decide +kernel⟩, by decide +kernel⟩
theorem mok_Re_signToken : MOK k_Re_signToken := ⟨(lw_gdI 639 (by decide +kernel) rfl), (lw_gdI 93 (by decide +kernel) rfl), ⟨by decide +kernel, by decide +kernel⟩, by decide +kernel⟩
theorem mok_La_clear : MOK k_La_clear := ⟨(lw_gdI 646 (by decide +kernel) rfl), (lw_gdI 94 (by decide +kernel) rfl), ⟨by decide +kernel, by decide +kernel⟩, by decide +kernel⟩
theorem mok_Re_step : MOK k_Re_step := ⟨(lw_gdI 651 (by decide +kernel) rfl), (lw_gdI 93 (by decide +kernel) rfl), ⟨by decide +kernel, by decide +kernel⟩, by decide +kernel⟩
theorem mok_Re_readClause : MOK k_Re_readClause := ⟨(lw_gdI 655 (by decide +kernel) rfl), (lw_gdI 93 (by decide +kernel) rfl), ⟨by decide +kernel, by decide +kernel⟩, by decide +kernel⟩
theorem mok_Re_fail : MOK k_Re_fail := ⟨(lw_gdI 659 (by decide +kernel) rfl), (lw_gdI 93 (by decide +kernel) rfl), ⟨by decide +kernel, by decide +kernel⟩, by decide +kernel⟩
theorem mok_La_beginClause : MOK k_La_beginClause := ⟨(lw_gdI 663 (by decide +kernel) rfl), (lw_gdI 94 (by decide +kernel) rfl), ⟨by decide +kernel, by decide +kernel⟩, by decide +kernel⟩
theorem mok_Re_readBath : MOK k_Re_readBath := ⟨(lw_gdI 668 (by decide +kernel) rfl), (lw_gdI 93 (by decide +kernel) rfl), ⟨by decide +kernel, by decide +kernel⟩, by decide +kernel⟩
theorem mok_Re_numberHere : MOK k_Re_numberHere := ⟨(lw_gdI 672 (by decide +kernel) rfl), (lw_gdI 93 (by decide +kernel) rfl), ⟨by decide +kernel, by decide +kernel⟩, by decide +kernel⟩
theorem mok_Re_readWeak : MOK k_Re_readWeak := ⟨(lw_gdI 676 (by decide +kernel) rfl), (lw_gdI 93 (by decide +kernel) rfl), ⟨by decide +kernel, by decide +kernel⟩, by decide +kernel⟩
theorem mok_Re_readSum : MOK k_Re_readSum := ⟨(lw_gdI 680 (by decide +kernel) rfl), (lw_gdI 93 (by decide +kernel) rfl), ⟨by decide +kernel, by decide +kernel⟩, by decide +kernel⟩
theorem mok_Re_readValue : MOK k_Re_readValue := ⟨(lw_gdI 684 (by decide +kernel) rfl), (lw_gdI 93 (by decide +kernel) rfl), ⟨by decide +kernel, by decide +kernel⟩, by decide +kernel⟩
theorem mok_La_emit : MOK k_La_emit := ⟨(lw_gdI 688 (by decide +kernel) rfl), (lw_gdI 94 (by decide +kernel) rfl), ⟨by decide +kernel, by decide +kernel⟩, by decide +kernel⟩
theorem mok_La_endSum : MOK k_La_endSum := ⟨(lw_gdI 692 (by decide +kernel) rfl), (lw_gdI 94 (by decide +kernel) rfl), ⟨by decide +kernel, by decide +kernel⟩, by decide +kernel⟩
theorem mok_Re_readTest : MOK k_Re_readTest := ⟨(lw_gdI 696 (by decide +kernel) rfl), (lw_gdI 93 (by decide +kernel) rfl), ⟨by decide +kernel, by decide +kernel⟩, by decide +kernel⟩
theorem mok_Re_readFact : MOK k_Re_readFact := ⟨(lw_gdI 700 (by decide +kernel) rfl), (lw_gdI 93 (by decide +kernel) rfl), ⟨by decide +kernel, by decide +kernel⟩, by decide +kernel⟩
theorem mok_La_endClause : MOK k_La_endClause := ⟨(lw_gdI 704 (by decide +kernel) rfl), (lw_gdI 94 (by decide +kernel) rfl), ⟨by decide +kernel, by decide +kernel⟩, by decide +kernel⟩
theorem mok_Fp_booth : MOK k_Fp_booth := ⟨(lw_gdI 709 (by decide +kernel) rfl), (lw_gdI 92 (by decide +kernel) rfl), ⟨by decide +kernel, by decide +kernel⟩, by decide +kernel⟩
theorem mok_To_slot : MOK k_To_slot := ⟨(lw_gdI 713 (by decide +kernel) rfl), (lw_gdI 99 (by decide +kernel) rfl), ⟨by decide +kernel, by decide +kernel⟩, by decide +kernel⟩
theorem mok_To_isFree : MOK k_To_isFree := ⟨(lw_gdI 717 (by decide +kernel) rfl), (lw_gdI 99 (by decide +kernel) rfl), ⟨by decide +kernel, by decide +kernel⟩, by decide +kernel⟩
theorem mok_Fp_lawAt : MOK k_Fp_lawAt := ⟨(lw_gdI 723 (by decide +kernel) rfl), (lw_gdI 92 (by decide +kernel) rfl), ⟨by decide +kernel, by decide +kernel⟩, by decide +kernel⟩
theorem mok_Bo_begin : MOK k_Bo_begin := ⟨(lw_gdI 727 (by decide +kernel) rfl), (lw_gdI 103 (by decide +kernel) rfl), ⟨by decide +kernel, by decide +kernel⟩, by decide +kernel⟩
theorem mok_Fp_move : MOK k_Fp_move := ⟨(lw_gdI 732 (by decide +kernel) rfl), (lw_gdI 92 (by decide +kernel) rfl), ⟨by decide +kernel, by decide +kernel⟩, by decide +kernel⟩
theorem mok_To_boothAt : MOK k_To_boothAt := ⟨(lw_gdI 736 (by decide +kernel) rfl), (lw_gdI 99 (by decide +kernel) rfl), ⟨by decide +kernel, by decide +kernel⟩, by decide +kernel⟩
theorem mok_Fp_paper : MOK k_Fp_paper := ⟨(lw_gdI 740 (by decide +kernel) rfl), (lw_gdI 92 (by decide +kernel) rfl), ⟨by decide +kernel, by decide +kernel⟩, by decide +kernel⟩
theorem mok_Fp_strip : MOK k_Fp_strip := ⟨(lw_gdI 744 (by decide +kernel) rfl), (lw_gdI 92 (by decide +kernel) rfl), ⟨by decide +kernel, by decide +kernel⟩, by decide +kernel⟩
theorem mok_Fa_open : MOK k_Fa_open := ⟨(lw_gdI 748 (by decide +kernel) rfl), (lw_gdI 95 (by decide +kernel) rfl), ⟨by decide +kernel, by decide +kernel⟩, by decide +kernel⟩
theorem mok_Ar_fill_JJ : MOK k_Ar_fill_JJ := ⟨(lw_gdI 751 (by decide +kernel) rfl), (lw_gdI 102 (by decide +kernel) rfl), ⟨by decide +kernel, by decide +kernel⟩, by decide +kernel⟩
theorem mok_Fa_tell : MOK k_Fa_tell := ⟨(lw_gdI 755 (by decide +kernel) rfl), (lw_gdI 95 (by decide +kernel) rfl), ⟨by decide +kernel, by decide +kernel⟩, by decide +kernel⟩
theorem mok_Fa_pose : MOK k_Fa_pose := ⟨(lw_gdI 760 (by decide +kernel) rfl), (lw_gdI 95 (by decide +kernel) rfl), ⟨by decide +kernel, by decide +kernel⟩, by decide +kernel⟩
theorem mok_Fa_till : MOK k_Fa_till := ⟨(lw_gdI 764 (by decide +kernel) rfl), (lw_gdI 95 (by decide +kernel) rfl), ⟨by decide +kernel, by decide +kernel⟩, by decide +kernel⟩
theorem mok_La_spoiler : MOK k_La_spoiler := ⟨(lw_gdI 768 (by decide +kernel) rfl), (lw_gdI 94 (by decide +kernel) rfl), ⟨by decide +kernel, by decide +kernel⟩, by decide +kernel⟩
theorem mok_La_isWeak : MOK k_La_isWeak := ⟨(lw_gdI 773 (by decide +kernel) rfl), (lw_gdI 94 (by decide +kernel) rfl), ⟨by decide +kernel, by decide +kernel⟩, by decide +kernel⟩
theorem mok_La_spoilerBesideBaths : MOK k_La_spoilerBesideBaths := ⟨(lw_gdI 777 (by decide +kernel) rfl), (lw_gdI 94 (by decide +kernel) rfl), ⟨by decide +kernel, by decide +kernel⟩, by decide +kernel⟩
theorem mok_La_holds : MOK k_La_holds := ⟨(lw_gdI 781 (by decide +kernel) rfl), (lw_gdI 94 (by decide +kernel) rfl), ⟨by decide +kernel, by decide +kernel⟩, by decide +kernel⟩
theorem mok_La_run : MOK k_La_run := ⟨(lw_gdI 785 (by decide +kernel) rfl), (lw_gdI 94 (by decide +kernel) rfl), ⟨by decide +kernel, by decide +kernel⟩, by decide +kernel⟩
theorem mok_Fa_push : MOK k_Fa_push := ⟨(lw_gdI 789 (by decide +kernel) rfl), (lw_gdI 95 (by decide +kernel) rfl), ⟨by decide +kernel, by decide +kernel⟩, by decide +kernel⟩
theorem mok_Fa_meaning : MOK k_Fa_meaning := ⟨(lw_gdI 793 (by decide +kernel) rfl), (lw_gdI 95 (by decide +kernel) rfl), ⟨by decide +kernel, by decide +kernel⟩, by decide +kernel⟩
theorem mok_Fa_flip : MOK k_Fa_flip := ⟨(lw_gdI 797 (by decide +kernel) rfl), (lw_gdI 95 (by decide +kernel) rfl), ⟨by decide +kernel, by decide +kernel⟩, by decide +kernel⟩
theorem mok_Fa_join : MOK k_Fa_join := ⟨(lw_gdI 801 (by decide +kernel) rfl), (lw_gdI 95 (by decide +kernel) rfl), ⟨by decide +kernel, by decide +kernel⟩, by decide +kernel⟩
theorem mok_Fa_result : MOK k_Fa_result := ⟨(lw_gdI 805 (by decide +kernel) rfl), (lw_gdI 95 (by decide +kernel) rfl), ⟨by decide +kernel, by decide +kernel⟩, by decide +kernel⟩
theorem mok_La_wear : MOK k_La_wear := ⟨(lw_gdI 809 (by decide +kernel) rfl), (lw_gdI 94 (by decide +kernel) rfl), ⟨by decide +kernel, by decide +kernel⟩, by decide +kernel⟩
theorem mok_La_worn : MOK k_La_worn := ⟨(lw_gdI 813 (by decide +kernel) rfl), (lw_gdI 94 (by decide +kernel) rfl), ⟨by decide +kernel, by decide +kernel⟩, by decide +kernel⟩
theorem mok_La_total : MOK k_La_total := ⟨(lw_gdI 818 (by decide +kernel) rfl), (lw_gdI 94 (by decide +kernel) rfl), ⟨by decide +kernel, by decide +kernel⟩, by decide +kernel⟩
theorem mok_Fp_held : MOK k_Fp_held := ⟨(lw_gdI 822 (by decide +kernel) rfl), (lw_gdI 92 (by decide +kernel) rfl), ⟨by decide +kernel, by decide +kernel⟩, by decide +kernel⟩
theorem mok_Di_addStrip : MOK k_Di_addStrip := ⟨(lw_gdI 833 (by decide +kernel) rfl), (lw_gdI 100 (by decide +kernel) rfl), ⟨by decide +kernel, by decide +kernel⟩, by decide +kernel⟩
theorem mok_Di_addEvent : MOK k_Di_addEvent := ⟨(lw_gdI 838 (by decide +kernel) rfl), (lw_gdI 100 (by decide +kernel) rfl), ⟨by decide +kernel, by decide +kernel⟩, by decide +kernel⟩
theorem mok_Di_tellStrip : MOK k_Di_tellStrip := ⟨(lw_gdI 842 (by decide +kernel) rfl), (lw_gdI 100 (by decide +kernel) rfl), ⟨by decide +kernel, by decide +kernel⟩, by decide +kernel⟩
theorem mok_Fp_clock : MOK k_Fp_clock := ⟨(lw_gdI 846 (by decide +kernel) rfl), (lw_gdI 92 (by decide +kernel) rfl), ⟨by decide +kernel, by decide +kernel⟩, by decide +kernel⟩
theorem mok_Fp_ageAll : MOK k_Fp_ageAll := ⟨(lw_gdI 850 (by decide +kernel) rfl), (lw_gdI 92 (by decide +kernel) rfl), ⟨by decide +kernel, by decide +kernel⟩, by decide +kernel⟩
theorem mok_Fp_change : MOK k_Fp_change := ⟨(lw_gdI 854 (by decide +kernel) rfl), (lw_gdI 92 (by decide +kernel) rfl), ⟨by decide +kernel, by decide +kernel⟩, by decide +kernel⟩
theorem mok_Fp_isBath : MOK k_Fp_isBath := ⟨(lw_gdI 857 (by decide +kernel) rfl), (lw_gdI 92 (by decide +kernel) rfl), ⟨by decide +kernel, by decide +kernel⟩, by decide +kernel⟩
theorem mok_Di_addChange : MOK k_Di_addChange := ⟨(lw_gdI 861 (by decide +kernel) rfl), (lw_gdI 100 (by decide +kernel) rfl), ⟨by decide +kernel, by decide +kernel⟩, by decide +kernel⟩
theorem mok_Fp_empty : MOK k_Fp_empty := ⟨(lw_gdI 865 (by decide +kernel) rfl), (lw_gdI 92 (by decide +kernel) rfl), ⟨by decide +kernel, by decide +kernel⟩, by decide +kernel⟩
theorem mok_Di_addEmptying : MOK k_Di_addEmptying := ⟨(lw_gdI 869 (by decide +kernel) rfl), (lw_gdI 100 (by decide +kernel) rfl), ⟨by decide +kernel, by decide +kernel⟩, by decide +kernel⟩
theorem mok_Fp_of : MOK k_Fp_of := ⟨(lw_gdI 873 (by decide +kernel) rfl), (lw_gdI 92 (by decide +kernel) rfl), ⟨by decide +kernel, by decide +kernel⟩, by decide +kernel⟩
theorem mok_Fp_spoilt : MOK k_Fp_spoilt := ⟨(lw_gdI 877 (by decide +kernel) rfl), (lw_gdI 92 (by decide +kernel) rfl), ⟨by decide +kernel, by decide +kernel⟩, by decide +kernel⟩
theorem mok_To_isBoothOrAll : MOK k_To_isBoothOrAll := ⟨(lw_gdI 881 (by decide +kernel) rfl), (lw_gdI 99 (by decide +kernel) rfl), ⟨by decide +kernel, by decide +kernel⟩, by decide +kernel⟩
theorem mok_Fp_isSpoiler : MOK k_Fp_isSpoiler := ⟨(lw_gdI 885 (by decide +kernel) rfl), (lw_gdI 92 (by decide +kernel) rfl), ⟨by decide +kernel, by decide +kernel⟩, by decide +kernel⟩
theorem mok_Di_isOf : MOK k_Di_isOf := ⟨(lw_gdI 889 (by decide +kernel) rfl), (lw_gdI 100 (by decide +kernel) rfl), ⟨by decide +kernel, by decide +kernel⟩, by decide +kernel⟩
theorem mok_Fp_again : MOK k_Fp_again := ⟨(lw_gdI 894 (by decide +kernel) rfl), (lw_gdI 92 (by decide +kernel) rfl), ⟨by decide +kernel, by decide +kernel⟩, by decide +kernel⟩
theorem mok_Rp_runAll : MOK k_Rp_runAll := ⟨(lw_gdI 898 (by decide +kernel) rfl), (lw_gdI 96 (by decide +kernel) rfl), ⟨by decide +kernel, by decide +kernel⟩, by decide +kernel⟩
theorem mok_Rp_openStrip : MOK k_Rp_openStrip := ⟨(lw_gdI 903 (by decide +kernel) rfl), (lw_gdI 96 (by decide +kernel) rfl), ⟨by decide +kernel, by decide +kernel⟩, by decide +kernel⟩
theorem mok_Rp_runBath : MOK k_Rp_runBath := ⟨(lw_gdI 913 (by decide +kernel) rfl), (lw_gdI 96 (by decide +kernel) rfl), ⟨by decide +kernel, by decide +kernel⟩, by decide +kernel⟩
theorem mok_Rp_mark : MOK k_Rp_mark := ⟨(lw_gdI 919 (by decide +kernel) rfl), (lw_gdI 96 (by decide +kernel) rfl), ⟨by decide +kernel, by decide +kernel⟩, by decide +kernel⟩
theorem mok_Rp_tally : MOK k_Rp_tally := ⟨(lw_gdI 923 (by decide +kernel) rfl), (lw_gdI 96 (by decide +kernel) rfl), ⟨by decide +kernel, by decide +kernel⟩, by decide +kernel⟩
theorem mok_Rp_spoilerOf : MOK k_Rp_spoilerOf := ⟨(lw_gdI 927 (by decide +kernel) rfl), (lw_gdI 96 (by decide +kernel) rfl), ⟨by decide +kernel, by decide +kernel⟩, by decide +kernel⟩
theorem mok_Fp_with : MOK k_Fp_with := ⟨(lw_gdI 931 (by decide +kernel) rfl), (lw_gdI 92 (by decide +kernel) rfl), ⟨by decide +kernel, by decide +kernel⟩, by decide +kernel⟩
theorem mok_Rp_tallySpoilt : MOK k_Rp_tallySpoilt := ⟨(lw_gdI 936 (by decide +kernel) rfl), (lw_gdI 96 (by decide +kernel) rfl), ⟨by decide +kernel, by decide +kernel⟩, by decide +kernel⟩
theorem mok_Fp_finest : MOK k_Fp_finest := ⟨(lw_gdI 940 (by decide +kernel) rfl), (lw_gdI 92 (by decide +kernel) rfl), ⟨by decide +kernel, by decide +kernel⟩, by decide +kernel⟩
theorem mok_Fp_reading : MOK k_Fp_reading := ⟨(lw_gdI 944 (by decide +kernel) rfl), (lw_gdI 92 (by decide +kernel) rfl), ⟨by decide +kernel, by decide +kernel⟩, by decide +kernel⟩
theorem mok_Po_addReading : MOK k_Po_addReading := ⟨(lw_gdI 950 (by decide +kernel) rfl), (lw_gdI 101 (by decide +kernel) rfl), ⟨by decide +kernel, by decide +kernel⟩, by decide +kernel⟩
theorem mok_Fp_agree : MOK k_Fp_agree := ⟨(lw_gdI 955 (by decide +kernel) rfl), (lw_gdI 92 (by decide +kernel) rfl), ⟨by decide +kernel, by decide +kernel⟩, by decide +kernel⟩
theorem mok_Po_latestReading : MOK k_Po_latestReading := ⟨(lw_gdI 960 (by decide +kernel) rfl), (lw_gdI 101 (by decide +kernel) rfl), ⟨by decide +kernel, by decide +kernel⟩, by decide +kernel⟩
theorem mok_Di_stripsIn : MOK k_Di_stripsIn := ⟨(lw_gdI 966 (by decide +kernel) rfl), (lw_gdI 100 (by decide +kernel) rfl), ⟨by decide +kernel, by decide +kernel⟩, by decide +kernel⟩
theorem mok_Fp_claim : MOK k_Fp_claim := ⟨(lw_gdI 972 (by decide +kernel) rfl), (lw_gdI 92 (by decide +kernel) rfl), ⟨by decide +kernel, by decide +kernel⟩, by decide +kernel⟩
theorem mok_Po_addClaim : MOK k_Po_addClaim := ⟨(lw_gdI 976 (by decide +kernel) rfl), (lw_gdI 101 (by decide +kernel) rfl), ⟨by decide +kernel, by decide +kernel⟩, by decide +kernel⟩
theorem mok_Fp_fair : MOK k_Fp_fair := ⟨(lw_gdI 980 (by decide +kernel) rfl), (lw_gdI 92 (by decide +kernel) rfl), ⟨by decide +kernel, by decide +kernel⟩, by decide +kernel⟩
theorem mok_Fp_missing : MOK k_Fp_missing := ⟨(lw_gdI 984 (by decide +kernel) rfl), (lw_gdI 92 (by decide +kernel) rfl), ⟨by decide +kernel, by decide +kernel⟩, by decide +kernel⟩
theorem mok_Di_spoiltOn : MOK k_Di_spoiltOn := ⟨(lw_gdI 988 (by decide +kernel) rfl), (lw_gdI 100 (by decide +kernel) rfl), ⟨by decide +kernel, by decide +kernel⟩, by decide +kernel⟩
theorem mok_Po_claimsAhead : MOK k_Po_claimsAhead := ⟨(lw_gdI 992 (by decide +kernel) rfl), (lw_gdI 101 (by decide +kernel) rfl), ⟨by decide +kernel, by decide +kernel⟩, by decide +kernel⟩
theorem mok_Fp_isRefunded : MOK k_Fp_isRefunded := ⟨(lw_gdI 996 (by decide +kernel) rfl), (lw_gdI 92 (by decide +kernel) rfl), ⟨by decide +kernel, by decide +kernel⟩, by decide +kernel⟩
theorem mok_Po_claimsUpTo : MOK k_Po_claimsUpTo := ⟨(lw_gdI 1000 (by decide +kernel) rfl), (lw_gdI 101 (by decide +kernel) rfl), ⟨by decide +kernel, by decide +kernel⟩, by decide +kernel⟩
theorem mok_Fp_suspect : MOK k_Fp_suspect := ⟨(lw_gdI 1005 (by decide +kernel) rfl), (lw_gdI 92 (by decide +kernel) rfl), ⟨by decide +kernel, by decide +kernel⟩, by decide +kernel⟩
theorem mok_Fp_twice : MOK k_Fp_twice := ⟨(lw_gdI 1009 (by decide +kernel) rfl), (lw_gdI 92 (by decide +kernel) rfl), ⟨by decide +kernel, by decide +kernel⟩, by decide +kernel⟩
theorem mok_Fp_unfairOf : MOK k_Fp_unfairOf := ⟨(lw_gdI 1013 (by decide +kernel) rfl), (lw_gdI 92 (by decide +kernel) rfl), ⟨by decide +kernel, by decide +kernel⟩, by decide +kernel⟩
theorem mok_Fp_refused : MOK k_Fp_refused := ⟨(lw_gdI 1017 (by decide +kernel) rfl), (lw_gdI 92 (by decide +kernel) rfl), ⟨by decide +kernel, by decide +kernel⟩, by decide +kernel⟩
theorem mok_Fp_isRefused : MOK k_Fp_isRefused := ⟨(lw_gdI 1021 (by decide +kernel) rfl), (lw_gdI 92 (by decide +kernel) rfl), ⟨by decide +kernel, by decide +kernel⟩, by decide +kernel⟩
theorem mok_Fp_newer : MOK k_Fp_newer := ⟨(lw_gdI 1025 (by decide +kernel) rfl), (lw_gdI 92 (by decide +kernel) rfl), ⟨by decide +kernel, by decide +kernel⟩, by decide +kernel⟩
theorem mok_Fp_rent : MOK k_Fp_rent := ⟨(lw_gdI 1029 (by decide +kernel) rfl), (lw_gdI 92 (by decide +kernel) rfl), ⟨by decide +kernel, by decide +kernel⟩, by decide +kernel⟩
theorem mok_Fp_isSpan : MOK k_Fp_isSpan := ⟨(lw_gdI 1032 (by decide +kernel) rfl), (lw_gdI 92 (by decide +kernel) rfl), ⟨by decide +kernel, by decide +kernel⟩, by decide +kernel⟩
theorem mok_Fp_rentBy : MOK k_Fp_rentBy := ⟨(lw_gdI 1036 (by decide +kernel) rfl), (lw_gdI 92 (by decide +kernel) rfl), ⟨by decide +kernel, by decide +kernel⟩, by decide +kernel⟩
theorem mok_Fp_cheapest : MOK k_Fp_cheapest := ⟨(lw_gdI 1044 (by decide +kernel) rfl), (lw_gdI 92 (by decide +kernel) rfl), ⟨by decide +kernel, by decide +kernel⟩, by decide +kernel⟩
theorem mok_Fp_round : MOK k_Fp_round := ⟨(lw_gdI 1049 (by decide +kernel) rfl), (lw_gdI 92 (by decide +kernel) rfl), ⟨by decide +kernel, by decide +kernel⟩, by decide +kernel⟩
theorem mok_Ro_plan : MOK k_Ro_plan := ⟨(lw_gdI 1053 (by decide +kernel) rfl), (lw_gdI 97 (by decide +kernel) rfl), ⟨by decide +kernel, by decide +kernel⟩, by decide +kernel⟩
theorem mok_To_spotOf : MOK k_To_spotOf := ⟨(lw_gdI 1057 (by decide +kernel) rfl), (lw_gdI 99 (by decide +kernel) rfl), ⟨by decide +kernel, by decide +kernel⟩, by decide +kernel⟩
theorem mok_Ro_leastFrom : MOK k_Ro_leastFrom := ⟨(lw_gdI 1062 (by decide +kernel) rfl), (lw_gdI 97 (by decide +kernel) rfl), ⟨by decide +kernel, by decide +kernel⟩, by decide +kernel⟩
theorem mok_Ro_milesBy : MOK k_Ro_milesBy := ⟨(lw_gdI 1067 (by decide +kernel) rfl), (lw_gdI 97 (by decide +kernel) rfl), ⟨by decide +kernel, by decide +kernel⟩, by decide +kernel⟩
theorem mok_Ro_stop : MOK k_Ro_stop := ⟨(lw_gdI 1077 (by decide +kernel) rfl), (lw_gdI 97 (by decide +kernel) rfl), ⟨by decide +kernel, by decide +kernel⟩, by decide +kernel⟩
theorem mok_Ro_firstOf : MOK k_Ro_firstOf := ⟨(lw_gdI 1081 (by decide +kernel) rfl), (lw_gdI 97 (by decide +kernel) rfl), ⟨by decide +kernel, by decide +kernel⟩, by decide +kernel⟩
theorem mok_Fp_call : MOK k_Fp_call := ⟨(lw_gdI 1085 (by decide +kernel) rfl), (lw_gdI 92 (by decide +kernel) rfl), ⟨by decide +kernel, by decide +kernel⟩, by decide +kernel⟩
theorem mok_Fp_worthy : MOK k_Fp_worthy := ⟨(lw_gdI 1089 (by decide +kernel) rfl), (lw_gdI 92 (by decide +kernel) rfl), ⟨by decide +kernel, by decide +kernel⟩, by decide +kernel⟩
theorem mok_To_worthOf : MOK k_To_worthOf := ⟨(lw_gdI 1093 (by decide +kernel) rfl), (lw_gdI 99 (by decide +kernel) rfl), ⟨by decide +kernel, by decide +kernel⟩, by decide +kernel⟩
theorem mok_Fp_takes : MOK k_Fp_takes := ⟨(lw_gdI 1097 (by decide +kernel) rfl), (lw_gdI 92 (by decide +kernel) rfl), ⟨by decide +kernel, by decide +kernel⟩, by decide +kernel⟩
theorem mok_Fp_placed : MOK k_Fp_placed := ⟨(lw_gdI 1101 (by decide +kernel) rfl), (lw_gdI 92 (by decide +kernel) rfl), ⟨by decide +kernel, by decide +kernel⟩, by decide +kernel⟩
theorem mok_Cr_plan : MOK k_Cr_plan := ⟨(lw_gdI 1105 (by decide +kernel) rfl), (lw_gdI 98 (by decide +kernel) rfl), ⟨by decide +kernel, by decide +kernel⟩, by decide +kernel⟩
theorem mok_In_bitCount : MOK k_In_bitCount := ⟨(lw_gdI 1108 (by decide +kernel) rfl), (lw_gdI 110 (by decide +kernel) rfl), ⟨by decide +kernel, by decide +kernel⟩, by decide +kernel⟩
theorem mok_Cr_mostOf : MOK k_Cr_mostOf := ⟨(lw_gdI 1115 (by decide +kernel) rfl), (lw_gdI 98 (by decide +kernel) rfl), ⟨by decide +kernel, by decide +kernel⟩, by decide +kernel⟩
theorem mok_Cr_coinsBy : MOK k_Cr_coinsBy := ⟨(lw_gdI 1120 (by decide +kernel) rfl), (lw_gdI 98 (by decide +kernel) rfl), ⟨by decide +kernel, by decide +kernel⟩, by decide +kernel⟩
theorem mok_Cr_together : MOK k_Cr_together := ⟨(lw_gdI 1128 (by decide +kernel) rfl), (lw_gdI 98 (by decide +kernel) rfl), ⟨by decide +kernel, by decide +kernel⟩, by decide +kernel⟩
theorem mok_Cr_spotOf : MOK k_Cr_spotOf := ⟨(lw_gdI 1132 (by decide +kernel) rfl), (lw_gdI 98 (by decide +kernel) rfl), ⟨by decide +kernel, by decide +kernel⟩, by decide +kernel⟩
theorem mok_Cr_firstSpot : MOK k_Cr_firstSpot := ⟨(lw_gdI 1136 (by decide +kernel) rfl), (lw_gdI 98 (by decide +kernel) rfl), ⟨by decide +kernel, by decide +kernel⟩, by decide +kernel⟩
theorem mok_Fp_count : MOK k_Fp_count := ⟨(lw_gdI 1140 (by decide +kernel) rfl), (lw_gdI 92 (by decide +kernel) rfl), ⟨by decide +kernel, by decide +kernel⟩, by decide +kernel⟩
theorem mok_Fp_image : MOK k_Fp_image := ⟨(lw_gdI 1144 (by decide +kernel) rfl), (lw_gdI 92 (by decide +kernel) rfl), ⟨by decide +kernel, by decide +kernel⟩, by decide +kernel⟩
theorem mok_To_become : MOK k_To_become := ⟨(lw_gdI 1148 (by decide +kernel) rfl), (lw_gdI 99 (by decide +kernel) rfl), ⟨by decide +kernel, by decide +kernel⟩, by decide +kernel⟩
theorem mok_Fp_copy : MOK k_Fp_copy := ⟨(lw_gdI 1151 (by decide +kernel) rfl), (lw_gdI 92 (by decide +kernel) rfl), ⟨by decide +kernel, by decide +kernel⟩, by decide +kernel⟩
theorem mok_Di_become : MOK k_Di_become := ⟨(lw_gdI 1159 (by decide +kernel) rfl), (lw_gdI 100 (by decide +kernel) rfl), ⟨by decide +kernel, by decide +kernel⟩, by decide +kernel⟩
theorem mok_Po_become : MOK k_Po_become := ⟨(lw_gdI 1164 (by decide +kernel) rfl), (lw_gdI 101 (by decide +kernel) rfl), ⟨by decide +kernel, by decide +kernel⟩, by decide +kernel⟩
theorem mok_Bo_become : MOK k_Bo_become := ⟨(lw_gdI 1169 (by decide +kernel) rfl), (lw_gdI 103 (by decide +kernel) rfl), ⟨by decide +kernel, by decide +kernel⟩, by decide +kernel⟩
theorem mok_Fp_back : MOK k_Fp_back := ⟨(lw_gdI 1174 (by decide +kernel) rfl), (lw_gdI 92 (by decide +kernel) rfl), ⟨by decide +kernel, by decide +kernel⟩, by decide +kernel⟩
theorem mok_Mo_init : MOK k_Mo_init := ⟨(lw_gdI 1179 (by decide +kernel) rfl), (lw_gdI 104 (by decide +kernel) rfl), ⟨by decide +kernel, by decide +kernel⟩, by decide +kernel⟩
theorem mok_Mo_place : MOK k_Mo_place := ⟨(lw_gdI 1268 (by decide +kernel) rfl), (lw_gdI 104 (by decide +kernel) rfl), ⟨by decide +kernel, by decide +kernel⟩, by decide +kernel⟩
theorem mok_Mo_in : MOK k_Mo_in := ⟨(lw_gdI 1272 (by decide +kernel) rfl), (lw_gdI 104 (by decide +kernel) rfl), ⟨by decide +kernel, by decide +kernel⟩, by decide +kernel⟩
theorem mok_Mo_miles : MOK k_Mo_miles := ⟨(lw_gdI 1276 (by decide +kernel) rfl), (lw_gdI 104 (by decide +kernel) rfl), ⟨by decide +kernel, by decide +kernel⟩, by decide +kernel⟩
theorem mok_Mo_isPlace : MOK k_Mo_isPlace := ⟨(lw_gdI 1280 (by decide +kernel) rfl), (lw_gdI 104 (by decide +kernel) rfl), ⟨by decide +kernel, by decide +kernel⟩, by decide +kernel⟩
theorem mok_Mo_heat : MOK k_Mo_heat := ⟨(lw_gdI 1285 (by decide +kernel) rfl), (lw_gdI 104 (by decide +kernel) rfl), ⟨by decide +kernel, by decide +kernel⟩, by decide +kernel⟩
theorem mok_Mo_isDay : MOK k_Mo_isDay := ⟨(lw_gdI 1288 (by decide +kernel) rfl), (lw_gdI 104 (by decide +kernel) rfl), ⟨by decide +kernel, by decide +kernel⟩, by decide +kernel⟩
theorem mok_Mo_feed : MOK k_Mo_feed := ⟨(lw_gdI 1293 (by decide +kernel) rfl), (lw_gdI 104 (by decide +kernel) rfl), ⟨by decide +kernel, by decide +kernel⟩, by decide +kernel⟩
theorem mok_Mo_four : MOK k_Mo_four := ⟨(lw_gdI 1297 (by decide +kernel) rfl), (lw_gdI 104 (by decide +kernel) rfl), ⟨by decide +kernel, by decide +kernel⟩, by decide +kernel⟩
theorem mok_Mo_end : MOK k_Mo_end := ⟨(lw_gdI 1301 (by decide +kernel) rfl), (lw_gdI 104 (by decide +kernel) rfl), ⟨by decide +kernel, by decide +kernel⟩, by decide +kernel⟩
theorem mok_Mo_law : MOK k_Mo_law := ⟨(lw_gdI 1305 (by decide +kernel) rfl), (lw_gdI 104 (by decide +kernel) rfl), ⟨by decide +kernel, by decide +kernel⟩, by decide +kernel⟩
theorem mok_Mo_clauseHere : MOK k_Mo_clauseHere := ⟨(lw_gdI 1309 (by decide +kernel) rfl), (lw_gdI 104 (by decide +kernel) rfl), ⟨by decide +kernel, by decide +kernel⟩, by decide +kernel⟩
theorem mok_Mo_see : MOK k_Mo_see := ⟨(lw_gdI 1313 (by decide +kernel) rfl), (lw_gdI 104 (by decide +kernel) rfl), ⟨by decide +kernel, by decide +kernel⟩, by decide +kernel⟩
theorem mok_Mo_isWord : MOK k_Mo_isWord := ⟨(lw_gdI 1318 (by decide +kernel) rfl), (lw_gdI 104 (by decide +kernel) rfl), ⟨by decide +kernel, by decide +kernel⟩, by decide +kernel⟩
theorem mok_Mo_isLetter : MOK k_Mo_isLetter := ⟨(lw_gdI 1322 (by decide +kernel) rfl), (lw_gdI 104 (by decide +kernel) rfl), ⟨by decide +kernel, by decide +kernel⟩, by decide +kernel⟩
theorem mok_Mo_fails : MOK k_Mo_fails := ⟨(lw_gdI 1333 (by decide +kernel) rfl), (lw_gdI 104 (by decide +kernel) rfl), ⟨by decide +kernel, by decide +kernel⟩, by decide +kernel⟩
theorem mok_Mo_weakHere : MOK k_Mo_weakHere := ⟨(lw_gdI 1337 (by decide +kernel) rfl), (lw_gdI 104 (by decide +kernel) rfl), ⟨by decide +kernel, by decide +kernel⟩, by decide +kernel⟩
theorem mok_Mo_passWord : MOK k_Mo_passWord := ⟨(lw_gdI 1341 (by decide +kernel) rfl), (lw_gdI 104 (by decide +kernel) rfl), ⟨by decide +kernel, by decide +kernel⟩, by decide +kernel⟩
theorem mok_Mo_number : MOK k_Mo_number := ⟨(lw_gdI 1345 (by decide +kernel) rfl), (lw_gdI 104 (by decide +kernel) rfl), ⟨by decide +kernel, by decide +kernel⟩, by decide +kernel⟩
theorem mok_Mo_isDigit : MOK k_Mo_isDigit := ⟨(lw_gdI 1349 (by decide +kernel) rfl), (lw_gdI 104 (by decide +kernel) rfl), ⟨by decide +kernel, by decide +kernel⟩, by decide +kernel⟩
theorem mok_Mo_bathHere : MOK k_Mo_bathHere := ⟨(lw_gdI 1353 (by decide +kernel) rfl), (lw_gdI 104 (by decide +kernel) rfl), ⟨by decide +kernel, by decide +kernel⟩, by decide +kernel⟩
theorem mok_Mo_clauseOf : MOK k_Mo_clauseOf := ⟨(lw_gdI 1357 (by decide +kernel) rfl), (lw_gdI 104 (by decide +kernel) rfl), ⟨by decide +kernel, by decide +kernel⟩, by decide +kernel⟩
theorem mok_Mo_sum : MOK k_Mo_sum := ⟨(lw_gdI 1361 (by decide +kernel) rfl), (lw_gdI 104 (by decide +kernel) rfl), ⟨by decide +kernel, by decide +kernel⟩, by decide +kernel⟩
theorem mok_Mo_term : MOK k_Mo_term := ⟨(lw_gdI 1365 (by decide +kernel) rfl), (lw_gdI 104 (by decide +kernel) rfl), ⟨by decide +kernel, by decide +kernel⟩, by decide +kernel⟩
theorem mok_Mo_value : MOK k_Mo_value := ⟨(lw_gdI 1369 (by decide +kernel) rfl), (lw_gdI 104 (by decide +kernel) rfl), ⟨by decide +kernel, by decide +kernel⟩, by decide +kernel⟩
theorem mok_Mo_makes : MOK k_Mo_makes := ⟨(lw_gdI 1374 (by decide +kernel) rfl), (lw_gdI 104 (by decide +kernel) rfl), ⟨by decide +kernel, by decide +kernel⟩, by decide +kernel⟩
theorem mok_Mo_puts : MOK k_Mo_puts := ⟨(lw_gdI 1378 (by decide +kernel) rfl), (lw_gdI 104 (by decide +kernel) rfl), ⟨by decide +kernel, by decide +kernel⟩, by decide +kernel⟩
theorem mok_Mo_wordHere : MOK k_Mo_wordHere := ⟨(lw_gdI 1382 (by decide +kernel) rfl), (lw_gdI 104 (by decide +kernel) rfl), ⟨by decide +kernel, by decide +kernel⟩, by decide +kernel⟩
theorem mok_Mo_takesWord : MOK k_Mo_takesWord := ⟨(lw_gdI 1396 (by decide +kernel) rfl), (lw_gdI 104 (by decide +kernel) rfl), ⟨by decide +kernel, by decide +kernel⟩, by decide +kernel⟩
theorem mok_Mo_tested : MOK k_Mo_tested := ⟨(lw_gdI 1400 (by decide +kernel) rfl), (lw_gdI 104 (by decide +kernel) rfl), ⟨by decide +kernel, by decide +kernel⟩, by decide +kernel⟩
theorem mok_Mo_fact : MOK k_Mo_fact := ⟨(lw_gdI 1404 (by decide +kernel) rfl), (lw_gdI 104 (by decide +kernel) rfl), ⟨by decide +kernel, by decide +kernel⟩, by decide +kernel⟩
theorem mok_Mo_opens : MOK k_Mo_opens := ⟨(lw_gdI 1409 (by decide +kernel) rfl), (lw_gdI 104 (by decide +kernel) rfl), ⟨by decide +kernel, by decide +kernel⟩, by decide +kernel⟩
theorem mok_Mo_compare : MOK k_Mo_compare := ⟨(lw_gdI 1413 (by decide +kernel) rfl), (lw_gdI 104 (by decide +kernel) rfl), ⟨by decide +kernel, by decide +kernel⟩, by decide +kernel⟩
theorem mok_Mo_closes : MOK k_Mo_closes := ⟨(lw_gdI 1417 (by decide +kernel) rfl), (lw_gdI 104 (by decide +kernel) rfl), ⟨by decide +kernel, by decide +kernel⟩, by decide +kernel⟩
theorem mok_Mo_settles : MOK k_Mo_settles := ⟨(lw_gdI 1421 (by decide +kernel) rfl), (lw_gdI 104 (by decide +kernel) rfl), ⟨by decide +kernel, by decide +kernel⟩, by decide +kernel⟩
theorem mok_Mo_strength : MOK k_Mo_strength := ⟨(lw_gdI 1424 (by decide +kernel) rfl), (lw_gdI 104 (by decide +kernel) rfl), ⟨by decide +kernel, by decide +kernel⟩, by decide +kernel⟩
theorem mok_Mo_isInside : MOK k_Mo_isInside := ⟨(lw_gdI 1428 (by decide +kernel) rfl), (lw_gdI 104 (by decide +kernel) rfl), ⟨by decide +kernel, by decide +kernel⟩, by decide +kernel⟩
theorem mok_Mo_booth : MOK k_Mo_booth := ⟨(lw_gdI 1434 (by decide +kernel) rfl), (lw_gdI 104 (by decide +kernel) rfl), ⟨by decide +kernel, by decide +kernel⟩, by decide +kernel⟩
theorem mok_Mo_at : MOK k_Mo_at := ⟨(lw_gdI 1438 (by decide +kernel) rfl), (lw_gdI 104 (by decide +kernel) rfl), ⟨by decide +kernel, by decide +kernel⟩, by decide +kernel⟩
theorem mok_Mo_cell : MOK k_Mo_cell := ⟨(lw_gdI 1442 (by decide +kernel) rfl), (lw_gdI 104 (by decide +kernel) rfl), ⟨by decide +kernel, by decide +kernel⟩, by decide +kernel⟩
theorem mok_Mo_isLaw : MOK k_Mo_isLaw := ⟨(lw_gdI 1446 (by decide +kernel) rfl), (lw_gdI 104 (by decide +kernel) rfl), ⟨by decide +kernel, by decide +kernel⟩, by decide +kernel⟩
theorem mok_Mo_sets : MOK k_Mo_sets := ⟨(lw_gdI 1450 (by decide +kernel) rfl), (lw_gdI 104 (by decide +kernel) rfl), ⟨by decide +kernel, by decide +kernel⟩, by decide +kernel⟩
theorem mok_Mo_move : MOK k_Mo_move := ⟨(lw_gdI 1454 (by decide +kernel) rfl), (lw_gdI 104 (by decide +kernel) rfl), ⟨by decide +kernel, by decide +kernel⟩, by decide +kernel⟩
theorem mok_Mo_isBooth : MOK k_Mo_isBooth := ⟨(lw_gdI 1458 (by decide +kernel) rfl), (lw_gdI 104 (by decide +kernel) rfl), ⟨by decide +kernel, by decide +kernel⟩, by decide +kernel⟩
theorem mok_Mo_paper : MOK k_Mo_paper := ⟨(lw_gdI 1462 (by decide +kernel) rfl), (lw_gdI 104 (by decide +kernel) rfl), ⟨by decide +kernel, by decide +kernel⟩, by decide +kernel⟩
theorem mok_Mo_strip : MOK k_Mo_strip := ⟨(lw_gdI 1467 (by decide +kernel) rfl), (lw_gdI 104 (by decide +kernel) rfl), ⟨by decide +kernel, by decide +kernel⟩, by decide +kernel⟩
theorem mok_Mo_lifts : MOK k_Mo_lifts := ⟨(lw_gdI 1472 (by decide +kernel) rfl), (lw_gdI 104 (by decide +kernel) rfl), ⟨by decide +kernel, by decide +kernel⟩, by decide +kernel⟩
theorem mok_Mo_words : MOK k_Mo_words := ⟨(lw_gdI 1476 (by decide +kernel) rfl), (lw_gdI 104 (by decide +kernel) rfl), ⟨by decide +kernel, by decide +kernel⟩, by decide +kernel⟩
theorem mok_Mo_spoils : MOK k_Mo_spoils := ⟨(lw_gdI 1480 (by decide +kernel) rfl), (lw_gdI 104 (by decide +kernel) rfl), ⟨by decide +kernel, by decide +kernel⟩, by decide +kernel⟩
theorem mok_Mo_holds : MOK k_Mo_holds := ⟨(lw_gdI 1484 (by decide +kernel) rfl), (lw_gdI 104 (by decide +kernel) rfl), ⟨by decide +kernel, by decide +kernel⟩, by decide +kernel⟩
theorem mok_Mo_holding : MOK k_Mo_holding := ⟨(lw_gdI 1488 (by decide +kernel) rfl), (lw_gdI 104 (by decide +kernel) rfl), ⟨by decide +kernel, by decide +kernel⟩, by decide +kernel⟩
theorem mok_Mo_reckons : MOK k_Mo_reckons := ⟨(lw_gdI 1492 (by decide +kernel) rfl), (lw_gdI 104 (by decide +kernel) rfl), ⟨by decide +kernel, by decide +kernel⟩, by decide +kernel⟩
theorem mok_Mo_push : MOK k_Mo_push := ⟨(lw_gdI 1496 (by decide +kernel) rfl), (lw_gdI 104 (by decide +kernel) rfl), ⟨by decide +kernel, by decide +kernel⟩, by decide +kernel⟩
theorem mok_Mo_pop : MOK k_Mo_pop := ⟨(lw_gdI 1500 (by decide +kernel) rfl), (lw_gdI 104 (by decide +kernel) rfl), ⟨by decide +kernel, by decide +kernel⟩, by decide +kernel⟩
theorem mok_Mo_one : MOK k_Mo_one := ⟨(lw_gdI 1503 (by decide +kernel) rfl), (lw_gdI 104 (by decide +kernel) rfl), ⟨by decide +kernel, by decide +kernel⟩, by decide +kernel⟩
theorem mok_Mo_tires : MOK k_Mo_tires := ⟨(lw_gdI 1507 (by decide +kernel) rfl), (lw_gdI 104 (by decide +kernel) rfl), ⟨by decide +kernel, by decide +kernel⟩, by decide +kernel⟩
theorem mok_Mo_summed : MOK k_Mo_summed := ⟨(lw_gdI 1511 (by decide +kernel) rfl), (lw_gdI 104 (by decide +kernel) rfl), ⟨by decide +kernel, by decide +kernel⟩, by decide +kernel⟩
theorem mok_Mo_lays : MOK k_Mo_lays := ⟨(lw_gdI 1515 (by decide +kernel) rfl), (lw_gdI 104 (by decide +kernel) rfl), ⟨by decide +kernel, by decide +kernel⟩, by decide +kernel⟩
theorem mok_Mo_writes : MOK k_Mo_writes := ⟨(lw_gdI 1519 (by decide +kernel) rfl), (lw_gdI 104 (by decide +kernel) rfl), ⟨by decide +kernel, by decide +kernel⟩, by decide +kernel⟩
theorem mok_Mo_clock : MOK k_Mo_clock := ⟨(lw_gdI 1523 (by decide +kernel) rfl), (lw_gdI 104 (by decide +kernel) rfl), ⟨by decide +kernel, by decide +kernel⟩, by decide +kernel⟩
theorem mok_Mo_change : MOK k_Mo_change := ⟨(lw_gdI 1528 (by decide +kernel) rfl), (lw_gdI 104 (by decide +kernel) rfl), ⟨by decide +kernel, by decide +kernel⟩, by decide +kernel⟩
theorem mok_Mo_empty : MOK k_Mo_empty := ⟨(lw_gdI 1533 (by decide +kernel) rfl), (lw_gdI 104 (by decide +kernel) rfl), ⟨by decide +kernel, by decide +kernel⟩, by decide +kernel⟩
theorem mok_Mo_of : MOK k_Mo_of := ⟨(lw_gdI 1537 (by decide +kernel) rfl), (lw_gdI 104 (by decide +kernel) rfl), ⟨by decide +kernel, by decide +kernel⟩, by decide +kernel⟩
theorem mok_Mo_spoilt : MOK k_Mo_spoilt := ⟨(lw_gdI 1542 (by decide +kernel) rfl), (lw_gdI 104 (by decide +kernel) rfl), ⟨by decide +kernel, by decide +kernel⟩, by decide +kernel⟩
theorem mok_Mo_isStrip : MOK k_Mo_isStrip := ⟨(lw_gdI 1547 (by decide +kernel) rfl), (lw_gdI 104 (by decide +kernel) rfl), ⟨by decide +kernel, by decide +kernel⟩, by decide +kernel⟩
theorem mok_Mo_event : MOK k_Mo_event := ⟨(lw_gdI 1551 (by decide +kernel) rfl), (lw_gdI 104 (by decide +kernel) rfl), ⟨by decide +kernel, by decide +kernel⟩, by decide +kernel⟩
theorem mok_Mo_again : MOK k_Mo_again := ⟨(lw_gdI 1555 (by decide +kernel) rfl), (lw_gdI 104 (by decide +kernel) rfl), ⟨by decide +kernel, by decide +kernel⟩, by decide +kernel⟩
theorem mok_Mo_goesAgain : MOK k_Mo_goesAgain := ⟨(lw_gdI 1559 (by decide +kernel) rfl), (lw_gdI 104 (by decide +kernel) rfl), ⟨by decide +kernel, by decide +kernel⟩, by decide +kernel⟩
theorem mok_Mo_with : MOK k_Mo_with := ⟨(lw_gdI 1563 (by decide +kernel) rfl), (lw_gdI 104 (by decide +kernel) rfl), ⟨by decide +kernel, by decide +kernel⟩, by decide +kernel⟩
theorem mok_Mo_spoiltWith : MOK k_Mo_spoiltWith := ⟨(lw_gdI 1567 (by decide +kernel) rfl), (lw_gdI 104 (by decide +kernel) rfl), ⟨by decide +kernel, by decide +kernel⟩, by decide +kernel⟩
theorem mok_Mo_finest : MOK k_Mo_finest := ⟨(lw_gdI 1571 (by decide +kernel) rfl), (lw_gdI 104 (by decide +kernel) rfl), ⟨by decide +kernel, by decide +kernel⟩, by decide +kernel⟩
theorem mok_Mo_reading : MOK k_Mo_reading := ⟨(lw_gdI 1575 (by decide +kernel) rfl), (lw_gdI 104 (by decide +kernel) rfl), ⟨by decide +kernel, by decide +kernel⟩, by decide +kernel⟩
theorem mok_Mo_isPast : MOK k_Mo_isPast := ⟨(lw_gdI 1579 (by decide +kernel) rfl), (lw_gdI 104 (by decide +kernel) rfl), ⟨by decide +kernel, by decide +kernel⟩, by decide +kernel⟩
theorem mok_Mo_agree : MOK k_Mo_agree := ⟨(lw_gdI 1585 (by decide +kernel) rfl), (lw_gdI 104 (by decide +kernel) rfl), ⟨by decide +kernel, by decide +kernel⟩, by decide +kernel⟩
theorem mok_Mo_latest : MOK k_Mo_latest := ⟨(lw_gdI 1590 (by decide +kernel) rfl), (lw_gdI 104 (by decide +kernel) rfl), ⟨by decide +kernel, by decide +kernel⟩, by decide +kernel⟩
theorem mok_Mo_stripsOn : MOK k_Mo_stripsOn := ⟨(lw_gdI 1595 (by decide +kernel) rfl), (lw_gdI 104 (by decide +kernel) rfl), ⟨by decide +kernel, by decide +kernel⟩, by decide +kernel⟩
theorem mok_Mo_claim : MOK k_Mo_claim := ⟨(lw_gdI 1599 (by decide +kernel) rfl), (lw_gdI 104 (by decide +kernel) rfl), ⟨by decide +kernel, by decide +kernel⟩, by decide +kernel⟩
theorem mok_Mo_fair : MOK k_Mo_fair := ⟨(lw_gdI 1604 (by decide +kernel) rfl), (lw_gdI 104 (by decide +kernel) rfl), ⟨by decide +kernel, by decide +kernel⟩, by decide +kernel⟩
theorem mok_Mo_isFair : MOK k_Mo_isFair := ⟨(lw_gdI 1608 (by decide +kernel) rfl), (lw_gdI 104 (by decide +kernel) rfl), ⟨by decide +kernel, by decide +kernel⟩, by decide +kernel⟩
theorem mok_Mo_areOne : MOK k_Mo_areOne := ⟨(lw_gdI 1612 (by decide +kernel) rfl), (lw_gdI 104 (by decide +kernel) rfl), ⟨by decide +kernel, by decide +kernel⟩, by decide +kernel⟩
theorem mok_Mo_suspect : MOK k_Mo_suspect := ⟨(lw_gdI 1616 (by decide +kernel) rfl), (lw_gdI 104 (by decide +kernel) rfl), ⟨by decide +kernel, by decide +kernel⟩, by decide +kernel⟩
theorem mok_Mo_unfairOf : MOK k_Mo_unfairOf := ⟨(lw_gdI 1620 (by decide +kernel) rfl), (lw_gdI 104 (by decide +kernel) rfl), ⟨by decide +kernel, by decide +kernel⟩, by decide +kernel⟩
theorem mok_Mo_refused : MOK k_Mo_refused := ⟨(lw_gdI 1624 (by decide +kernel) rfl), (lw_gdI 104 (by decide +kernel) rfl), ⟨by decide +kernel, by decide +kernel⟩, by decide +kernel⟩
theorem mok_Mo_isRefused : MOK k_Mo_isRefused := ⟨(lw_gdI 1628 (by decide +kernel) rfl), (lw_gdI 104 (by decide +kernel) rfl), ⟨by decide +kernel, by decide +kernel⟩, by decide +kernel⟩
theorem mok_Mo_newer : MOK k_Mo_newer := ⟨(lw_gdI 1632 (by decide +kernel) rfl), (lw_gdI 104 (by decide +kernel) rfl), ⟨by decide +kernel, by decide +kernel⟩, by decide +kernel⟩
theorem mok_Mo_rent : MOK k_Mo_rent := ⟨(lw_gdI 1636 (by decide +kernel) rfl), (lw_gdI 104 (by decide +kernel) rfl), ⟨by decide +kernel, by decide +kernel⟩, by decide +kernel⟩
theorem mok_Mo_rentBy : MOK k_Mo_rentBy := ⟨(lw_gdI 1640 (by decide +kernel) rfl), (lw_gdI 104 (by decide +kernel) rfl), ⟨by decide +kernel, by decide +kernel⟩, by decide +kernel⟩
theorem mok_Mo_cheapest : MOK k_Mo_cheapest := ⟨(lw_gdI 1646 (by decide +kernel) rfl), (lw_gdI 104 (by decide +kernel) rfl), ⟨by decide +kernel, by decide +kernel⟩, by decide +kernel⟩
theorem mok_Mo_round : MOK k_Mo_round := ⟨(lw_gdI 1650 (by decide +kernel) rfl), (lw_gdI 104 (by decide +kernel) rfl), ⟨by decide +kernel, by decide +kernel⟩, by decide +kernel⟩
theorem mok_Mo_walks : MOK k_Mo_walks := ⟨(lw_gdI 1655 (by decide +kernel) rfl), (lw_gdI 104 (by decide +kernel) rfl), ⟨by decide +kernel, by decide +kernel⟩, by decide +kernel⟩
theorem mok_Mo_mile : MOK k_Mo_mile := ⟨(lw_gdI 1659 (by decide +kernel) rfl), (lw_gdI 104 (by decide +kernel) rfl), ⟨by decide +kernel, by decide +kernel⟩, by decide +kernel⟩
theorem mok_Mo_mileOf : MOK k_Mo_mileOf := ⟨(lw_gdI 1663 (by decide +kernel) rfl), (lw_gdI 104 (by decide +kernel) rfl), ⟨by decide +kernel, by decide +kernel⟩, by decide +kernel⟩
theorem mok_Mo_milesOf : MOK k_Mo_milesOf := ⟨(lw_gdI 1667 (by decide +kernel) rfl), (lw_gdI 104 (by decide +kernel) rfl), ⟨by decide +kernel, by decide +kernel⟩, by decide +kernel⟩
theorem mok_Mo_call : MOK k_Mo_call := ⟨(lw_gdI 1671 (by decide +kernel) rfl), (lw_gdI 104 (by decide +kernel) rfl), ⟨by decide +kernel, by decide +kernel⟩, by decide +kernel⟩
theorem mok_Mo_worthy : MOK k_Mo_worthy := ⟨(lw_gdI 1675 (by decide +kernel) rfl), (lw_gdI 104 (by decide +kernel) rfl), ⟨by decide +kernel, by decide +kernel⟩, by decide +kernel⟩
theorem mok_Mo_takes : MOK k_Mo_takes := ⟨(lw_gdI 1679 (by decide +kernel) rfl), (lw_gdI 104 (by decide +kernel) rfl), ⟨by decide +kernel, by decide +kernel⟩, by decide +kernel⟩
theorem mok_Mo_placed : MOK k_Mo_placed := ⟨(lw_gdI 1683 (by decide +kernel) rfl), (lw_gdI 104 (by decide +kernel) rfl), ⟨by decide +kernel, by decide +kernel⟩, by decide +kernel⟩
theorem mok_Mo_bits : MOK k_Mo_bits := ⟨(lw_gdI 1686 (by decide +kernel) rfl), (lw_gdI 104 (by decide +kernel) rfl), ⟨by decide +kernel, by decide +kernel⟩, by decide +kernel⟩
theorem mok_Mo_takesAt : MOK k_Mo_takesAt := ⟨(lw_gdI 1690 (by decide +kernel) rfl), (lw_gdI 104 (by decide +kernel) rfl), ⟨by decide +kernel, by decide +kernel⟩, by decide +kernel⟩
theorem mok_Mo_count : MOK k_Mo_count := ⟨(lw_gdI 1694 (by decide +kernel) rfl), (lw_gdI 104 (by decide +kernel) rfl), ⟨by decide +kernel, by decide +kernel⟩, by decide +kernel⟩
theorem mok_Mo_image : MOK k_Mo_image := ⟨(lw_gdI 1698 (by decide +kernel) rfl), (lw_gdI 104 (by decide +kernel) rfl), ⟨by decide +kernel, by decide +kernel⟩, by decide +kernel⟩
theorem mok_Mo_back : MOK k_Mo_back := ⟨(lw_gdI 1703 (by decide +kernel) rfl), (lw_gdI 104 (by decide +kernel) rfl), ⟨by decide +kernel, by decide +kernel⟩, by decide +kernel⟩
theorem ob_1 : Cond.instanceMethod objectInit ∈ lw_gd := (lw_gdI 118 (by decide +kernel) rfl)
theorem ob_2 : Cond.code objectInit ⟨#[0xb1]⟩ 1 none ∈ lw_gd := (lw_gdI 119 (by decide +kernel) rfl)
theorem ac_int : Cond.arrayClass .int ∈ lw_gd := (lw_gdI 165 (by decide +kernel) rfl)
theorem ac_byte : Cond.arrayClass .byte ∈ lw_gd := (lw_gdI 705 (by decide +kernel) rfl)
theorem ac_boolean : Cond.arrayClass .boolean ∈ lw_gd := (lw_gdI 1264 (by decide +kernel) rfl)
theorem ac_long : Cond.arrayClass .long ∈ lw_gd := (lw_gdI 207 (by decide +kernel) rfl)
theorem cl_Fp_13 : Cond.classLink C_Fp 13 C_La ∈ lw_gd := (lw_gdI 120 (by decide +kernel) rfl)
theorem cl_Fp_54 : Cond.classLink C_Fp 54 C_To ∈ lw_gd := (lw_gdI 247 (by decide +kernel) rfl)
theorem cl_To_21 : Cond.classLink C_To 21 C_Bo ∈ lw_gd := (lw_gdI 253 (by decide +kernel) rfl)
theorem fl_Fp_9 : FLD C_Fp 9 10 0 1 := ⟨C_Fp, T_Fp, rfl, by decide, rfl, (lw_gdI 472 (by decide +kernel) rfl), in_Fp⟩
theorem fl_Fp_15 : FLD C_Fp 15 10 2 1 := ⟨C_Fp, T_Fp, rfl, by decide, rfl, (lw_gdI 474 (by decide +kernel) rfl), in_Fp⟩
theorem fl_Fp_22 : FLD C_Fp 22 10 4 1 := ⟨C_Fp, T_Fp, rfl, by decide, rfl, (lw_gdI 476 (by decide +kernel) rfl), in_Fp⟩
theorem fl_Fp_29 : FLD C_Fp 29 10 5 1 := ⟨C_Fp, T_Fp, rfl, by decide, rfl, (lw_gdI 477 (by decide +kernel) rfl), in_Fp⟩
theorem fl_Fp_36 : FLD C_Fp 36 10 6 1 := ⟨C_Fp, T_Fp, rfl, by decide, rfl, (lw_gdI 478 (by decide +kernel) rfl), in_Fp⟩
theorem fl_Fp_43 : FLD C_Fp 43 10 7 1 := ⟨C_Fp, T_Fp, rfl, by decide, rfl, (lw_gdI 479 (by decide +kernel) rfl), in_Fp⟩
theorem fl_Fp_50 : FLD C_Fp 50 10 8 1 := ⟨C_Fp, T_Fp, rfl, by decide, rfl, (lw_gdI 480 (by decide +kernel) rfl), in_Fp⟩
theorem fl_Fp_57 : FLD C_Fp 57 10 9 1 := ⟨C_Fp, T_Fp, rfl, by decide, rfl, (lw_gdI 481 (by decide +kernel) rfl), in_Fp⟩
theorem fl_Fp_61 : FLD C_Fp 61 10 10 1 := ⟨C_Fp, T_Fp, rfl, by decide, rfl, (lw_gdI 482 (by decide +kernel) rfl), in_Fp⟩
theorem fl_Fp_66 : FLD C_Fp 66 9 1 0 := ⟨C_To, T_To, rfl, by decide, rfl, (lw_gdI 430 (by decide +kernel) rfl), in_To⟩
theorem fl_Fp_74 : FLD C_Fp 74 9 4 1 := ⟨C_To, T_To, rfl, by decide, rfl, (lw_gdI 441 (by decide +kernel) rfl), in_To⟩
theorem fl_Fp_89 : FLD C_Fp 89 9 5 1 := ⟨C_To, T_To, rfl, by decide, rfl, (lw_gdI 444 (by decide +kernel) rfl), in_To⟩
theorem fl_Fp_95 : FLD C_Fp 95 9 3 1 := ⟨C_To, T_To, rfl, by decide, rfl, (lw_gdI 438 (by decide +kernel) rfl), in_To⟩
theorem fl_Fp_102 : FLD C_Fp 102 10 1 0 := ⟨C_Fp, T_Fp, rfl, by decide, rfl, (lw_gdI 473 (by decide +kernel) rfl), in_Fp⟩
theorem fl_Fp_109 : FLD C_Fp 109 10 3 0 := ⟨C_Fp, T_Fp, rfl, by decide, rfl, (lw_gdI 475 (by decide +kernel) rfl), in_Fp⟩
theorem fl_Fp_116 : FLD C_Fp 116 9 2 0 := ⟨C_To, T_To, rfl, by decide, rfl, (lw_gdI 436 (by decide +kernel) rfl), in_To⟩
theorem fl_Fp_130 : FLD C_Fp 130 9 0 0 := ⟨C_To, T_To, rfl, by decide, rfl, (lw_gdI 429 (by decide +kernel) rfl), in_To⟩
theorem fl_Fp_142 : FLD C_Fp 142 0 0 0 := ⟨C_Bo, T_Bo, rfl, by decide, rfl, (lw_gdI 375 (by decide +kernel) rfl), in_Bo⟩
theorem fl_Fp_145 : FLD C_Fp 145 0 4 0 := ⟨C_Bo, T_Bo, rfl, by decide, rfl, (lw_gdI 385 (by decide +kernel) rfl), in_Bo⟩
theorem fl_Fp_148 : FLD C_Fp 148 9 7 1 := ⟨C_To, T_To, rfl, by decide, rfl, (lw_gdI 448 (by decide +kernel) rfl), in_To⟩
theorem fl_Fp_152 : FLD C_Fp 152 2 0 0 := ⟨C_Di, T_Di, rfl, by decide, rfl, (lw_gdI 263 (by decide +kernel) rfl), in_Di⟩
theorem fl_Fp_157 : FLD C_Fp 157 0 2 0 := ⟨C_Bo, T_Bo, rfl, by decide, rfl, (lw_gdI 380 (by decide +kernel) rfl), in_Bo⟩
theorem fl_Fp_168 : FLD C_Fp 168 0 6 0 := ⟨C_Bo, T_Bo, rfl, by decide, rfl, (lw_gdI 389 (by decide +kernel) rfl), in_Bo⟩
theorem fl_Fp_171 : FLD C_Fp 171 0 5 0 := ⟨C_Bo, T_Bo, rfl, by decide, rfl, (lw_gdI 387 (by decide +kernel) rfl), in_Bo⟩
theorem fl_Fp_177 : FLD C_Fp 177 0 9 1 := ⟨C_Bo, T_Bo, rfl, by decide, rfl, (lw_gdI 396 (by decide +kernel) rfl), in_Bo⟩
theorem fl_Fp_197 : FLD C_Fp 197 0 1 0 := ⟨C_Bo, T_Bo, rfl, by decide, rfl, (lw_gdI 378 (by decide +kernel) rfl), in_Bo⟩
theorem fl_Fp_206 : FLD C_Fp 206 2 1 0 := ⟨C_Di, T_Di, rfl, by decide, rfl, (lw_gdI 265 (by decide +kernel) rfl), in_Di⟩
theorem fl_Fp_209 : FLD C_Fp 209 0 7 0 := ⟨C_Bo, T_Bo, rfl, by decide, rfl, (lw_gdI 391 (by decide +kernel) rfl), in_Bo⟩
theorem fl_Fp_228 : FLD C_Fp 228 2 5 1 := ⟨C_Di, T_Di, rfl, by decide, rfl, (lw_gdI 274 (by decide +kernel) rfl), in_Di⟩
theorem fl_Fp_239 : FLD C_Fp 239 0 3 0 := ⟨C_Bo, T_Bo, rfl, by decide, rfl, (lw_gdI 383 (by decide +kernel) rfl), in_Bo⟩
theorem fl_Fp_250 : FLD C_Fp 250 9 8 1 := ⟨C_To, T_To, rfl, by decide, rfl, (lw_gdI 450 (by decide +kernel) rfl), in_To⟩
theorem fl_Fp_254 : FLD C_Fp 254 5 0 0 := ⟨C_Po, T_Po, rfl, by decide, rfl, (lw_gdI 325 (by decide +kernel) rfl), in_Po⟩
theorem fl_Fp_271 : FLD C_Fp 271 5 3 1 := ⟨C_Po, T_Po, rfl, by decide, rfl, (lw_gdI 330 (by decide +kernel) rfl), in_Po⟩
theorem fl_Fp_277 : FLD C_Fp 277 5 4 1 := ⟨C_Po, T_Po, rfl, by decide, rfl, (lw_gdI 332 (by decide +kernel) rfl), in_Po⟩
theorem fl_Fp_280 : FLD C_Fp 280 5 5 1 := ⟨C_Po, T_Po, rfl, by decide, rfl, (lw_gdI 334 (by decide +kernel) rfl), in_Po⟩
theorem fl_Fp_283 : FLD C_Fp 283 5 1 0 := ⟨C_Po, T_Po, rfl, by decide, rfl, (lw_gdI 327 (by decide +kernel) rfl), in_Po⟩
theorem fl_Fp_307 : FLD C_Fp 307 2 3 1 := ⟨C_Di, T_Di, rfl, by decide, rfl, (lw_gdI 269 (by decide +kernel) rfl), in_Di⟩
theorem fl_Fp_330 : FLD C_Fp 330 0 8 0 := ⟨C_Bo, T_Bo, rfl, by decide, rfl, (lw_gdI 394 (by decide +kernel) rfl), in_Bo⟩
theorem fl_Fp_336 : FLD C_Fp 336 0 10 1 := ⟨C_Bo, T_Bo, rfl, by decide, rfl, (lw_gdI 399 (by decide +kernel) rfl), in_Bo⟩
theorem fl_Fp_339 : FLD C_Fp 339 0 11 1 := ⟨C_Bo, T_Bo, rfl, by decide, rfl, (lw_gdI 402 (by decide +kernel) rfl), in_Bo⟩
theorem fl_Fp_373 : FLD C_Fp 373 5 8 1 := ⟨C_Po, T_Po, rfl, by decide, rfl, (lw_gdI 339 (by decide +kernel) rfl), in_Po⟩
theorem fl_Fp_376 : FLD C_Fp 376 5 9 1 := ⟨C_Po, T_Po, rfl, by decide, rfl, (lw_gdI 341 (by decide +kernel) rfl), in_Po⟩
theorem fl_Fp_392 : FLD C_Fp 392 5 7 1 := ⟨C_Po, T_Po, rfl, by decide, rfl, (lw_gdI 337 (by decide +kernel) rfl), in_Po⟩
theorem fl_Fp_395 : FLD C_Fp 395 2 4 1 := ⟨C_Di, T_Di, rfl, by decide, rfl, (lw_gdI 272 (by decide +kernel) rfl), in_Di⟩
theorem fl_Fp_398 : FLD C_Fp 398 2 6 1 := ⟨C_Di, T_Di, rfl, by decide, rfl, (lw_gdI 277 (by decide +kernel) rfl), in_Di⟩
theorem fl_Fp_401 : FLD C_Fp 401 2 7 1 := ⟨C_Di, T_Di, rfl, by decide, rfl, (lw_gdI 280 (by decide +kernel) rfl), in_Di⟩
theorem fl_Bo_9 : FLD C_Bo 9 0 9 1 := ⟨C_Bo, T_Bo, rfl, by decide, rfl, (lw_gdI 395 (by decide +kernel) rfl), in_Bo⟩
theorem fl_Bo_15 : FLD C_Bo 15 0 10 1 := ⟨C_Bo, T_Bo, rfl, by decide, rfl, (lw_gdI 397 (by decide +kernel) rfl), in_Bo⟩
theorem fl_Bo_18 : FLD C_Bo 18 0 11 1 := ⟨C_Bo, T_Bo, rfl, by decide, rfl, (lw_gdI 400 (by decide +kernel) rfl), in_Bo⟩
theorem fl_Bo_21 : FLD C_Bo 21 0 0 0 := ⟨C_Bo, T_Bo, rfl, by decide, rfl, (lw_gdI 371 (by decide +kernel) rfl), in_Bo⟩
theorem fl_Bo_25 : FLD C_Bo 25 0 1 0 := ⟨C_Bo, T_Bo, rfl, by decide, rfl, (lw_gdI 376 (by decide +kernel) rfl), in_Bo⟩
theorem fl_Bo_28 : FLD C_Bo 28 0 2 0 := ⟨C_Bo, T_Bo, rfl, by decide, rfl, (lw_gdI 379 (by decide +kernel) rfl), in_Bo⟩
theorem fl_Bo_31 : FLD C_Bo 31 0 3 0 := ⟨C_Bo, T_Bo, rfl, by decide, rfl, (lw_gdI 381 (by decide +kernel) rfl), in_Bo⟩
theorem fl_Bo_34 : FLD C_Bo 34 0 4 0 := ⟨C_Bo, T_Bo, rfl, by decide, rfl, (lw_gdI 384 (by decide +kernel) rfl), in_Bo⟩
theorem fl_Bo_37 : FLD C_Bo 37 0 5 0 := ⟨C_Bo, T_Bo, rfl, by decide, rfl, (lw_gdI 386 (by decide +kernel) rfl), in_Bo⟩
theorem fl_Bo_40 : FLD C_Bo 40 0 6 0 := ⟨C_Bo, T_Bo, rfl, by decide, rfl, (lw_gdI 388 (by decide +kernel) rfl), in_Bo⟩
theorem fl_Bo_43 : FLD C_Bo 43 0 7 0 := ⟨C_Bo, T_Bo, rfl, by decide, rfl, (lw_gdI 390 (by decide +kernel) rfl), in_Bo⟩
theorem fl_Bo_46 : FLD C_Bo 46 0 8 0 := ⟨C_Bo, T_Bo, rfl, by decide, rfl, (lw_gdI 392 (by decide +kernel) rfl), in_Bo⟩
theorem fl_Cr_9 : FLD C_Cr 9 1 0 1 := ⟨C_Cr, T_Cr, rfl, by decide, rfl, (lw_gdI 237 (by decide +kernel) rfl), in_Cr⟩
theorem fl_Cr_15 : FLD C_Cr 15 1 1 0 := ⟨C_Cr, T_Cr, rfl, by decide, rfl, (lw_gdI 238 (by decide +kernel) rfl), in_Cr⟩
theorem fl_Cr_19 : FLD C_Cr 19 1 2 0 := ⟨C_Cr, T_Cr, rfl, by decide, rfl, (lw_gdI 239 (by decide +kernel) rfl), in_Cr⟩
theorem fl_Cr_23 : FLD C_Cr 23 9 1 0 := ⟨C_To, T_To, rfl, by decide, rfl, (lw_gdI 432 (by decide +kernel) rfl), in_To⟩
theorem fl_Cr_34 : FLD C_Cr 34 9 2 0 := ⟨C_To, T_To, rfl, by decide, rfl, (lw_gdI 435 (by decide +kernel) rfl), in_To⟩
theorem fl_Cr_60 : FLD C_Cr 60 0 11 1 := ⟨C_Bo, T_Bo, rfl, by decide, rfl, (lw_gdI 401 (by decide +kernel) rfl), in_Bo⟩
theorem fl_Cr_65 : FLD C_Cr 65 0 10 1 := ⟨C_Bo, T_Bo, rfl, by decide, rfl, (lw_gdI 398 (by decide +kernel) rfl), in_Bo⟩
theorem fl_Cr_72 : FLD C_Cr 72 0 0 0 := ⟨C_Bo, T_Bo, rfl, by decide, rfl, (lw_gdI 374 (by decide +kernel) rfl), in_Bo⟩
theorem fl_Di_11 : FLD C_Di 11 2 3 1 := ⟨C_Di, T_Di, rfl, by decide, rfl, (lw_gdI 268 (by decide +kernel) rfl), in_Di⟩
theorem fl_Di_15 : FLD C_Di 15 2 4 1 := ⟨C_Di, T_Di, rfl, by decide, rfl, (lw_gdI 270 (by decide +kernel) rfl), in_Di⟩
theorem fl_Di_18 : FLD C_Di 18 2 5 1 := ⟨C_Di, T_Di, rfl, by decide, rfl, (lw_gdI 273 (by decide +kernel) rfl), in_Di⟩
theorem fl_Di_21 : FLD C_Di 21 2 6 1 := ⟨C_Di, T_Di, rfl, by decide, rfl, (lw_gdI 275 (by decide +kernel) rfl), in_Di⟩
theorem fl_Di_24 : FLD C_Di 24 2 7 1 := ⟨C_Di, T_Di, rfl, by decide, rfl, (lw_gdI 278 (by decide +kernel) rfl), in_Di⟩
theorem fl_Di_27 : FLD C_Di 27 2 8 1 := ⟨C_Di, T_Di, rfl, by decide, rfl, (lw_gdI 281 (by decide +kernel) rfl), in_Di⟩
theorem fl_Di_30 : FLD C_Di 30 2 9 1 := ⟨C_Di, T_Di, rfl, by decide, rfl, (lw_gdI 283 (by decide +kernel) rfl), in_Di⟩
theorem fl_Di_33 : FLD C_Di 33 2 10 1 := ⟨C_Di, T_Di, rfl, by decide, rfl, (lw_gdI 285 (by decide +kernel) rfl), in_Di⟩
theorem fl_Di_36 : FLD C_Di 36 2 11 1 := ⟨C_Di, T_Di, rfl, by decide, rfl, (lw_gdI 287 (by decide +kernel) rfl), in_Di⟩
theorem fl_Di_39 : FLD C_Di 39 2 12 1 := ⟨C_Di, T_Di, rfl, by decide, rfl, (lw_gdI 289 (by decide +kernel) rfl), in_Di⟩
theorem fl_Di_42 : FLD C_Di 42 2 0 0 := ⟨C_Di, T_Di, rfl, by decide, rfl, (lw_gdI 261 (by decide +kernel) rfl), in_Di⟩
theorem fl_Di_46 : FLD C_Di 46 2 1 0 := ⟨C_Di, T_Di, rfl, by decide, rfl, (lw_gdI 264 (by decide +kernel) rfl), in_Di⟩
theorem fl_Di_49 : FLD C_Di 49 2 2 0 := ⟨C_Di, T_Di, rfl, by decide, rfl, (lw_gdI 266 (by decide +kernel) rfl), in_Di⟩
theorem fl_Fa_9 : FLD C_Fa 9 3 0 1 := ⟨C_Fa, T_Fa, rfl, by decide, rfl, (lw_gdI 200 (by decide +kernel) rfl), in_Fa⟩
theorem fl_Fa_17 : FLD C_Fa 17 3 1 1 := ⟨C_Fa, T_Fa, rfl, by decide, rfl, (lw_gdI 201 (by decide +kernel) rfl), in_Fa⟩
theorem fl_Fa_26 : FLD C_Fa 26 0 0 0 := ⟨C_Bo, T_Bo, rfl, by decide, rfl, (lw_gdI 372 (by decide +kernel) rfl), in_Bo⟩
theorem fl_Fa_36 : FLD C_Fa 36 9 4 1 := ⟨C_To, T_To, rfl, by decide, rfl, (lw_gdI 442 (by decide +kernel) rfl), in_To⟩
theorem fl_Fa_48 : FLD C_Fa 48 9 3 1 := ⟨C_To, T_To, rfl, by decide, rfl, (lw_gdI 439 (by decide +kernel) rfl), in_To⟩
theorem fl_La_11 : FLD C_La 11 4 2 1 := ⟨C_La, T_La, rfl, by decide, rfl, (lw_gdI 137 (by decide +kernel) rfl), in_La⟩
theorem fl_La_15 : FLD C_La 15 4 3 1 := ⟨C_La, T_La, rfl, by decide, rfl, (lw_gdI 138 (by decide +kernel) rfl), in_La⟩
theorem fl_La_18 : FLD C_La 18 4 4 1 := ⟨C_La, T_La, rfl, by decide, rfl, (lw_gdI 140 (by decide +kernel) rfl), in_La⟩
theorem fl_La_21 : FLD C_La 21 4 5 1 := ⟨C_La, T_La, rfl, by decide, rfl, (lw_gdI 141 (by decide +kernel) rfl), in_La⟩
theorem fl_La_24 : FLD C_La 24 4 6 1 := ⟨C_La, T_La, rfl, by decide, rfl, (lw_gdI 142 (by decide +kernel) rfl), in_La⟩
theorem fl_La_27 : FLD C_La 27 4 7 1 := ⟨C_La, T_La, rfl, by decide, rfl, (lw_gdI 143 (by decide +kernel) rfl), in_La⟩
theorem fl_La_30 : FLD C_La 30 4 8 1 := ⟨C_La, T_La, rfl, by decide, rfl, (lw_gdI 145 (by decide +kernel) rfl), in_La⟩
theorem fl_La_33 : FLD C_La 33 4 0 0 := ⟨C_La, T_La, rfl, by decide, rfl, (lw_gdI 134 (by decide +kernel) rfl), in_La⟩
theorem fl_La_37 : FLD C_La 37 4 1 0 := ⟨C_La, T_La, rfl, by decide, rfl, (lw_gdI 136 (by decide +kernel) rfl), in_La⟩
theorem fl_Po_9 : FLD C_Po 9 5 2 1 := ⟨C_Po, T_Po, rfl, by decide, rfl, (lw_gdI 328 (by decide +kernel) rfl), in_Po⟩
theorem fl_Po_15 : FLD C_Po 15 5 3 1 := ⟨C_Po, T_Po, rfl, by decide, rfl, (lw_gdI 329 (by decide +kernel) rfl), in_Po⟩
theorem fl_Po_18 : FLD C_Po 18 5 4 1 := ⟨C_Po, T_Po, rfl, by decide, rfl, (lw_gdI 331 (by decide +kernel) rfl), in_Po⟩
theorem fl_Po_21 : FLD C_Po 21 5 5 1 := ⟨C_Po, T_Po, rfl, by decide, rfl, (lw_gdI 333 (by decide +kernel) rfl), in_Po⟩
theorem fl_Po_24 : FLD C_Po 24 5 6 1 := ⟨C_Po, T_Po, rfl, by decide, rfl, (lw_gdI 335 (by decide +kernel) rfl), in_Po⟩
theorem fl_Po_27 : FLD C_Po 27 5 7 1 := ⟨C_Po, T_Po, rfl, by decide, rfl, (lw_gdI 336 (by decide +kernel) rfl), in_Po⟩
theorem fl_Po_30 : FLD C_Po 30 5 8 1 := ⟨C_Po, T_Po, rfl, by decide, rfl, (lw_gdI 338 (by decide +kernel) rfl), in_Po⟩
theorem fl_Po_33 : FLD C_Po 33 5 9 1 := ⟨C_Po, T_Po, rfl, by decide, rfl, (lw_gdI 340 (by decide +kernel) rfl), in_Po⟩
theorem fl_Po_36 : FLD C_Po 36 5 0 0 := ⟨C_Po, T_Po, rfl, by decide, rfl, (lw_gdI 324 (by decide +kernel) rfl), in_Po⟩
theorem fl_Po_40 : FLD C_Po 40 5 1 0 := ⟨C_Po, T_Po, rfl, by decide, rfl, (lw_gdI 326 (by decide +kernel) rfl), in_Po⟩
theorem fl_Re_11 : FLD C_Re 11 6 0 1 := ⟨C_Re, T_Re, rfl, by decide, rfl, (lw_gdI 166 (by decide +kernel) rfl), in_Re⟩
theorem fl_Re_15 : FLD C_Re 15 6 1 1 := ⟨C_Re, T_Re, rfl, by decide, rfl, (lw_gdI 167 (by decide +kernel) rfl), in_Re⟩
theorem fl_Re_18 : FLD C_Re 18 6 2 1 := ⟨C_Re, T_Re, rfl, by decide, rfl, (lw_gdI 168 (by decide +kernel) rfl), in_Re⟩
theorem fl_Re_24 : FLD C_Re 24 6 8 2 := ⟨C_Re, T_Re, rfl, by decide, rfl, (lw_gdI 174 (by decide +kernel) rfl), in_Re⟩
theorem fl_Re_35 : FLD C_Re 35 6 6 0 := ⟨C_Re, T_Re, rfl, by decide, rfl, (lw_gdI 172 (by decide +kernel) rfl), in_Re⟩
theorem fl_Re_39 : FLD C_Re 39 6 7 0 := ⟨C_Re, T_Re, rfl, by decide, rfl, (lw_gdI 173 (by decide +kernel) rfl), in_Re⟩
theorem fl_Re_42 : FLD C_Re 42 6 4 0 := ⟨C_Re, T_Re, rfl, by decide, rfl, (lw_gdI 170 (by decide +kernel) rfl), in_Re⟩
theorem fl_Re_52 : FLD C_Re 52 6 5 0 := ⟨C_Re, T_Re, rfl, by decide, rfl, (lw_gdI 171 (by decide +kernel) rfl), in_Re⟩
theorem fl_Re_60 : FLD C_Re 60 6 3 0 := ⟨C_Re, T_Re, rfl, by decide, rfl, (lw_gdI 169 (by decide +kernel) rfl), in_Re⟩
theorem fl_Re_147 : FLD C_Re 147 4 7 1 := ⟨C_La, T_La, rfl, by decide, rfl, (lw_gdI 144 (by decide +kernel) rfl), in_La⟩
theorem fl_Re_150 : FLD C_Re 150 4 3 1 := ⟨C_La, T_La, rfl, by decide, rfl, (lw_gdI 139 (by decide +kernel) rfl), in_La⟩
theorem fl_Re_153 : FLD C_Re 153 4 0 0 := ⟨C_La, T_La, rfl, by decide, rfl, (lw_gdI 135 (by decide +kernel) rfl), in_La⟩
theorem fl_Rp_9 : FLD C_Rp 9 7 0 1 := ⟨C_Rp, T_Rp, rfl, by decide, rfl, (lw_gdI 214 (by decide +kernel) rfl), in_Rp⟩
theorem fl_Rp_15 : FLD C_Rp 15 7 1 1 := ⟨C_Rp, T_Rp, rfl, by decide, rfl, (lw_gdI 215 (by decide +kernel) rfl), in_Rp⟩
theorem fl_Rp_24 : FLD C_Rp 24 9 7 1 := ⟨C_To, T_To, rfl, by decide, rfl, (lw_gdI 447 (by decide +kernel) rfl), in_To⟩
theorem fl_Rp_28 : FLD C_Rp 28 2 0 0 := ⟨C_Di, T_Di, rfl, by decide, rfl, (lw_gdI 262 (by decide +kernel) rfl), in_Di⟩
theorem fl_Rp_52 : FLD C_Rp 52 0 3 0 := ⟨C_Bo, T_Bo, rfl, by decide, rfl, (lw_gdI 382 (by decide +kernel) rfl), in_Bo⟩
theorem fl_Rp_61 : FLD C_Rp 61 2 4 1 := ⟨C_Di, T_Di, rfl, by decide, rfl, (lw_gdI 271 (by decide +kernel) rfl), in_Di⟩
theorem fl_Rp_74 : FLD C_Rp 74 2 6 1 := ⟨C_Di, T_Di, rfl, by decide, rfl, (lw_gdI 276 (by decide +kernel) rfl), in_Di⟩
theorem fl_Rp_77 : FLD C_Rp 77 2 7 1 := ⟨C_Di, T_Di, rfl, by decide, rfl, (lw_gdI 279 (by decide +kernel) rfl), in_Di⟩
theorem fl_Rp_84 : FLD C_Rp 84 2 8 1 := ⟨C_Di, T_Di, rfl, by decide, rfl, (lw_gdI 282 (by decide +kernel) rfl), in_Di⟩
theorem fl_Rp_87 : FLD C_Rp 87 2 9 1 := ⟨C_Di, T_Di, rfl, by decide, rfl, (lw_gdI 284 (by decide +kernel) rfl), in_Di⟩
theorem fl_Rp_93 : FLD C_Rp 93 2 2 0 := ⟨C_Di, T_Di, rfl, by decide, rfl, (lw_gdI 267 (by decide +kernel) rfl), in_Di⟩
theorem fl_Rp_96 : FLD C_Rp 96 2 10 1 := ⟨C_Di, T_Di, rfl, by decide, rfl, (lw_gdI 286 (by decide +kernel) rfl), in_Di⟩
theorem fl_Rp_99 : FLD C_Rp 99 2 11 1 := ⟨C_Di, T_Di, rfl, by decide, rfl, (lw_gdI 288 (by decide +kernel) rfl), in_Di⟩
theorem fl_Rp_108 : FLD C_Rp 108 2 12 1 := ⟨C_Di, T_Di, rfl, by decide, rfl, (lw_gdI 290 (by decide +kernel) rfl), in_Di⟩
theorem fl_Rp_118 : FLD C_Rp 118 0 1 0 := ⟨C_Bo, T_Bo, rfl, by decide, rfl, (lw_gdI 377 (by decide +kernel) rfl), in_Bo⟩
theorem fl_Ro_9 : FLD C_Ro 9 8 0 1 := ⟨C_Ro, T_Ro, rfl, by decide, rfl, (lw_gdI 227 (by decide +kernel) rfl), in_Ro⟩
theorem fl_Ro_15 : FLD C_Ro 15 9 2 0 := ⟨C_To, T_To, rfl, by decide, rfl, (lw_gdI 433 (by decide +kernel) rfl), in_To⟩
theorem fl_To_9 : FLD C_To 9 9 3 1 := ⟨C_To, T_To, rfl, by decide, rfl, (lw_gdI 437 (by decide +kernel) rfl), in_To⟩
theorem fl_To_15 : FLD C_To 15 9 4 1 := ⟨C_To, T_To, rfl, by decide, rfl, (lw_gdI 440 (by decide +kernel) rfl), in_To⟩
theorem fl_To_18 : FLD C_To 18 9 5 1 := ⟨C_To, T_To, rfl, by decide, rfl, (lw_gdI 443 (by decide +kernel) rfl), in_To⟩
theorem fl_To_23 : FLD C_To 23 9 6 1 := ⟨C_To, T_To, rfl, by decide, rfl, (lw_gdI 445 (by decide +kernel) rfl), in_To⟩
theorem fl_To_30 : FLD C_To 30 9 7 1 := ⟨C_To, T_To, rfl, by decide, rfl, (lw_gdI 446 (by decide +kernel) rfl), in_To⟩
theorem fl_To_37 : FLD C_To 37 9 8 1 := ⟨C_To, T_To, rfl, by decide, rfl, (lw_gdI 449 (by decide +kernel) rfl), in_To⟩
theorem fl_To_48 : FLD C_To 48 9 0 0 := ⟨C_To, T_To, rfl, by decide, rfl, (lw_gdI 428 (by decide +kernel) rfl), in_To⟩
theorem fl_To_52 : FLD C_To 52 9 1 0 := ⟨C_To, T_To, rfl, by decide, rfl, (lw_gdI 431 (by decide +kernel) rfl), in_To⟩
theorem fl_To_55 : FLD C_To 55 9 2 0 := ⟨C_To, T_To, rfl, by decide, rfl, (lw_gdI 434 (by decide +kernel) rfl), in_To⟩
theorem fl_To_76 : FLD C_To 76 0 0 0 := ⟨C_Bo, T_Bo, rfl, by decide, rfl, (lw_gdI 373 (by decide +kernel) rfl), in_Bo⟩
theorem fl_To_90 : FLD C_To 90 0 8 0 := ⟨C_Bo, T_Bo, rfl, by decide, rfl, (lw_gdI 393 (by decide +kernel) rfl), in_Bo⟩
theorem fl_Mo_7 : FLD C_Mo 7 11 0 1 := ⟨C_Mo, T_Mo, rfl, by decide, rfl, (lw_gdI 1182 (by decide +kernel) rfl), in_Mo⟩
theorem fl_Mo_13 : FLD C_Mo 13 11 1 1 := ⟨C_Mo, T_Mo, rfl, by decide, rfl, (lw_gdI 1183 (by decide +kernel) rfl), in_Mo⟩
theorem fl_Mo_17 : FLD C_Mo 17 11 4 1 := ⟨C_Mo, T_Mo, rfl, by decide, rfl, (lw_gdI 1186 (by decide +kernel) rfl), in_Mo⟩
theorem fl_Mo_20 : FLD C_Mo 20 11 5 1 := ⟨C_Mo, T_Mo, rfl, by decide, rfl, (lw_gdI 1187 (by decide +kernel) rfl), in_Mo⟩
theorem fl_Mo_23 : FLD C_Mo 23 11 6 1 := ⟨C_Mo, T_Mo, rfl, by decide, rfl, (lw_gdI 1188 (by decide +kernel) rfl), in_Mo⟩
theorem fl_Mo_26 : FLD C_Mo 26 11 7 1 := ⟨C_Mo, T_Mo, rfl, by decide, rfl, (lw_gdI 1189 (by decide +kernel) rfl), in_Mo⟩
theorem fl_Mo_29 : FLD C_Mo 29 11 8 1 := ⟨C_Mo, T_Mo, rfl, by decide, rfl, (lw_gdI 1190 (by decide +kernel) rfl), in_Mo⟩
theorem fl_Mo_32 : FLD C_Mo 32 11 16 1 := ⟨C_Mo, T_Mo, rfl, by decide, rfl, (lw_gdI 1198 (by decide +kernel) rfl), in_Mo⟩
theorem fl_Mo_35 : FLD C_Mo 35 11 18 1 := ⟨C_Mo, T_Mo, rfl, by decide, rfl, (lw_gdI 1200 (by decide +kernel) rfl), in_Mo⟩
theorem fl_Mo_39 : FLD C_Mo 39 11 20 1 := ⟨C_Mo, T_Mo, rfl, by decide, rfl, (lw_gdI 1202 (by decide +kernel) rfl), in_Mo⟩
theorem fl_Mo_42 : FLD C_Mo 42 11 21 1 := ⟨C_Mo, T_Mo, rfl, by decide, rfl, (lw_gdI 1203 (by decide +kernel) rfl), in_Mo⟩
theorem fl_Mo_45 : FLD C_Mo 45 11 22 1 := ⟨C_Mo, T_Mo, rfl, by decide, rfl, (lw_gdI 1204 (by decide +kernel) rfl), in_Mo⟩
theorem fl_Mo_48 : FLD C_Mo 48 11 23 1 := ⟨C_Mo, T_Mo, rfl, by decide, rfl, (lw_gdI 1205 (by decide +kernel) rfl), in_Mo⟩
theorem fl_Mo_51 : FLD C_Mo 51 11 24 1 := ⟨C_Mo, T_Mo, rfl, by decide, rfl, (lw_gdI 1206 (by decide +kernel) rfl), in_Mo⟩
theorem fl_Mo_55 : FLD C_Mo 55 11 25 1 := ⟨C_Mo, T_Mo, rfl, by decide, rfl, (lw_gdI 1207 (by decide +kernel) rfl), in_Mo⟩
theorem fl_Mo_58 : FLD C_Mo 58 11 26 1 := ⟨C_Mo, T_Mo, rfl, by decide, rfl, (lw_gdI 1208 (by decide +kernel) rfl), in_Mo⟩
theorem fl_Mo_79 : FLD C_Mo 79 11 2 0 := ⟨C_Mo, T_Mo, rfl, by decide, rfl, (lw_gdI 1184 (by decide +kernel) rfl), in_Mo⟩
theorem fl_Mo_87 : FLD C_Mo 87 11 10 0 := ⟨C_Mo, T_Mo, rfl, by decide, rfl, (lw_gdI 1192 (by decide +kernel) rfl), in_Mo⟩
theorem fl_Mo_90 : FLD C_Mo 90 11 9 0 := ⟨C_Mo, T_Mo, rfl, by decide, rfl, (lw_gdI 1191 (by decide +kernel) rfl), in_Mo⟩
theorem fl_Mo_114 : FLD C_Mo 114 11 11 0 := ⟨C_Mo, T_Mo, rfl, by decide, rfl, (lw_gdI 1193 (by decide +kernel) rfl), in_Mo⟩
theorem fl_Mo_135 : FLD C_Mo 135 11 12 0 := ⟨C_Mo, T_Mo, rfl, by decide, rfl, (lw_gdI 1194 (by decide +kernel) rfl), in_Mo⟩
theorem fl_Mo_138 : FLD C_Mo 138 11 13 0 := ⟨C_Mo, T_Mo, rfl, by decide, rfl, (lw_gdI 1195 (by decide +kernel) rfl), in_Mo⟩
theorem fl_Mo_141 : FLD C_Mo 141 11 14 0 := ⟨C_Mo, T_Mo, rfl, by decide, rfl, (lw_gdI 1196 (by decide +kernel) rfl), in_Mo⟩
theorem fl_Mo_144 : FLD C_Mo 144 11 17 0 := ⟨C_Mo, T_Mo, rfl, by decide, rfl, (lw_gdI 1199 (by decide +kernel) rfl), in_Mo⟩
theorem fl_Mo_223 : FLD C_Mo 223 11 15 0 := ⟨C_Mo, T_Mo, rfl, by decide, rfl, (lw_gdI 1197 (by decide +kernel) rfl), in_Mo⟩
theorem fl_Mo_236 : FLD C_Mo 236 11 3 0 := ⟨C_Mo, T_Mo, rfl, by decide, rfl, (lw_gdI 1185 (by decide +kernel) rfl), in_Mo⟩
theorem fl_Mo_242 : FLD C_Mo 242 11 19 0 := ⟨C_Mo, T_Mo, rfl, by decide, rfl, (lw_gdI 1201 (by decide +kernel) rfl), in_Mo⟩
theorem oi_Fp_1 : Cond.methodLink C_Fp 1 objectInit ∈ lw_gd := (lw_gdI 117 (by decide +kernel) rfl)
theorem cc_Fp_21 : CIn C_Fp 21 k_Re_init 0 := ⟨mok_Re_init, ⟨"FourPoses", (lw_nestI 124 (by decide +kernel) rfl)⟩, (lw_gdI 125 (by decide +kernel) rfl), rfl, by decide +kernel⟩
theorem cc_Fp_28 : CIn C_Fp 28 k_Fa_init 0 := ⟨mok_Fa_init, ⟨"FourPoses", (lw_nestI 196 (by decide +kernel) rfl)⟩, (lw_gdI 197 (by decide +kernel) rfl), rfl, by decide +kernel⟩
theorem cc_Fp_35 : CIn C_Fp 35 k_Rp_init 0 := ⟨mok_Rp_init, ⟨"FourPoses", (lw_nestI 210 (by decide +kernel) rfl)⟩, (lw_gdI 211 (by decide +kernel) rfl), rfl, by decide +kernel⟩
theorem cc_Fp_42 : CIn C_Fp 42 k_Ro_init 0 := ⟨mok_Ro_init, ⟨"FourPoses", (lw_nestI 223 (by decide +kernel) rfl)⟩, (lw_gdI 224 (by decide +kernel) rfl), rfl, by decide +kernel⟩
theorem cc_Fp_49 : CIn C_Fp 49 k_Cr_init 0 := ⟨mok_Cr_init, ⟨"FourPoses", (lw_nestI 233 (by decide +kernel) rfl)⟩, (lw_gdI 234 (by decide +kernel) rfl), rfl, by decide +kernel⟩
theorem cc_Fp_56 : CIt C_Fp 56 k_To_init 0 := ⟨mok_To_init, (lw_gdI 249 (by decide +kernel) rfl), (lw_gdI 250 (by decide +kernel) rfl), rfl, by decide +kernel⟩
theorem cc_Fp_65 : CIn C_Fp 65 k_La_init 0 := ⟨mok_La_init, ⟨"FourPoses", (lw_nestI 471 (by decide +kernel) rfl)⟩, (lw_gdI 131 (by decide +kernel) rfl), rfl, by decide +kernel⟩
theorem oi_Bo_3 : Cond.methodLink C_Bo 3 objectInit ∈ lw_gd := (lw_gdI 370 (by decide +kernel) rfl)
theorem oi_Cr_3 : Cond.methodLink C_Cr 3 objectInit ∈ lw_gd := (lw_gdI 236 (by decide +kernel) rfl)
theorem oi_Di_5 : Cond.methodLink C_Di 5 objectInit ∈ lw_gd := (lw_gdI 260 (by decide +kernel) rfl)
theorem oi_Fa_1 : Cond.methodLink C_Fa 1 objectInit ∈ lw_gd := (lw_gdI 199 (by decide +kernel) rfl)
theorem oi_La_3 : Cond.methodLink C_La 3 objectInit ∈ lw_gd := (lw_gdI 133 (by decide +kernel) rfl)
theorem oi_Po_3 : Cond.methodLink C_Po 3 objectInit ∈ lw_gd := (lw_gdI 323 (by decide +kernel) rfl)
theorem oi_Re_3 : Cond.methodLink C_Re 3 objectInit ∈ lw_gd := (lw_gdI 127 (by decide +kernel) rfl)
theorem cc_Re_23 : CIn C_Re 23 k_La_init 0 := ⟨mok_La_init, ⟨"FourPoses", (lw_nestI 130 (by decide +kernel) rfl)⟩, (lw_gdI 131 (by decide +kernel) rfl), rfl, by decide +kernel⟩
theorem oi_Rp_3 : Cond.methodLink C_Rp 3 objectInit ∈ lw_gd := (lw_gdI 213 (by decide +kernel) rfl)
theorem oi_Ro_3 : Cond.methodLink C_Ro 3 objectInit ∈ lw_gd := (lw_gdI 226 (by decide +kernel) rfl)
theorem oi_To_3 : Cond.methodLink C_To 3 objectInit ∈ lw_gd := (lw_gdI 252 (by decide +kernel) rfl)
theorem cc_To_29 : CIn C_To 29 k_Di_init 0 := ⟨mok_Di_init, ⟨"FourPoses", (lw_nestI 257 (by decide +kernel) rfl)⟩, (lw_gdI 258 (by decide +kernel) rfl), rfl, by decide +kernel⟩
theorem cc_To_36 : CIn C_To 36 k_Po_init 0 := ⟨mok_Po_init, ⟨"FourPoses", (lw_nestI 320 (by decide +kernel) rfl)⟩, (lw_gdI 321 (by decide +kernel) rfl), rfl, by decide +kernel⟩
theorem cc_To_47 : CIn C_To 47 k_Bo_init 0 := ⟨mok_Bo_init, ⟨"FourPoses", (lw_nestI 367 (by decide +kernel) rfl)⟩, (lw_gdI 368 (by decide +kernel) rfl), rfl, by decide +kernel⟩
theorem cc_L_9 : CIt C_L 9 k_Fp_init 0 := ⟨mok_Fp_init, (lw_gdI 114 (by decide +kernel) rfl), (lw_gdI 115 (by decide +kernel) rfl), rfl, by decide +kernel⟩
theorem cc_L_12 : CIt C_L 12 k_Mo_init 0 := ⟨mok_Mo_init, (lw_gdI 1177 (by decide +kernel) rfl), (lw_gdI 1178 (by decide +kernel) rfl), rfl, by decide +kernel⟩
theorem oi_Mo_1 : Cond.methodLink C_Mo 1 objectInit ∈ lw_gd := (lw_gdI 1180 (by decide +kernel) rfl)
theorem cs_Fp_70 : CSt C_Fp 70 k_Fp_within 3 := ⟨mok_Fp_within, (lw_gdI 510 (by decide +kernel) rfl), (lw_gdI 511 (by decide +kernel) rfl), by decide +kernel⟩
theorem cs_Fp_77 : CSt C_Fp 77 k_Fp_put 3 := ⟨mok_Fp_put, (lw_gdI 513 (by decide +kernel) rfl), (lw_gdI 514 (by decide +kernel) rfl), by decide +kernel⟩
theorem cs_Fp_92 : CSt C_Fp 92 k_Fp_isDay 1 := ⟨mok_Fp_isDay, (lw_gdI 535 (by decide +kernel) rfl), (lw_gdI 536 (by decide +kernel) rfl), by decide +kernel⟩
theorem cs_Fp_98 : CSt C_Fp 98 k_Fp_get 2 := ⟨mok_Fp_get, (lw_gdI 538 (by decide +kernel) rfl), (lw_gdI 529 (by decide +kernel) rfl), by decide +kernel⟩
theorem cs_Fp_203 : CSt C_Fp 203 k_Fp_isBath 1 := ⟨mok_Fp_isBath, (lw_gdI 855 (by decide +kernel) rfl), (lw_gdI 856 (by decide +kernel) rfl), by decide +kernel⟩
theorem cs_Fp_221 : CSt C_Fp 221 k_Fp_isSpoiler 1 := ⟨mok_Fp_isSpoiler, (lw_gdI 883 (by decide +kernel) rfl), (lw_gdI 884 (by decide +kernel) rfl), by decide +kernel⟩
theorem cs_Fp_310 : CSt C_Fp 310 k_Fp_isSpan 2 := ⟨mok_Fp_isSpan, (lw_gdI 1030 (by decide +kernel) rfl), (lw_gdI 1031 (by decide +kernel) rfl), by decide +kernel⟩
theorem cs_Fp_412 : CSt C_Fp 412 k_Fp_held 3 := ⟨mok_Fp_held, (lw_gdI 1040 (by decide +kernel) rfl), (lw_gdI 821 (by decide +kernel) rfl), by decide +kernel⟩
theorem cs_Bo_49 : CSt C_Bo 49 k_Ar_fill_II 2 := ⟨mok_Ar_fill_II, (lw_gdI 728 (by decide +kernel) rfl), (lw_gdI 364 (by decide +kernel) rfl), by decide +kernel⟩
theorem cs_Bo_55 : CSn C_Bo 55 k_Fp_copy 2 := ⟨mok_Fp_copy, ⟨"FourPoses", (lw_nestI 1170 (by decide +kernel) rfl)⟩, (lw_gdI 1150 (by decide +kernel) rfl), by decide +kernel⟩
theorem cs_Cr_28 : CSt C_Cr 28 k_In_bitCount 1 := ⟨mok_In_bitCount, (lw_gdI 1106 (by decide +kernel) rfl), (lw_gdI 1107 (by decide +kernel) rfl), by decide +kernel⟩
theorem cs_Cr_41 : CSn C_Cr 41 k_Fp_put 3 := ⟨mok_Fp_put, ⟨"FourPoses", (lw_nestI 1124 (by decide +kernel) rfl)⟩, (lw_gdI 514 (by decide +kernel) rfl), by decide +kernel⟩
theorem cs_Cr_68 : CSn C_Cr 68 k_Fp_get 2 := ⟨mok_Fp_get, ⟨"FourPoses", (lw_nestI 1122 (by decide +kernel) rfl)⟩, (lw_gdI 529 (by decide +kernel) rfl), by decide +kernel⟩
theorem cs_Di_52 : CSn C_Di 52 k_Fp_copy 2 := ⟨mok_Fp_copy, ⟨"FourPoses", (lw_nestI 1160 (by decide +kernel) rfl)⟩, (lw_gdI 1150 (by decide +kernel) rfl), by decide +kernel⟩
theorem cs_Di_56 : CSn C_Di 56 k_Fp_put 3 := ⟨mok_Fp_put, ⟨"FourPoses", (lw_nestI 834 (by decide +kernel) rfl)⟩, (lw_gdI 514 (by decide +kernel) rfl), by decide +kernel⟩
theorem cs_Di_64 : CSn C_Di 64 k_Fp_get 2 := ⟨mok_Fp_get, ⟨"FourPoses", (lw_nestI 890 (by decide +kernel) rfl)⟩, (lw_gdI 529 (by decide +kernel) rfl), by decide +kernel⟩
theorem cs_Di_72 : CSn C_Di 72 k_Fp_within 3 := ⟨mok_Fp_within, ⟨"FourPoses", (lw_nestI 968 (by decide +kernel) rfl)⟩, (lw_gdI 511 (by decide +kernel) rfl), by decide +kernel⟩
theorem cs_Fa_20 : CSt C_Fa 20 k_Ar_fill_JJ 2 := ⟨mok_Ar_fill_JJ, (lw_gdI 749 (by decide +kernel) rfl), (lw_gdI 750 (by decide +kernel) rfl), by decide +kernel⟩
theorem cs_Fa_42 : CSn C_Fa 42 k_Fp_get 2 := ⟨mok_Fp_get, ⟨"FourPoses", (lw_nestI 756 (by decide +kernel) rfl)⟩, (lw_gdI 529 (by decide +kernel) rfl), by decide +kernel⟩
theorem cs_La_40 : CSt C_La 40 k_Ar_fill_II 2 := ⟨mok_Ar_fill_II, (lw_gdI 647 (by decide +kernel) rfl), (lw_gdI 364 (by decide +kernel) rfl), by decide +kernel⟩
theorem cs_La_46 : CSn C_La 46 k_Fp_put 3 := ⟨mok_Fp_put, ⟨"FourPoses", (lw_nestI 664 (by decide +kernel) rfl)⟩, (lw_gdI 514 (by decide +kernel) rfl), by decide +kernel⟩
theorem cs_La_50 : CSn C_La 50 k_Fp_get 2 := ⟨mok_Fp_get, ⟨"FourPoses", (lw_nestI 769 (by decide +kernel) rfl)⟩, (lw_gdI 529 (by decide +kernel) rfl), by decide +kernel⟩
theorem cs_La_84 : CSn C_La 84 k_Fp_held 3 := ⟨mok_Fp_held, ⟨"FourPoses", (lw_nestI 820 (by decide +kernel) rfl)⟩, (lw_gdI 821 (by decide +kernel) rfl), by decide +kernel⟩
theorem cs_Po_43 : CSn C_Po 43 k_Fp_copy 2 := ⟨mok_Fp_copy, ⟨"FourPoses", (lw_nestI 1165 (by decide +kernel) rfl)⟩, (lw_gdI 1150 (by decide +kernel) rfl), by decide +kernel⟩
theorem cs_Po_47 : CSn C_Po 47 k_Fp_put 3 := ⟨mok_Fp_put, ⟨"FourPoses", (lw_nestI 951 (by decide +kernel) rfl)⟩, (lw_gdI 514 (by decide +kernel) rfl), by decide +kernel⟩
theorem cs_Po_51 : CSn C_Po 51 k_Fp_get 2 := ⟨mok_Fp_get, ⟨"FourPoses", (lw_nestI 961 (by decide +kernel) rfl)⟩, (lw_gdI 529 (by decide +kernel) rfl), by decide +kernel⟩
theorem cs_Re_63 : CSn C_Re 63 k_Fp_get 2 := ⟨mok_Fp_get, ⟨"FourPoses", (lw_nestI 563 (by decide +kernel) rfl)⟩, (lw_gdI 529 (by decide +kernel) rfl), by decide +kernel⟩
theorem cs_Re_67 : CSt C_Re 67 k_Re_isDigit 1 := ⟨mok_Re_isDigit, (lw_gdI 564 (by decide +kernel) rfl), (lw_gdI 565 (by decide +kernel) rfl), by decide +kernel⟩
theorem cs_Re_71 : CSt C_Re 71 k_Re_runOf 5 := ⟨mok_Re_runOf, (lw_gdI 568 (by decide +kernel) rfl), (lw_gdI 569 (by decide +kernel) rfl), by decide +kernel⟩
theorem cs_Re_75 : CSt C_Re 75 k_Re_numberIn 3 := ⟨mok_Re_numberIn, (lw_gdI 571 (by decide +kernel) rfl), (lw_gdI 572 (by decide +kernel) rfl), by decide +kernel⟩
theorem cs_Re_83 : CSt C_Re 83 k_Re_isLetter 1 := ⟨mok_Re_isLetter, (lw_gdI 579 (by decide +kernel) rfl), (lw_gdI 580 (by decide +kernel) rfl), by decide +kernel⟩
theorem cs_Re_86 : CSt C_Re 86 k_Re_wordIn 3 := ⟨mok_Re_wordIn, (lw_gdI 582 (by decide +kernel) rfl), (lw_gdI 583 (by decide +kernel) rfl), by decide +kernel⟩
theorem cs_Re_89 : CSt C_Re 89 k_Re_signToken 1 := ⟨mok_Re_signToken, (lw_gdI 637 (by decide +kernel) rfl), (lw_gdI 638 (by decide +kernel) rfl), by decide +kernel⟩
theorem cs_Re_99 : CSn C_Re 99 k_Fp_put 3 := ⟨mok_Fp_put, ⟨"FourPoses", (lw_nestI 578 (by decide +kernel) rfl)⟩, (lw_gdI 514 (by decide +kernel) rfl), by decide +kernel⟩
theorem cs_Re_103 : CSn C_Re 103 k_Fp_within 3 := ⟨mok_Fp_within, ⟨"FourPoses", (lw_nestI 567 (by decide +kernel) rfl)⟩, (lw_gdI 511 (by decide +kernel) rfl), by decide +kernel⟩
theorem cs_Re_119 : CSt C_Re 119 k_Re_isWordAt 4 := ⟨mok_Re_isWordAt, (lw_gdI 634 (by decide +kernel) rfl), (lw_gdI 635 (by decide +kernel) rfl), by decide +kernel⟩
theorem cs_Rp_38 : CSt C_Rp 38 k_Rp_openStrip 4 := ⟨mok_Rp_openStrip, (lw_gdI 901 (by decide +kernel) rfl), (lw_gdI 902 (by decide +kernel) rfl), by decide +kernel⟩
theorem cs_Rp_48 : CSn C_Rp 48 k_Fp_put 3 := ⟨mok_Fp_put, ⟨"FourPoses", (lw_nestI 909 (by decide +kernel) rfl)⟩, (lw_gdI 514 (by decide +kernel) rfl), by decide +kernel⟩
theorem cs_Rp_64 : CSn C_Rp 64 k_Fp_get 2 := ⟨mok_Fp_get, ⟨"FourPoses", (lw_nestI 904 (by decide +kernel) rfl)⟩, (lw_gdI 529 (by decide +kernel) rfl), by decide +kernel⟩
theorem cs_Ro_33 : CSn C_Ro 33 k_Fp_put 3 := ⟨mok_Fp_put, ⟨"FourPoses", (lw_nestI 1072 (by decide +kernel) rfl)⟩, (lw_gdI 514 (by decide +kernel) rfl), by decide +kernel⟩
theorem cs_Ro_47 : CSn C_Ro 47 k_Fp_get 2 := ⟨mok_Fp_get, ⟨"FourPoses", (lw_nestI 1068 (by decide +kernel) rfl)⟩, (lw_gdI 529 (by decide +kernel) rfl), by decide +kernel⟩
theorem cs_To_41 : CSt C_To 41 k_Ar_fill_II 2 := ⟨mok_Ar_fill_II, (lw_gdI 363 (by decide +kernel) rfl), (lw_gdI 364 (by decide +kernel) rfl), by decide +kernel⟩
theorem cs_To_58 : CSn C_To 58 k_Fp_copy 2 := ⟨mok_Fp_copy, ⟨"FourPoses", (lw_nestI 1149 (by decide +kernel) rfl)⟩, (lw_gdI 1150 (by decide +kernel) rfl), by decide +kernel⟩
theorem cs_To_83 : CSn C_To 83 k_Fp_get 2 := ⟨mok_Fp_get, ⟨"FourPoses", (lw_nestI 528 (by decide +kernel) rfl)⟩, (lw_gdI 529 (by decide +kernel) rfl), by decide +kernel⟩
theorem cs_Mo_64 : CSt C_Mo 64 k_Mo_in 3 := ⟨mok_Mo_in, (lw_gdI 1270 (by decide +kernel) rfl), (lw_gdI 1271 (by decide +kernel) rfl), by decide +kernel⟩
theorem cs_Mo_74 : CSt C_Mo 74 k_Mo_isDay 1 := ⟨mok_Mo_isDay, (lw_gdI 1286 (by decide +kernel) rfl), (lw_gdI 1287 (by decide +kernel) rfl), by decide +kernel⟩
theorem cs_Mo_147 : CSt C_Mo 147 k_Mo_strength 1 := ⟨mok_Mo_strength, (lw_gdI 1422 (by decide +kernel) rfl), (lw_gdI 1423 (by decide +kernel) rfl), by decide +kernel⟩
theorem cs_Mo_253 : CSt C_Mo 253 k_Mo_one 3 := ⟨mok_Mo_one, (lw_gdI 1501 (by decide +kernel) rfl), (lw_gdI 1502 (by decide +kernel) rfl), by decide +kernel⟩
theorem cs_Mo_382 : CSt C_Mo 382 k_Mo_bits 1 := ⟨mok_Mo_bits, (lw_gdI 1684 (by decide +kernel) rfl), (lw_gdI 1685 (by decide +kernel) rfl), by decide +kernel⟩
theorem cs_St_495 : CSt C_St 495 k_S1_charAt 2 := ⟨mok_S1_charAt, (lw_gdI 604 (by decide +kernel) rfl), (lw_gdI 605 (by decide +kernel) rfl), by decide +kernel⟩
theorem cs_St_498 : CSt C_St 498 k_S2_charAt 2 := ⟨mok_S2_charAt, (lw_gdI 615 (by decide +kernel) rfl), (lw_gdI 616 (by decide +kernel) rfl), by decide +kernel⟩
theorem cs_St_1059 : CSt C_St 1059 k_Pr_checkIndex 3 := ⟨mok_Pr_checkIndex, (lw_gdI 612 (by decide +kernel) rfl), (lw_gdI 613 (by decide +kernel) rfl), by decide +kernel⟩
theorem cs_S1_9 : CSt C_S1 9 k_St_checkIndex 2 := ⟨mok_St_checkIndex, (lw_gdI 607 (by decide +kernel) rfl), (lw_gdI 608 (by decide +kernel) rfl), by decide +kernel⟩
theorem cs_S2_48 : CSt C_S2 48 k_S2_length 1 := ⟨mok_S2_length, (lw_gdI 621 (by decide +kernel) rfl), (lw_gdI 622 (by decide +kernel) rfl), by decide +kernel⟩
theorem cs_S2_67 : CSt C_S2 67 k_S2_checkIndex 2 := ⟨mok_S2_checkIndex, (lw_gdI 618 (by decide +kernel) rfl), (lw_gdI 619 (by decide +kernel) rfl), by decide +kernel⟩
theorem cs_S2_71 : CSt C_S2 71 k_S2_getChar 2 := ⟨mok_S2_getChar, (lw_gdI 625 (by decide +kernel) rfl), (lw_gdI 626 (by decide +kernel) rfl), by decide +kernel⟩
theorem cs_S2_414 : CSt C_S2 414 k_St_checkIndex 2 := ⟨mok_St_checkIndex, (lw_gdI 624 (by decide +kernel) rfl), (lw_gdI 608 (by decide +kernel) rfl), by decide +kernel⟩
theorem cv_Fp_81 : CVt C_Fp 81 k_To_hasPlace 1 := ⟨mok_To_hasPlace, (lw_gdI 520 (by decide +kernel) rfl), (lw_gdI 521 (by decide +kernel) rfl), (lw_gdI 522 (by decide +kernel) rfl), by decide +kernel⟩
theorem cv_Fp_85 : CVt C_Fp 85 k_To_between 2 := ⟨mok_To_between, (lw_gdI 524 (by decide +kernel) rfl), (lw_gdI 525 (by decide +kernel) rfl), (lw_gdI 526 (by decide +kernel) rfl), by decide +kernel⟩
theorem cv_Fp_105 : CVt C_Fp 105 k_Fp_append 1 := ⟨mok_Fp_append, (lw_gdI 543 (by decide +kernel) rfl), (lw_gdI 545 (by decide +kernel) rfl), (lw_gdI 0 (by decide +kernel) rfl), by decide +kernel⟩
theorem cv_Fp_112 : CVt C_Fp 112 k_Re_read 3 := ⟨mok_Re_read, (lw_gdI 555 (by decide +kernel) rfl), (lw_gdI 556 (by decide +kernel) rfl), (lw_gdI 557 (by decide +kernel) rfl), by decide +kernel⟩
theorem cv_Fp_119 : CVt C_Fp 119 k_To_slot 1 := ⟨mok_To_slot, (lw_gdI 710 (by decide +kernel) rfl), (lw_gdI 711 (by decide +kernel) rfl), (lw_gdI 712 (by decide +kernel) rfl), by decide +kernel⟩
theorem cv_Fp_123 : CVt C_Fp 123 k_To_isFree 1 := ⟨mok_To_isFree, (lw_gdI 714 (by decide +kernel) rfl), (lw_gdI 715 (by decide +kernel) rfl), (lw_gdI 716 (by decide +kernel) rfl), by decide +kernel⟩
theorem cv_Fp_126 : CVt C_Fp 126 k_Fp_lawAt 1 := ⟨mok_Fp_lawAt, (lw_gdI 720 (by decide +kernel) rfl), (lw_gdI 722 (by decide +kernel) rfl), (lw_gdI 13 (by decide +kernel) rfl), by decide +kernel⟩
theorem cv_Fp_133 : CVt C_Fp 133 k_Bo_begin 4 := ⟨mok_Bo_begin, (lw_gdI 724 (by decide +kernel) rfl), (lw_gdI 725 (by decide +kernel) rfl), (lw_gdI 726 (by decide +kernel) rfl), by decide +kernel⟩
theorem cv_Fp_139 : CVt C_Fp 139 k_To_boothAt 1 := ⟨mok_To_boothAt, (lw_gdI 733 (by decide +kernel) rfl), (lw_gdI 734 (by decide +kernel) rfl), (lw_gdI 735 (by decide +kernel) rfl), by decide +kernel⟩
theorem cv_Fp_160 : CVt C_Fp 160 k_Fa_open 3 := ⟨mok_Fa_open, (lw_gdI 745 (by decide +kernel) rfl), (lw_gdI 746 (by decide +kernel) rfl), (lw_gdI 747 (by decide +kernel) rfl), by decide +kernel⟩
theorem cv_Fp_164 : CVt C_Fp 164 k_Fa_pose 2 := ⟨mok_Fa_pose, (lw_gdI 757 (by decide +kernel) rfl), (lw_gdI 758 (by decide +kernel) rfl), (lw_gdI 759 (by decide +kernel) rfl), by decide +kernel⟩
theorem cv_Fp_174 : CVt C_Fp 174 k_Fa_till 2 := ⟨mok_Fa_till, (lw_gdI 761 (by decide +kernel) rfl), (lw_gdI 762 (by decide +kernel) rfl), (lw_gdI 763 (by decide +kernel) rfl), by decide +kernel⟩
theorem cv_Fp_180 : CVt C_Fp 180 k_La_spoiler 2 := ⟨mok_La_spoiler, (lw_gdI 765 (by decide +kernel) rfl), (lw_gdI 766 (by decide +kernel) rfl), (lw_gdI 767 (by decide +kernel) rfl), by decide +kernel⟩
theorem cv_Fp_186 : CVt C_Fp 186 k_La_wear 3 := ⟨mok_La_wear, (lw_gdI 806 (by decide +kernel) rfl), (lw_gdI 807 (by decide +kernel) rfl), (lw_gdI 808 (by decide +kernel) rfl), by decide +kernel⟩
theorem cv_Fp_190 : CVt C_Fp 190 k_Di_addStrip 3 := ⟨mok_Di_addStrip, (lw_gdI 830 (by decide +kernel) rfl), (lw_gdI 831 (by decide +kernel) rfl), (lw_gdI 832 (by decide +kernel) rfl), by decide +kernel⟩
theorem cv_Fp_194 : CVt C_Fp 194 k_Di_tellStrip 4 := ⟨mok_Di_tellStrip, (lw_gdI 839 (by decide +kernel) rfl), (lw_gdI 840 (by decide +kernel) rfl), (lw_gdI 841 (by decide +kernel) rfl), by decide +kernel⟩
theorem cv_Fp_200 : CVt C_Fp 200 k_Fp_ageAll 1 := ⟨mok_Fp_ageAll, (lw_gdI 847 (by decide +kernel) rfl), (lw_gdI 849 (by decide +kernel) rfl), (lw_gdI 16 (by decide +kernel) rfl), by decide +kernel⟩
theorem cv_Fp_212 : CVt C_Fp 212 k_Di_addChange 3 := ⟨mok_Di_addChange, (lw_gdI 858 (by decide +kernel) rfl), (lw_gdI 859 (by decide +kernel) rfl), (lw_gdI 860 (by decide +kernel) rfl), by decide +kernel⟩
theorem cv_Fp_215 : CVt C_Fp 215 k_Di_addEmptying 2 := ⟨mok_Di_addEmptying, (lw_gdI 866 (by decide +kernel) rfl), (lw_gdI 867 (by decide +kernel) rfl), (lw_gdI 868 (by decide +kernel) rfl), by decide +kernel⟩
theorem cv_Fp_218 : CVt C_Fp 218 k_To_isBoothOrAll 1 := ⟨mok_To_isBoothOrAll, (lw_gdI 878 (by decide +kernel) rfl), (lw_gdI 879 (by decide +kernel) rfl), (lw_gdI 880 (by decide +kernel) rfl), by decide +kernel⟩
theorem cv_Fp_224 : CVt C_Fp 224 k_Di_isOf 2 := ⟨mok_Di_isOf, (lw_gdI 886 (by decide +kernel) rfl), (lw_gdI 887 (by decide +kernel) rfl), (lw_gdI 888 (by decide +kernel) rfl), by decide +kernel⟩
theorem cv_Fp_231 : CVt C_Fp 231 k_Rp_runAll 4 := ⟨mok_Rp_runAll, (lw_gdI 895 (by decide +kernel) rfl), (lw_gdI 896 (by decide +kernel) rfl), (lw_gdI 897 (by decide +kernel) rfl), by decide +kernel⟩
theorem cv_Fp_235 : CVt C_Fp 235 k_Rp_tally 3 := ⟨mok_Rp_tally, (lw_gdI 920 (by decide +kernel) rfl), (lw_gdI 921 (by decide +kernel) rfl), (lw_gdI 922 (by decide +kernel) rfl), by decide +kernel⟩
theorem cv_Fp_242 : CVt C_Fp 242 k_Rp_runBath 6 := ⟨mok_Rp_runBath, (lw_gdI 932 (by decide +kernel) rfl), (lw_gdI 911 (by decide +kernel) rfl), (lw_gdI 912 (by decide +kernel) rfl), by decide +kernel⟩
theorem cv_Fp_246 : CVt C_Fp 246 k_Rp_tallySpoilt 2 := ⟨mok_Rp_tallySpoilt, (lw_gdI 933 (by decide +kernel) rfl), (lw_gdI 934 (by decide +kernel) rfl), (lw_gdI 935 (by decide +kernel) rfl), by decide +kernel⟩
theorem cv_Fp_261 : CVt C_Fp 261 k_Po_addReading 5 := ⟨mok_Po_addReading, (lw_gdI 947 (by decide +kernel) rfl), (lw_gdI 948 (by decide +kernel) rfl), (lw_gdI 949 (by decide +kernel) rfl), by decide +kernel⟩
theorem cv_Fp_266 : CVt C_Fp 266 k_Po_latestReading 3 := ⟨mok_Po_latestReading, (lw_gdI 957 (by decide +kernel) rfl), (lw_gdI 958 (by decide +kernel) rfl), (lw_gdI 959 (by decide +kernel) rfl), by decide +kernel⟩
theorem cv_Fp_274 : CVt C_Fp 274 k_Di_stripsIn 3 := ⟨mok_Di_stripsIn, (lw_gdI 963 (by decide +kernel) rfl), (lw_gdI 964 (by decide +kernel) rfl), (lw_gdI 965 (by decide +kernel) rfl), by decide +kernel⟩
theorem cv_Fp_286 : CVt C_Fp 286 k_Po_addClaim 3 := ⟨mok_Po_addClaim, (lw_gdI 973 (by decide +kernel) rfl), (lw_gdI 974 (by decide +kernel) rfl), (lw_gdI 975 (by decide +kernel) rfl), by decide +kernel⟩
theorem cv_Fp_289 : CVt C_Fp 289 k_Fp_missing 1 := ⟨mok_Fp_missing, (lw_gdI 981 (by decide +kernel) rfl), (lw_gdI 983 (by decide +kernel) rfl), (lw_gdI 19 (by decide +kernel) rfl), by decide +kernel⟩
theorem cv_Fp_293 : CVt C_Fp 293 k_Fp_isRefunded 1 := ⟨mok_Fp_isRefunded, (lw_gdI 993 (by decide +kernel) rfl), (lw_gdI 995 (by decide +kernel) rfl), (lw_gdI 20 (by decide +kernel) rfl), by decide +kernel⟩
theorem cv_Fp_296 : CVt C_Fp 296 k_Fp_twice 0 := ⟨mok_Fp_twice, (lw_gdI 1006 (by decide +kernel) rfl), (lw_gdI 1008 (by decide +kernel) rfl), (lw_gdI 21 (by decide +kernel) rfl), by decide +kernel⟩
theorem cv_Fp_300 : CVt C_Fp 300 k_Fp_unfairOf 1 := ⟨mok_Fp_unfairOf, (lw_gdI 1010 (by decide +kernel) rfl), (lw_gdI 1012 (by decide +kernel) rfl), (lw_gdI 22 (by decide +kernel) rfl), by decide +kernel⟩
theorem cv_Fp_303 : CVt C_Fp 303 k_Fp_isRefused 2 := ⟨mok_Fp_isRefused, (lw_gdI 1018 (by decide +kernel) rfl), (lw_gdI 1020 (by decide +kernel) rfl), (lw_gdI 23 (by decide +kernel) rfl), by decide +kernel⟩
theorem cv_Fp_313 : CVt C_Fp 313 k_Fp_rentBy 4 := ⟨mok_Fp_rentBy, (lw_gdI 1033 (by decide +kernel) rfl), (lw_gdI 1035 (by decide +kernel) rfl), (lw_gdI 24 (by decide +kernel) rfl), by decide +kernel⟩
theorem cv_Fp_318 : CVt C_Fp 318 k_Ro_plan 2 := ⟨mok_Ro_plan, (lw_gdI 1050 (by decide +kernel) rfl), (lw_gdI 1051 (by decide +kernel) rfl), (lw_gdI 1052 (by decide +kernel) rfl), by decide +kernel⟩
theorem cv_Fp_322 : CVt C_Fp 322 k_Ro_leastFrom 3 := ⟨mok_Ro_leastFrom, (lw_gdI 1073 (by decide +kernel) rfl), (lw_gdI 1060 (by decide +kernel) rfl), (lw_gdI 1061 (by decide +kernel) rfl), by decide +kernel⟩
theorem cv_Fp_326 : CVt C_Fp 326 k_Ro_stop 4 := ⟨mok_Ro_stop, (lw_gdI 1074 (by decide +kernel) rfl), (lw_gdI 1075 (by decide +kernel) rfl), (lw_gdI 1076 (by decide +kernel) rfl), by decide +kernel⟩
theorem cv_Fp_333 : CVt C_Fp 333 k_To_worthOf 1 := ⟨mok_To_worthOf, (lw_gdI 1090 (by decide +kernel) rfl), (lw_gdI 1091 (by decide +kernel) rfl), (lw_gdI 1092 (by decide +kernel) rfl), by decide +kernel⟩
theorem cv_Fp_342 : CVt C_Fp 342 k_Cr_plan 3 := ⟨mok_Cr_plan, (lw_gdI 1102 (by decide +kernel) rfl), (lw_gdI 1103 (by decide +kernel) rfl), (lw_gdI 1104 (by decide +kernel) rfl), by decide +kernel⟩
theorem cv_Fp_345 : CVt C_Fp 345 k_Cr_together 0 := ⟨mok_Cr_together, (lw_gdI 1125 (by decide +kernel) rfl), (lw_gdI 1126 (by decide +kernel) rfl), (lw_gdI 1127 (by decide +kernel) rfl), by decide +kernel⟩
theorem cv_Fp_348 : CVt C_Fp 348 k_Cr_spotOf 2 := ⟨mok_Cr_spotOf, (lw_gdI 1129 (by decide +kernel) rfl), (lw_gdI 1130 (by decide +kernel) rfl), (lw_gdI 1131 (by decide +kernel) rfl), by decide +kernel⟩
theorem cv_Fp_352 : CVt C_Fp 352 k_To_become 1 := ⟨mok_To_become, (lw_gdI 1145 (by decide +kernel) rfl), (lw_gdI 1146 (by decide +kernel) rfl), (lw_gdI 1147 (by decide +kernel) rfl), by decide +kernel⟩
theorem cv_Fp_379 : CVt C_Fp 379 k_Di_spoiltOn 2 := ⟨mok_Di_spoiltOn, (lw_gdI 985 (by decide +kernel) rfl), (lw_gdI 986 (by decide +kernel) rfl), (lw_gdI 987 (by decide +kernel) rfl), by decide +kernel⟩
theorem cv_Fp_382 : CVt C_Fp 382 k_Po_claimsAhead 1 := ⟨mok_Po_claimsAhead, (lw_gdI 989 (by decide +kernel) rfl), (lw_gdI 990 (by decide +kernel) rfl), (lw_gdI 991 (by decide +kernel) rfl), by decide +kernel⟩
theorem cv_Fp_385 : CVt C_Fp 385 k_Po_claimsUpTo 1 := ⟨mok_Po_claimsUpTo, (lw_gdI 997 (by decide +kernel) rfl), (lw_gdI 998 (by decide +kernel) rfl), (lw_gdI 999 (by decide +kernel) rfl), by decide +kernel⟩
theorem cv_Fp_388 : CVt C_Fp 388 k_La_holds 2 := ⟨mok_La_holds, (lw_gdI 1001 (by decide +kernel) rfl), (lw_gdI 779 (by decide +kernel) rfl), (lw_gdI 780 (by decide +kernel) rfl), by decide +kernel⟩
theorem cv_Fp_404 : CVt C_Fp 404 k_La_total 3 := ⟨mok_La_total, (lw_gdI 1037 (by decide +kernel) rfl), (lw_gdI 816 (by decide +kernel) rfl), (lw_gdI 817 (by decide +kernel) rfl), by decide +kernel⟩
theorem cv_Cr_37 : CVt C_Cr 37 k_Cr_mostOf 3 := ⟨mok_Cr_mostOf, (lw_gdI 1112 (by decide +kernel) rfl), (lw_gdI 1114 (by decide +kernel) rfl), (lw_gdI 27 (by decide +kernel) rfl), by decide +kernel⟩
theorem cv_Cr_46 : CVt C_Cr 46 k_Cr_coinsBy 4 := ⟨mok_Cr_coinsBy, (lw_gdI 1117 (by decide +kernel) rfl), (lw_gdI 1119 (by decide +kernel) rfl), (lw_gdI 28 (by decide +kernel) rfl), by decide +kernel⟩
theorem cv_Cr_56 : CVt C_Cr 56 k_To_boothAt 1 := ⟨mok_To_boothAt, (lw_gdI 1121 (by decide +kernel) rfl), (lw_gdI 734 (by decide +kernel) rfl), (lw_gdI 735 (by decide +kernel) rfl), by decide +kernel⟩
theorem cv_Cr_75 : CVt C_Cr 75 k_Cr_firstSpot 3 := ⟨mok_Cr_firstSpot, (lw_gdI 1133 (by decide +kernel) rfl), (lw_gdI 1135 (by decide +kernel) rfl), (lw_gdI 29 (by decide +kernel) rfl), by decide +kernel⟩
theorem cv_Di_60 : CVt C_Di 60 k_Di_addEvent 3 := ⟨mok_Di_addEvent, (lw_gdI 835 (by decide +kernel) rfl), (lw_gdI 837 (by decide +kernel) rfl), (lw_gdI 15 (by decide +kernel) rfl), by decide +kernel⟩
theorem cv_Di_68 : CVt C_Di 68 k_Di_isOf 2 := ⟨mok_Di_isOf, (lw_gdI 967 (by decide +kernel) rfl), (lw_gdI 887 (by decide +kernel) rfl), (lw_gdI 888 (by decide +kernel) rfl), by decide +kernel⟩
theorem cv_Fa_32 : CVt C_Fa 32 k_Fa_tell 2 := ⟨mok_Fa_tell, (lw_gdI 752 (by decide +kernel) rfl), (lw_gdI 753 (by decide +kernel) rfl), (lw_gdI 754 (by decide +kernel) rfl), by decide +kernel⟩
theorem cv_La_54 : CVt C_La 54 k_La_isWeak 2 := ⟨mok_La_isWeak, (lw_gdI 770 (by decide +kernel) rfl), (lw_gdI 771 (by decide +kernel) rfl), (lw_gdI 772 (by decide +kernel) rfl), by decide +kernel⟩
theorem cv_La_58 : CVt C_La 58 k_La_spoilerBesideBaths 1 := ⟨mok_La_spoilerBesideBaths, (lw_gdI 774 (by decide +kernel) rfl), (lw_gdI 775 (by decide +kernel) rfl), (lw_gdI 776 (by decide +kernel) rfl), by decide +kernel⟩
theorem cv_La_64 : CVt C_La 64 k_La_holds 2 := ⟨mok_La_holds, (lw_gdI 778 (by decide +kernel) rfl), (lw_gdI 779 (by decide +kernel) rfl), (lw_gdI 780 (by decide +kernel) rfl), by decide +kernel⟩
theorem cv_La_68 : CVt C_La 68 k_La_worn 4 := ⟨mok_La_worn, (lw_gdI 810 (by decide +kernel) rfl), (lw_gdI 811 (by decide +kernel) rfl), (lw_gdI 812 (by decide +kernel) rfl), by decide +kernel⟩
theorem cv_La_72 : CVt C_La 72 k_Fa_tell 2 := ⟨mok_Fa_tell, (lw_gdI 814 (by decide +kernel) rfl), (lw_gdI 753 (by decide +kernel) rfl), (lw_gdI 754 (by decide +kernel) rfl), by decide +kernel⟩
theorem cv_La_78 : CVt C_La 78 k_La_total 3 := ⟨mok_La_total, (lw_gdI 815 (by decide +kernel) rfl), (lw_gdI 816 (by decide +kernel) rfl), (lw_gdI 817 (by decide +kernel) rfl), by decide +kernel⟩
theorem cv_La_94 : CVt C_La 94 k_La_run 3 := ⟨mok_La_run, (lw_gdI 782 (by decide +kernel) rfl), (lw_gdI 784 (by decide +kernel) rfl), (lw_gdI 14 (by decide +kernel) rfl), by decide +kernel⟩
theorem cv_La_97 : CVt C_La 97 k_Fa_push 2 := ⟨mok_Fa_push, (lw_gdI 786 (by decide +kernel) rfl), (lw_gdI 787 (by decide +kernel) rfl), (lw_gdI 788 (by decide +kernel) rfl), by decide +kernel⟩
theorem cv_La_101 : CVt C_La 101 k_Fa_meaning 1 := ⟨mok_Fa_meaning, (lw_gdI 790 (by decide +kernel) rfl), (lw_gdI 791 (by decide +kernel) rfl), (lw_gdI 792 (by decide +kernel) rfl), by decide +kernel⟩
theorem cv_La_105 : CVt C_La 105 k_Fa_flip 1 := ⟨mok_Fa_flip, (lw_gdI 794 (by decide +kernel) rfl), (lw_gdI 795 (by decide +kernel) rfl), (lw_gdI 796 (by decide +kernel) rfl), by decide +kernel⟩
theorem cv_La_109 : CVt C_La 109 k_Fa_join 2 := ⟨mok_Fa_join, (lw_gdI 798 (by decide +kernel) rfl), (lw_gdI 799 (by decide +kernel) rfl), (lw_gdI 800 (by decide +kernel) rfl), by decide +kernel⟩
theorem cv_La_112 : CVt C_La 112 k_Fa_result 1 := ⟨mok_Fa_result, (lw_gdI 802 (by decide +kernel) rfl), (lw_gdI 803 (by decide +kernel) rfl), (lw_gdI 804 (by decide +kernel) rfl), by decide +kernel⟩
theorem cv_Re_28 : CVt C_Re 28 k_Re_scan 2 := ⟨mok_Re_scan, (lw_gdI 559 (by decide +kernel) rfl), (lw_gdI 561 (by decide +kernel) rfl), (lw_gdI 1 (by decide +kernel) rfl), by decide +kernel⟩
theorem cv_Re_32 : CVt C_Re 32 k_La_clear 0 := ⟨mok_La_clear, (lw_gdI 643 (by decide +kernel) rfl), (lw_gdI 644 (by decide +kernel) rfl), (lw_gdI 645 (by decide +kernel) rfl), by decide +kernel⟩
theorem cv_Re_45 : CVt C_Re 45 k_Re_step 0 := ⟨mok_Re_step, (lw_gdI 648 (by decide +kernel) rfl), (lw_gdI 650 (by decide +kernel) rfl), (lw_gdI 3 (by decide +kernel) rfl), by decide +kernel⟩
theorem cv_Re_48 : CVt C_Re 48 k_Re_readClause 1 := ⟨mok_Re_readClause, (lw_gdI 652 (by decide +kernel) rfl), (lw_gdI 654 (by decide +kernel) rfl), (lw_gdI 4 (by decide +kernel) rfl), by decide +kernel⟩
theorem cv_Re_57 : CVt C_Re 57 k_Re_fail 1 := ⟨mok_Re_fail, (lw_gdI 656 (by decide +kernel) rfl), (lw_gdI 658 (by decide +kernel) rfl), (lw_gdI 5 (by decide +kernel) rfl), by decide +kernel⟩
theorem cv_Re_79 : CVt C_Re 79 k_Re_addToken 3 := ⟨mok_Re_addToken, (lw_gdI 574 (by decide +kernel) rfl), (lw_gdI 576 (by decide +kernel) rfl), (lw_gdI 2 (by decide +kernel) rfl), by decide +kernel⟩
theorem cv_Re_109 : CVt C_Re 109 k_St_length 0 := ⟨mok_St_length, (lw_gdI 586 (by decide +kernel) rfl), (lw_gdI 587 (by decide +kernel) rfl), (lw_gdI 588 (by decide +kernel) rfl), by decide +kernel⟩
theorem cv_Re_115 : CVt C_Re 115 k_St_charAt 1 := ⟨mok_St_charAt, (lw_gdI 596 (by decide +kernel) rfl), (lw_gdI 597 (by decide +kernel) rfl), (lw_gdI 598 (by decide +kernel) rfl), by decide +kernel⟩
theorem cv_Re_123 : CVt C_Re 123 k_La_beginClause 1 := ⟨mok_La_beginClause, (lw_gdI 660 (by decide +kernel) rfl), (lw_gdI 661 (by decide +kernel) rfl), (lw_gdI 662 (by decide +kernel) rfl), by decide +kernel⟩
theorem cv_Re_126 : CVt C_Re 126 k_Re_readBath 1 := ⟨mok_Re_readBath, (lw_gdI 665 (by decide +kernel) rfl), (lw_gdI 667 (by decide +kernel) rfl), (lw_gdI 6 (by decide +kernel) rfl), by decide +kernel⟩
theorem cv_Re_129 : CVt C_Re 129 k_Re_readWeak 0 := ⟨mok_Re_readWeak, (lw_gdI 673 (by decide +kernel) rfl), (lw_gdI 675 (by decide +kernel) rfl), (lw_gdI 8 (by decide +kernel) rfl), by decide +kernel⟩
theorem cv_Re_132 : CVt C_Re 132 k_Re_readSum 0 := ⟨mok_Re_readSum, (lw_gdI 677 (by decide +kernel) rfl), (lw_gdI 679 (by decide +kernel) rfl), (lw_gdI 9 (by decide +kernel) rfl), by decide +kernel⟩
theorem cv_Re_135 : CVt C_Re 135 k_La_endSum 0 := ⟨mok_La_endSum, (lw_gdI 689 (by decide +kernel) rfl), (lw_gdI 690 (by decide +kernel) rfl), (lw_gdI 691 (by decide +kernel) rfl), by decide +kernel⟩
theorem cv_Re_138 : CVt C_Re 138 k_Re_readTest 1 := ⟨mok_Re_readTest, (lw_gdI 693 (by decide +kernel) rfl), (lw_gdI 695 (by decide +kernel) rfl), (lw_gdI 11 (by decide +kernel) rfl), by decide +kernel⟩
theorem cv_Re_141 : CVt C_Re 141 k_La_endClause 0 := ⟨mok_La_endClause, (lw_gdI 701 (by decide +kernel) rfl), (lw_gdI 702 (by decide +kernel) rfl), (lw_gdI 703 (by decide +kernel) rfl), by decide +kernel⟩
theorem cv_Re_144 : CVt C_Re 144 k_Re_numberHere 1 := ⟨mok_Re_numberHere, (lw_gdI 669 (by decide +kernel) rfl), (lw_gdI 671 (by decide +kernel) rfl), (lw_gdI 7 (by decide +kernel) rfl), by decide +kernel⟩
theorem cv_Re_156 : CVt C_Re 156 k_Re_readFact 1 := ⟨mok_Re_readFact, (lw_gdI 697 (by decide +kernel) rfl), (lw_gdI 699 (by decide +kernel) rfl), (lw_gdI 12 (by decide +kernel) rfl), by decide +kernel⟩
theorem cv_Re_159 : CVt C_Re 159 k_La_emit 1 := ⟨mok_La_emit, (lw_gdI 685 (by decide +kernel) rfl), (lw_gdI 686 (by decide +kernel) rfl), (lw_gdI 687 (by decide +kernel) rfl), by decide +kernel⟩
theorem cv_Re_162 : CVt C_Re 162 k_Re_readValue 0 := ⟨mok_Re_readValue, (lw_gdI 681 (by decide +kernel) rfl), (lw_gdI 683 (by decide +kernel) rfl), (lw_gdI 10 (by decide +kernel) rfl), by decide +kernel⟩
theorem cv_Rp_18 : CVt C_Rp 18 k_To_boothAt 1 := ⟨mok_To_boothAt, (lw_gdI 899 (by decide +kernel) rfl), (lw_gdI 734 (by decide +kernel) rfl), (lw_gdI 735 (by decide +kernel) rfl), by decide +kernel⟩
theorem cv_Rp_34 : CVt C_Rp 34 k_Di_isOf 2 := ⟨mok_Di_isOf, (lw_gdI 900 (by decide +kernel) rfl), (lw_gdI 887 (by decide +kernel) rfl), (lw_gdI 888 (by decide +kernel) rfl), by decide +kernel⟩
theorem cv_Rp_42 : CVt C_Rp 42 k_La_spoilerBesideBaths 1 := ⟨mok_La_spoilerBesideBaths, (lw_gdI 908 (by decide +kernel) rfl), (lw_gdI 775 (by decide +kernel) rfl), (lw_gdI 776 (by decide +kernel) rfl), by decide +kernel⟩
theorem cv_Rp_57 : CVt C_Rp 57 k_Rp_runBath 6 := ⟨mok_Rp_runBath, (lw_gdI 910 (by decide +kernel) rfl), (lw_gdI 911 (by decide +kernel) rfl), (lw_gdI 912 (by decide +kernel) rfl), by decide +kernel⟩
theorem cv_Rp_68 : CVt C_Rp 68 k_Fa_open 3 := ⟨mok_Fa_open, (lw_gdI 905 (by decide +kernel) rfl), (lw_gdI 746 (by decide +kernel) rfl), (lw_gdI 747 (by decide +kernel) rfl), by decide +kernel⟩
theorem cv_Rp_80 : CVt C_Rp 80 k_Fa_pose 2 := ⟨mok_Fa_pose, (lw_gdI 906 (by decide +kernel) rfl), (lw_gdI 758 (by decide +kernel) rfl), (lw_gdI 759 (by decide +kernel) rfl), by decide +kernel⟩
theorem cv_Rp_90 : CVt C_Rp 90 k_Fa_till 2 := ⟨mok_Fa_till, (lw_gdI 907 (by decide +kernel) rfl), (lw_gdI 762 (by decide +kernel) rfl), (lw_gdI 763 (by decide +kernel) rfl), by decide +kernel⟩
theorem cv_Rp_104 : CVt C_Rp 104 k_La_worn 4 := ⟨mok_La_worn, (lw_gdI 914 (by decide +kernel) rfl), (lw_gdI 811 (by decide +kernel) rfl), (lw_gdI 812 (by decide +kernel) rfl), by decide +kernel⟩
theorem cv_Rp_111 : CVt C_Rp 111 k_La_isWeak 2 := ⟨mok_La_isWeak, (lw_gdI 915 (by decide +kernel) rfl), (lw_gdI 771 (by decide +kernel) rfl), (lw_gdI 772 (by decide +kernel) rfl), by decide +kernel⟩
theorem cv_Rp_114 : CVt C_Rp 114 k_Rp_mark 3 := ⟨mok_Rp_mark, (lw_gdI 916 (by decide +kernel) rfl), (lw_gdI 918 (by decide +kernel) rfl), (lw_gdI 17 (by decide +kernel) rfl), by decide +kernel⟩
theorem cv_Rp_121 : CVt C_Rp 121 k_Rp_spoilerOf 1 := ⟨mok_Rp_spoilerOf, (lw_gdI 924 (by decide +kernel) rfl), (lw_gdI 926 (by decide +kernel) rfl), (lw_gdI 18 (by decide +kernel) rfl), by decide +kernel⟩
theorem cv_Ro_21 : CVt C_Ro 21 k_To_spotOf 1 := ⟨mok_To_spotOf, (lw_gdI 1054 (by decide +kernel) rfl), (lw_gdI 1055 (by decide +kernel) rfl), (lw_gdI 1056 (by decide +kernel) rfl), by decide +kernel⟩
theorem cv_Ro_25 : CVt C_Ro 25 k_To_between 2 := ⟨mok_To_between, (lw_gdI 1058 (by decide +kernel) rfl), (lw_gdI 525 (by decide +kernel) rfl), (lw_gdI 526 (by decide +kernel) rfl), by decide +kernel⟩
theorem cv_Ro_29 : CVt C_Ro 29 k_Ro_leastFrom 3 := ⟨mok_Ro_leastFrom, (lw_gdI 1059 (by decide +kernel) rfl), (lw_gdI 1060 (by decide +kernel) rfl), (lw_gdI 1061 (by decide +kernel) rfl), by decide +kernel⟩
theorem cv_Ro_38 : CVt C_Ro 38 k_Ro_milesBy 4 := ⟨mok_Ro_milesBy, (lw_gdI 1064 (by decide +kernel) rfl), (lw_gdI 1066 (by decide +kernel) rfl), (lw_gdI 25 (by decide +kernel) rfl), by decide +kernel⟩
theorem cv_Ro_51 : CVt C_Ro 51 k_Ro_firstOf 3 := ⟨mok_Ro_firstOf, (lw_gdI 1078 (by decide +kernel) rfl), (lw_gdI 1080 (by decide +kernel) rfl), (lw_gdI 26 (by decide +kernel) rfl), by decide +kernel⟩
theorem cv_To_62 : CVt C_To 62 k_Di_become 1 := ⟨mok_Di_become, (lw_gdI 1156 (by decide +kernel) rfl), (lw_gdI 1157 (by decide +kernel) rfl), (lw_gdI 1158 (by decide +kernel) rfl), by decide +kernel⟩
theorem cv_To_66 : CVt C_To 66 k_Po_become 1 := ⟨mok_Po_become, (lw_gdI 1161 (by decide +kernel) rfl), (lw_gdI 1162 (by decide +kernel) rfl), (lw_gdI 1163 (by decide +kernel) rfl), by decide +kernel⟩
theorem cv_To_69 : CVt C_To 69 k_To_slot 1 := ⟨mok_To_slot, (lw_gdI 718 (by decide +kernel) rfl), (lw_gdI 711 (by decide +kernel) rfl), (lw_gdI 712 (by decide +kernel) rfl), by decide +kernel⟩
theorem cv_To_73 : CVt C_To 73 k_Bo_become 1 := ⟨mok_Bo_become, (lw_gdI 1166 (by decide +kernel) rfl), (lw_gdI 1167 (by decide +kernel) rfl), (lw_gdI 1168 (by decide +kernel) rfl), by decide +kernel⟩
theorem cv_To_79 : CVt C_To 79 k_To_hasPlace 1 := ⟨mok_To_hasPlace, (lw_gdI 719 (by decide +kernel) rfl), (lw_gdI 521 (by decide +kernel) rfl), (lw_gdI 522 (by decide +kernel) rfl), by decide +kernel⟩
theorem cv_To_87 : CVt C_To 87 k_To_boothAt 1 := ⟨mok_To_boothAt, (lw_gdI 882 (by decide +kernel) rfl), (lw_gdI 734 (by decide +kernel) rfl), (lw_gdI 735 (by decide +kernel) rfl), by decide +kernel⟩
theorem cv_L_13 : CVt C_L 13 k_Fp_place 1 := ⟨mok_Fp_place, (lw_gdI 506 (by decide +kernel) rfl), (lw_gdI 507 (by decide +kernel) rfl), (lw_gdI 508 (by decide +kernel) rfl), by decide +kernel⟩
theorem cv_L_17 : CVt C_L 17 k_Mo_place 1 := ⟨mok_Mo_place, (lw_gdI 1265 (by decide +kernel) rfl), (lw_gdI 1266 (by decide +kernel) rfl), (lw_gdI 1267 (by decide +kernel) rfl), by decide +kernel⟩
theorem cv_L_18 : CVt C_L 18 k_Fp_miles 3 := ⟨mok_Fp_miles, (lw_gdI 516 (by decide +kernel) rfl), (lw_gdI 517 (by decide +kernel) rfl), (lw_gdI 518 (by decide +kernel) rfl), by decide +kernel⟩
theorem cv_L_22 : CVt C_L 22 k_Mo_miles 3 := ⟨mok_Mo_miles, (lw_gdI 1273 (by decide +kernel) rfl), (lw_gdI 1274 (by decide +kernel) rfl), (lw_gdI 1275 (by decide +kernel) rfl), by decide +kernel⟩
theorem cv_L_23 : CVt C_L 23 k_Fp_heat 2 := ⟨mok_Fp_heat, (lw_gdI 531 (by decide +kernel) rfl), (lw_gdI 532 (by decide +kernel) rfl), (lw_gdI 533 (by decide +kernel) rfl), by decide +kernel⟩
theorem cv_L_27 : CVt C_L 27 k_Mo_heat 2 := ⟨mok_Mo_heat, (lw_gdI 1282 (by decide +kernel) rfl), (lw_gdI 1283 (by decide +kernel) rfl), (lw_gdI 1284 (by decide +kernel) rfl), by decide +kernel⟩
theorem cv_L_28 : CVt C_L 28 k_Fp_feed 5 := ⟨mok_Fp_feed, (lw_gdI 539 (by decide +kernel) rfl), (lw_gdI 540 (by decide +kernel) rfl), (lw_gdI 541 (by decide +kernel) rfl), by decide +kernel⟩
theorem cv_L_32 : CVt C_L 32 k_Mo_feed 5 := ⟨mok_Mo_feed, (lw_gdI 1290 (by decide +kernel) rfl), (lw_gdI 1291 (by decide +kernel) rfl), (lw_gdI 1292 (by decide +kernel) rfl), by decide +kernel⟩
theorem cv_L_33 : CVt C_L 33 k_Fp_end 1 := ⟨mok_Fp_end, (lw_gdI 547 (by decide +kernel) rfl), (lw_gdI 548 (by decide +kernel) rfl), (lw_gdI 549 (by decide +kernel) rfl), by decide +kernel⟩
theorem cv_L_36 : CVt C_L 36 k_Mo_end 1 := ⟨mok_Mo_end, (lw_gdI 1298 (by decide +kernel) rfl), (lw_gdI 1299 (by decide +kernel) rfl), (lw_gdI 1300 (by decide +kernel) rfl), by decide +kernel⟩
theorem cv_L_37 : CVt C_L 37 k_Fp_law 0 := ⟨mok_Fp_law, (lw_gdI 551 (by decide +kernel) rfl), (lw_gdI 552 (by decide +kernel) rfl), (lw_gdI 553 (by decide +kernel) rfl), by decide +kernel⟩
theorem cv_L_41 : CVt C_L 41 k_Mo_law 0 := ⟨mok_Mo_law, (lw_gdI 1302 (by decide +kernel) rfl), (lw_gdI 1303 (by decide +kernel) rfl), (lw_gdI 1304 (by decide +kernel) rfl), by decide +kernel⟩
theorem cv_L_42 : CVt C_L 42 k_Fp_booth 3 := ⟨mok_Fp_booth, (lw_gdI 706 (by decide +kernel) rfl), (lw_gdI 707 (by decide +kernel) rfl), (lw_gdI 708 (by decide +kernel) rfl), by decide +kernel⟩
theorem cv_L_45 : CVt C_L 45 k_Mo_booth 3 := ⟨mok_Mo_booth, (lw_gdI 1431 (by decide +kernel) rfl), (lw_gdI 1432 (by decide +kernel) rfl), (lw_gdI 1433 (by decide +kernel) rfl), by decide +kernel⟩
theorem cv_L_46 : CVt C_L 46 k_Fp_move 2 := ⟨mok_Fp_move, (lw_gdI 729 (by decide +kernel) rfl), (lw_gdI 730 (by decide +kernel) rfl), (lw_gdI 731 (by decide +kernel) rfl), by decide +kernel⟩
theorem cv_L_49 : CVt C_L 49 k_Mo_move 2 := ⟨mok_Mo_move, (lw_gdI 1451 (by decide +kernel) rfl), (lw_gdI 1452 (by decide +kernel) rfl), (lw_gdI 1453 (by decide +kernel) rfl), by decide +kernel⟩
theorem cv_L_50 : CVt C_L 50 k_Fp_paper 2 := ⟨mok_Fp_paper, (lw_gdI 737 (by decide +kernel) rfl), (lw_gdI 738 (by decide +kernel) rfl), (lw_gdI 739 (by decide +kernel) rfl), by decide +kernel⟩
theorem cv_L_53 : CVt C_L 53 k_Mo_paper 2 := ⟨mok_Mo_paper, (lw_gdI 1459 (by decide +kernel) rfl), (lw_gdI 1460 (by decide +kernel) rfl), (lw_gdI 1461 (by decide +kernel) rfl), by decide +kernel⟩
theorem cv_L_54 : CVt C_L 54 k_Fp_strip 3 := ⟨mok_Fp_strip, (lw_gdI 741 (by decide +kernel) rfl), (lw_gdI 742 (by decide +kernel) rfl), (lw_gdI 743 (by decide +kernel) rfl), by decide +kernel⟩
theorem cv_L_57 : CVt C_L 57 k_Mo_strip 3 := ⟨mok_Mo_strip, (lw_gdI 1464 (by decide +kernel) rfl), (lw_gdI 1465 (by decide +kernel) rfl), (lw_gdI 1466 (by decide +kernel) rfl), by decide +kernel⟩
theorem cv_L_58 : CVt C_L 58 k_Fp_clock 1 := ⟨mok_Fp_clock, (lw_gdI 843 (by decide +kernel) rfl), (lw_gdI 844 (by decide +kernel) rfl), (lw_gdI 845 (by decide +kernel) rfl), by decide +kernel⟩
theorem cv_L_62 : CVt C_L 62 k_Mo_clock 1 := ⟨mok_Mo_clock, (lw_gdI 1520 (by decide +kernel) rfl), (lw_gdI 1521 (by decide +kernel) rfl), (lw_gdI 1522 (by decide +kernel) rfl), by decide +kernel⟩
theorem cv_L_63 : CVt C_L 63 k_Fp_change 2 := ⟨mok_Fp_change, (lw_gdI 851 (by decide +kernel) rfl), (lw_gdI 852 (by decide +kernel) rfl), (lw_gdI 853 (by decide +kernel) rfl), by decide +kernel⟩
theorem cv_L_66 : CVt C_L 66 k_Mo_change 2 := ⟨mok_Mo_change, (lw_gdI 1525 (by decide +kernel) rfl), (lw_gdI 1526 (by decide +kernel) rfl), (lw_gdI 1527 (by decide +kernel) rfl), by decide +kernel⟩
theorem cv_L_67 : CVt C_L 67 k_Fp_empty 1 := ⟨mok_Fp_empty, (lw_gdI 862 (by decide +kernel) rfl), (lw_gdI 863 (by decide +kernel) rfl), (lw_gdI 864 (by decide +kernel) rfl), by decide +kernel⟩
theorem cv_L_70 : CVt C_L 70 k_Mo_empty 1 := ⟨mok_Mo_empty, (lw_gdI 1530 (by decide +kernel) rfl), (lw_gdI 1531 (by decide +kernel) rfl), (lw_gdI 1532 (by decide +kernel) rfl), by decide +kernel⟩
theorem cv_L_71 : CVt C_L 71 k_Fp_of 2 := ⟨mok_Fp_of, (lw_gdI 870 (by decide +kernel) rfl), (lw_gdI 871 (by decide +kernel) rfl), (lw_gdI 872 (by decide +kernel) rfl), by decide +kernel⟩
theorem cv_L_74 : CVt C_L 74 k_Mo_of 2 := ⟨mok_Mo_of, (lw_gdI 1534 (by decide +kernel) rfl), (lw_gdI 1535 (by decide +kernel) rfl), (lw_gdI 1536 (by decide +kernel) rfl), by decide +kernel⟩
theorem cv_L_75 : CVt C_L 75 k_Fp_spoilt 2 := ⟨mok_Fp_spoilt, (lw_gdI 874 (by decide +kernel) rfl), (lw_gdI 875 (by decide +kernel) rfl), (lw_gdI 876 (by decide +kernel) rfl), by decide +kernel⟩
theorem cv_L_78 : CVt C_L 78 k_Mo_spoilt 2 := ⟨mok_Mo_spoilt, (lw_gdI 1539 (by decide +kernel) rfl), (lw_gdI 1540 (by decide +kernel) rfl), (lw_gdI 1541 (by decide +kernel) rfl), by decide +kernel⟩
theorem cv_L_79 : CVt C_L 79 k_Fp_again 3 := ⟨mok_Fp_again, (lw_gdI 891 (by decide +kernel) rfl), (lw_gdI 892 (by decide +kernel) rfl), (lw_gdI 893 (by decide +kernel) rfl), by decide +kernel⟩
theorem cv_L_82 : CVt C_L 82 k_Mo_again 3 := ⟨mok_Mo_again, (lw_gdI 1552 (by decide +kernel) rfl), (lw_gdI 1553 (by decide +kernel) rfl), (lw_gdI 1554 (by decide +kernel) rfl), by decide +kernel⟩
theorem cv_L_83 : CVt C_L 83 k_Fp_with 3 := ⟨mok_Fp_with, (lw_gdI 928 (by decide +kernel) rfl), (lw_gdI 929 (by decide +kernel) rfl), (lw_gdI 930 (by decide +kernel) rfl), by decide +kernel⟩
theorem cv_L_86 : CVt C_L 86 k_Mo_with 3 := ⟨mok_Mo_with, (lw_gdI 1560 (by decide +kernel) rfl), (lw_gdI 1561 (by decide +kernel) rfl), (lw_gdI 1562 (by decide +kernel) rfl), by decide +kernel⟩
theorem cv_L_87 : CVt C_L 87 k_Fp_finest 2 := ⟨mok_Fp_finest, (lw_gdI 937 (by decide +kernel) rfl), (lw_gdI 938 (by decide +kernel) rfl), (lw_gdI 939 (by decide +kernel) rfl), by decide +kernel⟩
theorem cv_L_90 : CVt C_L 90 k_Mo_finest 2 := ⟨mok_Mo_finest, (lw_gdI 1568 (by decide +kernel) rfl), (lw_gdI 1569 (by decide +kernel) rfl), (lw_gdI 1570 (by decide +kernel) rfl), by decide +kernel⟩
theorem cv_L_91 : CVt C_L 91 k_Fp_reading 4 := ⟨mok_Fp_reading, (lw_gdI 941 (by decide +kernel) rfl), (lw_gdI 942 (by decide +kernel) rfl), (lw_gdI 943 (by decide +kernel) rfl), by decide +kernel⟩
theorem cv_L_95 : CVt C_L 95 k_Mo_reading 4 := ⟨mok_Mo_reading, (lw_gdI 1572 (by decide +kernel) rfl), (lw_gdI 1573 (by decide +kernel) rfl), (lw_gdI 1574 (by decide +kernel) rfl), by decide +kernel⟩
theorem cv_L_96 : CVt C_L 96 k_Fp_agree 3 := ⟨mok_Fp_agree, (lw_gdI 952 (by decide +kernel) rfl), (lw_gdI 953 (by decide +kernel) rfl), (lw_gdI 954 (by decide +kernel) rfl), by decide +kernel⟩
theorem cv_L_99 : CVt C_L 99 k_Mo_agree 3 := ⟨mok_Mo_agree, (lw_gdI 1582 (by decide +kernel) rfl), (lw_gdI 1583 (by decide +kernel) rfl), (lw_gdI 1584 (by decide +kernel) rfl), by decide +kernel⟩
theorem cv_L_100 : CVt C_L 100 k_Fp_claim 3 := ⟨mok_Fp_claim, (lw_gdI 969 (by decide +kernel) rfl), (lw_gdI 970 (by decide +kernel) rfl), (lw_gdI 971 (by decide +kernel) rfl), by decide +kernel⟩
theorem cv_L_103 : CVt C_L 103 k_Mo_claim 3 := ⟨mok_Mo_claim, (lw_gdI 1596 (by decide +kernel) rfl), (lw_gdI 1597 (by decide +kernel) rfl), (lw_gdI 1598 (by decide +kernel) rfl), by decide +kernel⟩
theorem cv_L_104 : CVt C_L 104 k_Fp_fair 2 := ⟨mok_Fp_fair, (lw_gdI 977 (by decide +kernel) rfl), (lw_gdI 978 (by decide +kernel) rfl), (lw_gdI 979 (by decide +kernel) rfl), by decide +kernel⟩
theorem cv_L_107 : CVt C_L 107 k_Mo_fair 2 := ⟨mok_Mo_fair, (lw_gdI 1601 (by decide +kernel) rfl), (lw_gdI 1602 (by decide +kernel) rfl), (lw_gdI 1603 (by decide +kernel) rfl), by decide +kernel⟩
theorem cv_L_108 : CVt C_L 108 k_Fp_suspect 1 := ⟨mok_Fp_suspect, (lw_gdI 1002 (by decide +kernel) rfl), (lw_gdI 1003 (by decide +kernel) rfl), (lw_gdI 1004 (by decide +kernel) rfl), by decide +kernel⟩
theorem cv_L_111 : CVt C_L 111 k_Mo_suspect 1 := ⟨mok_Mo_suspect, (lw_gdI 1613 (by decide +kernel) rfl), (lw_gdI 1614 (by decide +kernel) rfl), (lw_gdI 1615 (by decide +kernel) rfl), by decide +kernel⟩
theorem cv_L_112 : CVt C_L 112 k_Fp_refused 2 := ⟨mok_Fp_refused, (lw_gdI 1014 (by decide +kernel) rfl), (lw_gdI 1015 (by decide +kernel) rfl), (lw_gdI 1016 (by decide +kernel) rfl), by decide +kernel⟩
theorem cv_L_115 : CVt C_L 115 k_Mo_refused 2 := ⟨mok_Mo_refused, (lw_gdI 1621 (by decide +kernel) rfl), (lw_gdI 1622 (by decide +kernel) rfl), (lw_gdI 1623 (by decide +kernel) rfl), by decide +kernel⟩
theorem cv_L_116 : CVt C_L 116 k_Fp_newer 2 := ⟨mok_Fp_newer, (lw_gdI 1022 (by decide +kernel) rfl), (lw_gdI 1023 (by decide +kernel) rfl), (lw_gdI 1024 (by decide +kernel) rfl), by decide +kernel⟩
theorem cv_L_119 : CVt C_L 119 k_Mo_newer 2 := ⟨mok_Mo_newer, (lw_gdI 1629 (by decide +kernel) rfl), (lw_gdI 1630 (by decide +kernel) rfl), (lw_gdI 1631 (by decide +kernel) rfl), by decide +kernel⟩
theorem cv_L_120 : CVt C_L 120 k_Fp_rent 4 := ⟨mok_Fp_rent, (lw_gdI 1026 (by decide +kernel) rfl), (lw_gdI 1027 (by decide +kernel) rfl), (lw_gdI 1028 (by decide +kernel) rfl), by decide +kernel⟩
theorem cv_L_123 : CVt C_L 123 k_Mo_rent 4 := ⟨mok_Mo_rent, (lw_gdI 1633 (by decide +kernel) rfl), (lw_gdI 1634 (by decide +kernel) rfl), (lw_gdI 1635 (by decide +kernel) rfl), by decide +kernel⟩
theorem cv_L_124 : CVt C_L 124 k_Fp_cheapest 3 := ⟨mok_Fp_cheapest, (lw_gdI 1041 (by decide +kernel) rfl), (lw_gdI 1042 (by decide +kernel) rfl), (lw_gdI 1043 (by decide +kernel) rfl), by decide +kernel⟩
theorem cv_L_127 : CVt C_L 127 k_Mo_cheapest 3 := ⟨mok_Mo_cheapest, (lw_gdI 1643 (by decide +kernel) rfl), (lw_gdI 1644 (by decide +kernel) rfl), (lw_gdI 1645 (by decide +kernel) rfl), by decide +kernel⟩
theorem cv_L_128 : CVt C_L 128 k_Fp_round 3 := ⟨mok_Fp_round, (lw_gdI 1046 (by decide +kernel) rfl), (lw_gdI 1047 (by decide +kernel) rfl), (lw_gdI 1048 (by decide +kernel) rfl), by decide +kernel⟩
theorem cv_L_131 : CVt C_L 131 k_Mo_round 3 := ⟨mok_Mo_round, (lw_gdI 1647 (by decide +kernel) rfl), (lw_gdI 1648 (by decide +kernel) rfl), (lw_gdI 1649 (by decide +kernel) rfl), by decide +kernel⟩
theorem cv_L_132 : CVt C_L 132 k_Fp_call 2 := ⟨mok_Fp_call, (lw_gdI 1082 (by decide +kernel) rfl), (lw_gdI 1083 (by decide +kernel) rfl), (lw_gdI 1084 (by decide +kernel) rfl), by decide +kernel⟩
theorem cv_L_135 : CVt C_L 135 k_Mo_call 2 := ⟨mok_Mo_call, (lw_gdI 1668 (by decide +kernel) rfl), (lw_gdI 1669 (by decide +kernel) rfl), (lw_gdI 1670 (by decide +kernel) rfl), by decide +kernel⟩
theorem cv_L_136 : CVt C_L 136 k_Fp_worthy 3 := ⟨mok_Fp_worthy, (lw_gdI 1086 (by decide +kernel) rfl), (lw_gdI 1087 (by decide +kernel) rfl), (lw_gdI 1088 (by decide +kernel) rfl), by decide +kernel⟩
theorem cv_L_139 : CVt C_L 139 k_Mo_worthy 3 := ⟨mok_Mo_worthy, (lw_gdI 1672 (by decide +kernel) rfl), (lw_gdI 1673 (by decide +kernel) rfl), (lw_gdI 1674 (by decide +kernel) rfl), by decide +kernel⟩
theorem cv_L_140 : CVt C_L 140 k_Fp_takes 4 := ⟨mok_Fp_takes, (lw_gdI 1094 (by decide +kernel) rfl), (lw_gdI 1095 (by decide +kernel) rfl), (lw_gdI 1096 (by decide +kernel) rfl), by decide +kernel⟩
theorem cv_L_144 : CVt C_L 144 k_Mo_takes 4 := ⟨mok_Mo_takes, (lw_gdI 1676 (by decide +kernel) rfl), (lw_gdI 1677 (by decide +kernel) rfl), (lw_gdI 1678 (by decide +kernel) rfl), by decide +kernel⟩
theorem cv_L_145 : CVt C_L 145 k_Fp_placed 3 := ⟨mok_Fp_placed, (lw_gdI 1098 (by decide +kernel) rfl), (lw_gdI 1099 (by decide +kernel) rfl), (lw_gdI 1100 (by decide +kernel) rfl), by decide +kernel⟩
theorem cv_L_149 : CVt C_L 149 k_Mo_placed 3 := ⟨mok_Mo_placed, (lw_gdI 1680 (by decide +kernel) rfl), (lw_gdI 1681 (by decide +kernel) rfl), (lw_gdI 1682 (by decide +kernel) rfl), by decide +kernel⟩
theorem cv_L_150 : CVt C_L 150 k_Fp_count 1 := ⟨mok_Fp_count, (lw_gdI 1137 (by decide +kernel) rfl), (lw_gdI 1138 (by decide +kernel) rfl), (lw_gdI 1139 (by decide +kernel) rfl), by decide +kernel⟩
theorem cv_L_153 : CVt C_L 153 k_Mo_count 1 := ⟨mok_Mo_count, (lw_gdI 1691 (by decide +kernel) rfl), (lw_gdI 1692 (by decide +kernel) rfl), (lw_gdI 1693 (by decide +kernel) rfl), by decide +kernel⟩
theorem cv_L_154 : CVt C_L 154 k_Fp_image 1 := ⟨mok_Fp_image, (lw_gdI 1141 (by decide +kernel) rfl), (lw_gdI 1142 (by decide +kernel) rfl), (lw_gdI 1143 (by decide +kernel) rfl), by decide +kernel⟩
theorem cv_L_157 : CVt C_L 157 k_Mo_image 1 := ⟨mok_Mo_image, (lw_gdI 1695 (by decide +kernel) rfl), (lw_gdI 1696 (by decide +kernel) rfl), (lw_gdI 1697 (by decide +kernel) rfl), by decide +kernel⟩
theorem cv_L_158 : CVt C_L 158 k_Fp_back 1 := ⟨mok_Fp_back, (lw_gdI 1171 (by decide +kernel) rfl), (lw_gdI 1172 (by decide +kernel) rfl), (lw_gdI 1173 (by decide +kernel) rfl), by decide +kernel⟩
theorem cv_L_161 : CVt C_L 161 k_Mo_back 1 := ⟨mok_Mo_back, (lw_gdI 1700 (by decide +kernel) rfl), (lw_gdI 1701 (by decide +kernel) rfl), (lw_gdI 1702 (by decide +kernel) rfl), by decide +kernel⟩
theorem cv_Mo_68 : CVt C_Mo 68 k_Mo_isPlace 1 := ⟨mok_Mo_isPlace, (lw_gdI 1277 (by decide +kernel) rfl), (lw_gdI 1279 (by decide +kernel) rfl), (lw_gdI 30 (by decide +kernel) rfl), by decide +kernel⟩
theorem cv_Mo_83 : CVt C_Mo 83 k_Mo_four 1 := ⟨mok_Mo_four, (lw_gdI 1294 (by decide +kernel) rfl), (lw_gdI 1296 (by decide +kernel) rfl), (lw_gdI 31 (by decide +kernel) rfl), by decide +kernel⟩
theorem cv_Mo_93 : CVt C_Mo 93 k_Mo_see 0 := ⟨mok_Mo_see, (lw_gdI 1310 (by decide +kernel) rfl), (lw_gdI 1312 (by decide +kernel) rfl), (lw_gdI 33 (by decide +kernel) rfl), by decide +kernel⟩
theorem cv_Mo_97 : CVt C_Mo 97 k_Mo_isLetter 1 := ⟨mok_Mo_isLetter, (lw_gdI 1319 (by decide +kernel) rfl), (lw_gdI 1321 (by decide +kernel) rfl), (lw_gdI 35 (by decide +kernel) rfl), by decide +kernel⟩
theorem cv_Mo_100 : CVt C_Mo 100 k_Mo_isWord 1 := ⟨mok_Mo_isWord, (lw_gdI 1315 (by decide +kernel) rfl), (lw_gdI 1317 (by decide +kernel) rfl), (lw_gdI 34 (by decide +kernel) rfl), by decide +kernel⟩
theorem cv_Mo_104 : CVt C_Mo 104 k_Mo_passWord 0 := ⟨mok_Mo_passWord, (lw_gdI 1338 (by decide +kernel) rfl), (lw_gdI 1340 (by decide +kernel) rfl), (lw_gdI 38 (by decide +kernel) rfl), by decide +kernel⟩
theorem cv_Mo_107 : CVt C_Mo 107 k_Mo_isDigit 1 := ⟨mok_Mo_isDigit, (lw_gdI 1346 (by decide +kernel) rfl), (lw_gdI 1348 (by decide +kernel) rfl), (lw_gdI 40 (by decide +kernel) rfl), by decide +kernel⟩
theorem cv_Mo_110 : CVt C_Mo 110 k_Mo_fails 2 := ⟨mok_Mo_fails, (lw_gdI 1330 (by decide +kernel) rfl), (lw_gdI 1332 (by decide +kernel) rfl), (lw_gdI 36 (by decide +kernel) rfl), by decide +kernel⟩
theorem cv_Mo_151 : CVt C_Mo 151 k_Mo_puts 2 := ⟨mok_Mo_puts, (lw_gdI 1375 (by decide +kernel) rfl), (lw_gdI 1377 (by decide +kernel) rfl), (lw_gdI 47 (by decide +kernel) rfl), by decide +kernel⟩
theorem cv_Mo_156 : CVt C_Mo 156 k_Mo_number 1 := ⟨mok_Mo_number, (lw_gdI 1342 (by decide +kernel) rfl), (lw_gdI 1344 (by decide +kernel) rfl), (lw_gdI 39 (by decide +kernel) rfl), by decide +kernel⟩
theorem cv_Mo_159 : CVt C_Mo 159 k_Mo_makes 1 := ⟨mok_Mo_makes, (lw_gdI 1371 (by decide +kernel) rfl), (lw_gdI 1373 (by decide +kernel) rfl), (lw_gdI 46 (by decide +kernel) rfl), by decide +kernel⟩
theorem cv_Mo_162 : CVt C_Mo 162 k_Mo_wordHere 0 := ⟨mok_Mo_wordHere, (lw_gdI 1379 (by decide +kernel) rfl), (lw_gdI 1381 (by decide +kernel) rfl), (lw_gdI 48 (by decide +kernel) rfl), by decide +kernel⟩
theorem cv_Mo_165 : CVt C_Mo 165 k_Mo_value 0 := ⟨mok_Mo_value, (lw_gdI 1366 (by decide +kernel) rfl), (lw_gdI 1368 (by decide +kernel) rfl), (lw_gdI 45 (by decide +kernel) rfl), by decide +kernel⟩
theorem cv_Mo_169 : CVt C_Mo 169 k_Mo_term 0 := ⟨mok_Mo_term, (lw_gdI 1362 (by decide +kernel) rfl), (lw_gdI 1364 (by decide +kernel) rfl), (lw_gdI 44 (by decide +kernel) rfl), by decide +kernel⟩
theorem cv_Mo_172 : CVt C_Mo 172 k_Mo_sum 0 := ⟨mok_Mo_sum, (lw_gdI 1358 (by decide +kernel) rfl), (lw_gdI 1360 (by decide +kernel) rfl), (lw_gdI 43 (by decide +kernel) rfl), by decide +kernel⟩
theorem cv_Mo_177 : CVt C_Mo 177 k_Mo_opens 1 := ⟨mok_Mo_opens, (lw_gdI 1406 (by decide +kernel) rfl), (lw_gdI 1408 (by decide +kernel) rfl), (lw_gdI 52 (by decide +kernel) rfl), by decide +kernel⟩
theorem cv_Mo_180 : CVt C_Mo 180 k_Mo_compare 0 := ⟨mok_Mo_compare, (lw_gdI 1410 (by decide +kernel) rfl), (lw_gdI 1412 (by decide +kernel) rfl), (lw_gdI 53 (by decide +kernel) rfl), by decide +kernel⟩
theorem cv_Mo_183 : CVt C_Mo 183 k_Mo_settles 1 := ⟨mok_Mo_settles, (lw_gdI 1418 (by decide +kernel) rfl), (lw_gdI 1420 (by decide +kernel) rfl), (lw_gdI 55 (by decide +kernel) rfl), by decide +kernel⟩
theorem cv_Mo_186 : CVt C_Mo 186 k_Mo_isInside 0 := ⟨mok_Mo_isInside, (lw_gdI 1425 (by decide +kernel) rfl), (lw_gdI 1427 (by decide +kernel) rfl), (lw_gdI 56 (by decide +kernel) rfl), by decide +kernel⟩
theorem cv_Mo_189 : CVt C_Mo 189 k_Mo_fact 0 := ⟨mok_Mo_fact, (lw_gdI 1401 (by decide +kernel) rfl), (lw_gdI 1403 (by decide +kernel) rfl), (lw_gdI 51 (by decide +kernel) rfl), by decide +kernel⟩
theorem cv_Mo_192 : CVt C_Mo 192 k_Mo_closes 0 := ⟨mok_Mo_closes, (lw_gdI 1414 (by decide +kernel) rfl), (lw_gdI 1416 (by decide +kernel) rfl), (lw_gdI 54 (by decide +kernel) rfl), by decide +kernel⟩
theorem cv_Mo_201 : CVt C_Mo 201 k_Mo_takesWord 1 := ⟨mok_Mo_takesWord, (lw_gdI 1393 (by decide +kernel) rfl), (lw_gdI 1395 (by decide +kernel) rfl), (lw_gdI 49 (by decide +kernel) rfl), by decide +kernel⟩
theorem cv_Mo_204 : CVt C_Mo 204 k_Mo_tested 0 := ⟨mok_Mo_tested, (lw_gdI 1397 (by decide +kernel) rfl), (lw_gdI 1399 (by decide +kernel) rfl), (lw_gdI 50 (by decide +kernel) rfl), by decide +kernel⟩
theorem cv_Mo_226 : CVt C_Mo 226 k_Mo_weakHere 0 := ⟨mok_Mo_weakHere, (lw_gdI 1334 (by decide +kernel) rfl), (lw_gdI 1336 (by decide +kernel) rfl), (lw_gdI 37 (by decide +kernel) rfl), by decide +kernel⟩
theorem cv_Mo_229 : CVt C_Mo 229 k_Mo_bathHere 0 := ⟨mok_Mo_bathHere, (lw_gdI 1350 (by decide +kernel) rfl), (lw_gdI 1352 (by decide +kernel) rfl), (lw_gdI 41 (by decide +kernel) rfl), by decide +kernel⟩
theorem cv_Mo_232 : CVt C_Mo 232 k_Mo_clauseOf 2 := ⟨mok_Mo_clauseOf, (lw_gdI 1354 (by decide +kernel) rfl), (lw_gdI 1356 (by decide +kernel) rfl), (lw_gdI 42 (by decide +kernel) rfl), by decide +kernel⟩
theorem cv_Mo_239 : CVt C_Mo 239 k_Mo_clauseHere 0 := ⟨mok_Mo_clauseHere, (lw_gdI 1306 (by decide +kernel) rfl), (lw_gdI 1308 (by decide +kernel) rfl), (lw_gdI 32 (by decide +kernel) rfl), by decide +kernel⟩
theorem cv_Mo_245 : CVt C_Mo 245 k_Mo_push 1 := ⟨mok_Mo_push, (lw_gdI 1493 (by decide +kernel) rfl), (lw_gdI 1495 (by decide +kernel) rfl), (lw_gdI 68 (by decide +kernel) rfl), by decide +kernel⟩
theorem cv_Mo_249 : CVt C_Mo 249 k_Mo_pop 0 := ⟨mok_Mo_pop, (lw_gdI 1497 (by decide +kernel) rfl), (lw_gdI 1499 (by decide +kernel) rfl), (lw_gdI 69 (by decide +kernel) rfl), by decide +kernel⟩
theorem cv_Mo_257 : CVt C_Mo 257 k_Mo_reckons 3 := ⟨mok_Mo_reckons, (lw_gdI 1489 (by decide +kernel) rfl), (lw_gdI 1491 (by decide +kernel) rfl), (lw_gdI 67 (by decide +kernel) rfl), by decide +kernel⟩
theorem cv_Mo_261 : CVt C_Mo 261 k_Mo_holding 2 := ⟨mok_Mo_holding, (lw_gdI 1485 (by decide +kernel) rfl), (lw_gdI 1487 (by decide +kernel) rfl), (lw_gdI 66 (by decide +kernel) rfl), by decide +kernel⟩
theorem cv_Mo_265 : CVt C_Mo 265 k_Mo_cell 2 := ⟨mok_Mo_cell, (lw_gdI 1439 (by decide +kernel) rfl), (lw_gdI 1441 (by decide +kernel) rfl), (lw_gdI 58 (by decide +kernel) rfl), by decide +kernel⟩
theorem cv_Mo_268 : CVt C_Mo 268 k_Mo_at 1 := ⟨mok_Mo_at, (lw_gdI 1435 (by decide +kernel) rfl), (lw_gdI 1437 (by decide +kernel) rfl), (lw_gdI 57 (by decide +kernel) rfl), by decide +kernel⟩
theorem cv_Mo_271 : CVt C_Mo 271 k_Mo_isLaw 1 := ⟨mok_Mo_isLaw, (lw_gdI 1443 (by decide +kernel) rfl), (lw_gdI 1445 (by decide +kernel) rfl), (lw_gdI 59 (by decide +kernel) rfl), by decide +kernel⟩
theorem cv_Mo_274 : CVt C_Mo 274 k_Mo_sets 3 := ⟨mok_Mo_sets, (lw_gdI 1447 (by decide +kernel) rfl), (lw_gdI 1449 (by decide +kernel) rfl), (lw_gdI 60 (by decide +kernel) rfl), by decide +kernel⟩
theorem cv_Mo_278 : CVt C_Mo 278 k_Mo_isBooth 1 := ⟨mok_Mo_isBooth, (lw_gdI 1455 (by decide +kernel) rfl), (lw_gdI 1457 (by decide +kernel) rfl), (lw_gdI 61 (by decide +kernel) rfl), by decide +kernel⟩
theorem cv_Mo_283 : CVt C_Mo 283 k_Mo_holds 2 := ⟨mok_Mo_holds, (lw_gdI 1481 (by decide +kernel) rfl), (lw_gdI 1483 (by decide +kernel) rfl), (lw_gdI 65 (by decide +kernel) rfl), by decide +kernel⟩
theorem cv_Mo_286 : CVt C_Mo 286 k_Mo_summed 4 := ⟨mok_Mo_summed, (lw_gdI 1508 (by decide +kernel) rfl), (lw_gdI 1510 (by decide +kernel) rfl), (lw_gdI 71 (by decide +kernel) rfl), by decide +kernel⟩
theorem cv_Mo_292 : CVt C_Mo 292 k_Mo_lifts 1 := ⟨mok_Mo_lifts, (lw_gdI 1469 (by decide +kernel) rfl), (lw_gdI 1471 (by decide +kernel) rfl), (lw_gdI 62 (by decide +kernel) rfl), by decide +kernel⟩
theorem cv_Mo_295 : CVt C_Mo 295 k_Mo_words 6 := ⟨mok_Mo_words, (lw_gdI 1473 (by decide +kernel) rfl), (lw_gdI 1475 (by decide +kernel) rfl), (lw_gdI 63 (by decide +kernel) rfl), by decide +kernel⟩
theorem cv_Mo_299 : CVt C_Mo 299 k_Mo_spoils 1 := ⟨mok_Mo_spoils, (lw_gdI 1477 (by decide +kernel) rfl), (lw_gdI 1479 (by decide +kernel) rfl), (lw_gdI 64 (by decide +kernel) rfl), by decide +kernel⟩
theorem cv_Mo_302 : CVt C_Mo 302 k_Mo_tires 2 := ⟨mok_Mo_tires, (lw_gdI 1504 (by decide +kernel) rfl), (lw_gdI 1506 (by decide +kernel) rfl), (lw_gdI 70 (by decide +kernel) rfl), by decide +kernel⟩
theorem cv_Mo_305 : CVt C_Mo 305 k_Mo_lays 1 := ⟨mok_Mo_lays, (lw_gdI 1512 (by decide +kernel) rfl), (lw_gdI 1514 (by decide +kernel) rfl), (lw_gdI 72 (by decide +kernel) rfl), by decide +kernel⟩
theorem cv_Mo_308 : CVt C_Mo 308 k_Mo_writes 5 := ⟨mok_Mo_writes, (lw_gdI 1516 (by decide +kernel) rfl), (lw_gdI 1518 (by decide +kernel) rfl), (lw_gdI 73 (by decide +kernel) rfl), by decide +kernel⟩
theorem cv_Mo_318 : CVt C_Mo 318 k_Mo_event 2 := ⟨mok_Mo_event, (lw_gdI 1548 (by decide +kernel) rfl), (lw_gdI 1550 (by decide +kernel) rfl), (lw_gdI 75 (by decide +kernel) rfl), by decide +kernel⟩
theorem cv_Mo_323 : CVt C_Mo 323 k_Mo_isStrip 2 := ⟨mok_Mo_isStrip, (lw_gdI 1544 (by decide +kernel) rfl), (lw_gdI 1546 (by decide +kernel) rfl), (lw_gdI 74 (by decide +kernel) rfl), by decide +kernel⟩
theorem cv_Mo_326 : CVt C_Mo 326 k_Mo_goesAgain 4 := ⟨mok_Mo_goesAgain, (lw_gdI 1556 (by decide +kernel) rfl), (lw_gdI 1558 (by decide +kernel) rfl), (lw_gdI 76 (by decide +kernel) rfl), by decide +kernel⟩
theorem cv_Mo_330 : CVt C_Mo 330 k_Mo_spoiltWith 3 := ⟨mok_Mo_spoiltWith, (lw_gdI 1564 (by decide +kernel) rfl), (lw_gdI 1566 (by decide +kernel) rfl), (lw_gdI 77 (by decide +kernel) rfl), by decide +kernel⟩
theorem cv_Mo_334 : CVt C_Mo 334 k_Mo_isPast 1 := ⟨mok_Mo_isPast, (lw_gdI 1576 (by decide +kernel) rfl), (lw_gdI 1578 (by decide +kernel) rfl), (lw_gdI 78 (by decide +kernel) rfl), by decide +kernel⟩
theorem cv_Mo_342 : CVt C_Mo 342 k_Mo_latest 3 := ⟨mok_Mo_latest, (lw_gdI 1587 (by decide +kernel) rfl), (lw_gdI 1589 (by decide +kernel) rfl), (lw_gdI 79 (by decide +kernel) rfl), by decide +kernel⟩
theorem cv_Mo_346 : CVt C_Mo 346 k_Mo_stripsOn 3 := ⟨mok_Mo_stripsOn, (lw_gdI 1592 (by decide +kernel) rfl), (lw_gdI 1594 (by decide +kernel) rfl), (lw_gdI 80 (by decide +kernel) rfl), by decide +kernel⟩
theorem cv_Mo_351 : CVt C_Mo 351 k_Mo_areOne 2 := ⟨mok_Mo_areOne, (lw_gdI 1609 (by decide +kernel) rfl), (lw_gdI 1611 (by decide +kernel) rfl), (lw_gdI 82 (by decide +kernel) rfl), by decide +kernel⟩
theorem cv_Mo_354 : CVt C_Mo 354 k_Mo_isFair 1 := ⟨mok_Mo_isFair, (lw_gdI 1605 (by decide +kernel) rfl), (lw_gdI 1607 (by decide +kernel) rfl), (lw_gdI 81 (by decide +kernel) rfl), by decide +kernel⟩
theorem cv_Mo_357 : CVt C_Mo 357 k_Mo_unfairOf 1 := ⟨mok_Mo_unfairOf, (lw_gdI 1617 (by decide +kernel) rfl), (lw_gdI 1619 (by decide +kernel) rfl), (lw_gdI 83 (by decide +kernel) rfl), by decide +kernel⟩
theorem cv_Mo_360 : CVt C_Mo 360 k_Mo_isRefused 2 := ⟨mok_Mo_isRefused, (lw_gdI 1625 (by decide +kernel) rfl), (lw_gdI 1627 (by decide +kernel) rfl), (lw_gdI 84 (by decide +kernel) rfl), by decide +kernel⟩
theorem cv_Mo_365 : CVt C_Mo 365 k_Mo_rentBy 4 := ⟨mok_Mo_rentBy, (lw_gdI 1637 (by decide +kernel) rfl), (lw_gdI 1639 (by decide +kernel) rfl), (lw_gdI 85 (by decide +kernel) rfl), by decide +kernel⟩
theorem cv_Mo_368 : CVt C_Mo 368 k_Mo_mile 2 := ⟨mok_Mo_mile, (lw_gdI 1656 (by decide +kernel) rfl), (lw_gdI 1658 (by decide +kernel) rfl), (lw_gdI 87 (by decide +kernel) rfl), by decide +kernel⟩
theorem cv_Mo_371 : CVt C_Mo 371 k_Mo_mileOf 2 := ⟨mok_Mo_mileOf, (lw_gdI 1660 (by decide +kernel) rfl), (lw_gdI 1662 (by decide +kernel) rfl), (lw_gdI 88 (by decide +kernel) rfl), by decide +kernel⟩
theorem cv_Mo_376 : CVt C_Mo 376 k_Mo_walks 1 := ⟨mok_Mo_walks, (lw_gdI 1652 (by decide +kernel) rfl), (lw_gdI 1654 (by decide +kernel) rfl), (lw_gdI 86 (by decide +kernel) rfl), by decide +kernel⟩
theorem cv_Mo_379 : CVt C_Mo 379 k_Mo_milesOf 2 := ⟨mok_Mo_milesOf, (lw_gdI 1664 (by decide +kernel) rfl), (lw_gdI 1666 (by decide +kernel) rfl), (lw_gdI 89 (by decide +kernel) rfl), by decide +kernel⟩
theorem cv_Mo_385 : CVt C_Mo 385 k_Mo_takesAt 4 := ⟨mok_Mo_takesAt, (lw_gdI 1687 (by decide +kernel) rfl), (lw_gdI 1689 (by decide +kernel) rfl), (lw_gdI 90 (by decide +kernel) rfl), by decide +kernel⟩
theorem cv_St_335 : CVt C_St 335 k_St_coder 0 := ⟨mok_St_coder, (lw_gdI 590 (by decide +kernel) rfl), (lw_gdI 591 (by decide +kernel) rfl), (lw_gdI 592 (by decide +kernel) rfl), by decide +kernel⟩
theorem cv_St_492 : CVt C_St 492 k_St_isLatin1 0 := ⟨mok_St_isLatin1, (lw_gdI 600 (by decide +kernel) rfl), (lw_gdI 601 (by decide +kernel) rfl), (lw_gdI 602 (by decide +kernel) rfl), by decide +kernel⟩
theorem kc_Cr_45 : Cond.constant C_Cr 45 (-1000000000 : Int32) ∈ lw_gd := (lw_gdI 1116 (by decide +kernel) rfl)
theorem kc_Ro_37 : Cond.constant C_Ro 37 (1000000 : Int32) ∈ lw_gd := (lw_gdI 1063 (by decide +kernel) rfl)
theorem kc_Mo_54 : Cond.constant C_Mo 54 (35672 : Int32) ∈ lw_gd := (lw_gdI 1181 (by decide +kernel) rfl)
theorem kc_Mo_155 : Cond.constant C_Mo 155 (99999 : Int32) ∈ lw_gd := (lw_gdI 1370 (by decide +kernel) rfl)
theorem kc_Fp_408 : Cond.constantLong C_Fp 408 (-99999999 : Int64) ∈ lw_gd := (lw_gdI 1038 (by decide +kernel) rfl)
theorem kc_Fp_410 : Cond.constantLong C_Fp 410 (99999999 : Int64) ∈ lw_gd := (lw_gdI 1039 (by decide +kernel) rfl)
theorem kc_La_82 : Cond.constantLong C_La 82 (1000 : Int64) ∈ lw_gd := (lw_gdI 819 (by decide +kernel) rfl)
theorem kc_Mo_62 : Cond.constantLong C_Mo 62 (99 : Int64) ∈ lw_gd := (lw_gdI 1269 (by decide +kernel) rfl)
theorem kc_Mo_72 : Cond.constantLong C_Mo 72 (999 : Int64) ∈ lw_gd := (lw_gdI 1281 (by decide +kernel) rfl)
theorem kc_Mo_77 : Cond.constantLong C_Mo 77 (40 : Int64) ∈ lw_gd := (lw_gdI 1289 (by decide +kernel) rfl)
theorem kc_Mo_117 : Cond.constantLong C_Mo 117 (1751474532 : Int64) ∈ lw_gd := (lw_gdI 1383 (by decide +kernel) rfl)
theorem kc_Mo_119 : Cond.constantLong C_Mo 119 (495874699116 : Int64) ∈ lw_gd := (lw_gdI 1384 (by decide +kernel) rfl)
theorem kc_Mo_121 : Cond.constantLong C_Mo 121 (465624852596 : Int64) ∈ lw_gd := (lw_gdI 1385 (by decide +kernel) rfl)
theorem kc_Mo_123 : Cond.constantLong C_Mo 123 (1751474548 : Int64) ∈ lw_gd := (lw_gdI 1386 (by decide +kernel) rfl)
theorem kc_Mo_125 : Cond.constantLong C_Mo 125 (6578553 : Int64) ∈ lw_gd := (lw_gdI 1387 (by decide +kernel) rfl)
theorem kc_Mo_127 : Cond.constantLong C_Mo 127 (8319400191629685864 : Int64) ∈ lw_gd := (lw_gdI 1388 (by decide +kernel) rfl)
theorem kc_Mo_129 : Cond.constantLong C_Mo 129 (126943972913267 : Int64) ∈ lw_gd := (lw_gdI 1389 (by decide +kernel) rfl)
theorem kc_Mo_131 : Cond.constantLong C_Mo 131 (6451064 : Int64) ∈ lw_gd := (lw_gdI 1390 (by decide +kernel) rfl)
theorem kc_Mo_133 : Cond.constantLong C_Mo 133 (482854658917 : Int64) ∈ lw_gd := (lw_gdI 1391 (by decide +kernel) rfl)
theorem kc_Mo_175 : Cond.constantLong C_Mo 175 (7237492 : Int64) ∈ lw_gd := (lw_gdI 1405 (by decide +kernel) rfl)
theorem kc_Mo_195 : Cond.constantLong C_Mo 195 (6385252 : Int64) ∈ lw_gd := (lw_gdI 1429 (by decide +kernel) rfl)
theorem kc_Mo_197 : Cond.constantLong C_Mo 197 (28530 : Int64) ∈ lw_gd := (lw_gdI 1430 (by decide +kernel) rfl)
theorem kc_Mo_199 : Cond.constantLong C_Mo 199 (26982 : Int64) ∈ lw_gd := (lw_gdI 1392 (by decide +kernel) rfl)
theorem kc_Mo_207 : Cond.constantLong C_Mo 207 (1953067621 : Int64) ∈ lw_gd := (lw_gdI 1314 (by decide +kernel) rfl)
theorem kc_Mo_209 : Cond.constantLong C_Mo 209 (6383461 : Int64) ∈ lw_gd := (lw_gdI 1323 (by decide +kernel) rfl)
theorem kc_Mo_211 : Cond.constantLong C_Mo 211 (2003132779 : Int64) ∈ lw_gd := (lw_gdI 1324 (by decide +kernel) rfl)
theorem kc_Mo_213 : Cond.constantLong C_Mo 213 (1684107883 : Int64) ∈ lw_gd := (lw_gdI 1325 (by decide +kernel) rfl)
theorem kc_Mo_215 : Cond.constantLong C_Mo 215 (7300710 : Int64) ∈ lw_gd := (lw_gdI 1326 (by decide +kernel) rfl)
theorem kc_Mo_217 : Cond.constantLong C_Mo 217 (125779836236645 : Int64) ∈ lw_gd := (lw_gdI 1327 (by decide +kernel) rfl)
theorem kc_Mo_219 : Cond.constantLong C_Mo 219 (125779836235364 : Int64) ∈ lw_gd := (lw_gdI 1328 (by decide +kernel) rfl)
theorem kc_Mo_221 : Cond.constantLong C_Mo 221 (1919250036 : Int64) ∈ lw_gd := (lw_gdI 1329 (by decide +kernel) rfl)
theorem kc_Mo_281 : Cond.constantLong C_Mo 281 (9999 : Int64) ∈ lw_gd := (lw_gdI 1463 (by decide +kernel) rfl)
theorem kc_Mo_290 : Cond.constantLong C_Mo 290 (20 : Int64) ∈ lw_gd := (lw_gdI 1468 (by decide +kernel) rfl)
theorem kc_Mo_312 : Cond.constantLong C_Mo 312 (399 : Int64) ∈ lw_gd := (lw_gdI 1524 (by decide +kernel) rfl)
theorem kc_Mo_314 : Cond.constantLong C_Mo 314 (2 : Int64) ∈ lw_gd := (lw_gdI 1529 (by decide +kernel) rfl)
theorem kc_Mo_316 : Cond.constantLong C_Mo 316 (7 : Int64) ∈ lw_gd := (lw_gdI 1538 (by decide +kernel) rfl)
theorem kc_Mo_321 : Cond.constantLong C_Mo 321 (5 : Int64) ∈ lw_gd := (lw_gdI 1543 (by decide +kernel) rfl)
theorem kc_Mo_337 : Cond.constantLong C_Mo 337 (99999 : Int64) ∈ lw_gd := (lw_gdI 1580 (by decide +kernel) rfl)
theorem kc_Mo_339 : Cond.constantLong C_Mo 339 (99999999 : Int64) ∈ lw_gd := (lw_gdI 1581 (by decide +kernel) rfl)
theorem kc_Mo_349 : Cond.constantLong C_Mo 349 (31 : Int64) ∈ lw_gd := (lw_gdI 1600 (by decide +kernel) rfl)
theorem kc_Mo_374 : Cond.constantLong C_Mo 374 (-1 : Int64) ∈ lw_gd := (lw_gdI 1651 (by decide +kernel) rfl)
theorem kc_Mo_389 : Cond.constantLong C_Mo 389 (3 : Int64) ∈ lw_gd := (lw_gdI 1699 (by decide +kernel) rfl)
theorem kc_Fp_259 : Cond.constant C_Fp 259 (99999 : Int32) ∈ lw_gd := (lw_gdI 945 (by decide +kernel) rfl)
theorem kc_Fp_260 : Cond.constant C_Fp 260 (99999999 : Int32) ∈ lw_gd := (lw_gdI 946 (by decide +kernel) rfl)
theorem kc_Fp_265 : Cond.constant C_Fp 265 (-2000000000 : Int32) ∈ lw_gd := (lw_gdI 956 (by decide +kernel) rfl)
theorem kc_Fp_270 : Cond.constant C_Fp 270 (-1000000000 : Int32) ∈ lw_gd := (lw_gdI 962 (by decide +kernel) rfl)
theorem kc_Fp_317 : Cond.constant C_Fp 317 (100000000 : Int32) ∈ lw_gd := (lw_gdI 1045 (by decide +kernel) rfl)
theorem kc_Mo_341 : Cond.constant C_Mo 341 (-2000000000 : Int32) ∈ lw_gd := (lw_gdI 1586 (by decide +kernel) rfl)
theorem kc_Mo_345 : Cond.constant C_Mo 345 (-1000000000 : Int32) ∈ lw_gd := (lw_gdI 1591 (by decide +kernel) rfl)
theorem kc_Mo_363 : Cond.constant C_Mo 363 (-99999999 : Int32) ∈ lw_gd := (lw_gdI 1641 (by decide +kernel) rfl)
theorem kc_Mo_364 : Cond.constant C_Mo 364 (99999999 : Int32) ∈ lw_gd := (lw_gdI 1642 (by decide +kernel) rfl)
theorem kc_In_265 : Cond.constant C_In 265 (1431655765 : Int32) ∈ lw_gd := (lw_gdI 1109 (by decide +kernel) rfl)
theorem kc_In_266 : Cond.constant C_In 266 (858993459 : Int32) ∈ lw_gd := (lw_gdI 1110 (by decide +kernel) rfl)
theorem kc_In_267 : Cond.constant C_In 267 (252645135 : Int32) ∈ lw_gd := (lw_gdI 1111 (by decide +kernel) rfl)
theorem nw_Fp_13 : NEW C_Fp 13 4 := ⟨C_La, T_La, ty_La, rfl, in_La, tyok_La, by decide +kernel, (lw_gdI 120 (by decide +kernel) rfl), (lw_gdI 129 (by decide +kernel) rfl), (lw_gdI 94 (by decide +kernel) rfl)⟩
theorem nw_Fp_19 : NEW C_Fp 19 6 := ⟨C_Re, T_Re, ty_Re, rfl, in_Re, tyok_Re, by decide +kernel, (lw_gdI 122 (by decide +kernel) rfl), (lw_gdI 123 (by decide +kernel) rfl), (lw_gdI 93 (by decide +kernel) rfl)⟩
theorem nw_Fp_26 : NEW C_Fp 26 3 := ⟨C_Fa, T_Fa, ty_Fa, rfl, in_Fa, tyok_Fa, by decide +kernel, (lw_gdI 194 (by decide +kernel) rfl), (lw_gdI 195 (by decide +kernel) rfl), (lw_gdI 95 (by decide +kernel) rfl)⟩
theorem nw_Fp_33 : NEW C_Fp 33 7 := ⟨C_Rp, T_Rp, ty_Rp, rfl, in_Rp, tyok_Rp, by decide +kernel, (lw_gdI 208 (by decide +kernel) rfl), (lw_gdI 209 (by decide +kernel) rfl), (lw_gdI 96 (by decide +kernel) rfl)⟩
theorem nw_Fp_40 : NEW C_Fp 40 8 := ⟨C_Ro, T_Ro, ty_Ro, rfl, in_Ro, tyok_Ro, by decide +kernel, (lw_gdI 221 (by decide +kernel) rfl), (lw_gdI 222 (by decide +kernel) rfl), (lw_gdI 97 (by decide +kernel) rfl)⟩
theorem nw_Fp_47 : NEW C_Fp 47 1 := ⟨C_Cr, T_Cr, ty_Cr, rfl, in_Cr, tyok_Cr, by decide +kernel, (lw_gdI 231 (by decide +kernel) rfl), (lw_gdI 232 (by decide +kernel) rfl), (lw_gdI 98 (by decide +kernel) rfl)⟩
theorem nw_Fp_54 : NEW C_Fp 54 9 := ⟨C_To, T_To, ty_To, rfl, in_To, tyok_To, by decide +kernel, (lw_gdI 247 (by decide +kernel) rfl), (lw_gdI 248 (by decide +kernel) rfl), (lw_gdI 99 (by decide +kernel) rfl)⟩
theorem nw_Re_21 : NEW C_Re 21 4 := ⟨C_La, T_La, ty_La, rfl, in_La, tyok_La, by decide +kernel, (lw_gdI 128 (by decide +kernel) rfl), (lw_gdI 129 (by decide +kernel) rfl), (lw_gdI 94 (by decide +kernel) rfl)⟩
theorem nw_To_21 : NEW C_To 21 0 := ⟨C_Bo, T_Bo, ty_Bo, rfl, in_Bo, tyok_Bo, by decide +kernel, (lw_gdI 253 (by decide +kernel) rfl), (lw_gdI 366 (by decide +kernel) rfl), (lw_gdI 103 (by decide +kernel) rfl)⟩
theorem nw_To_27 : NEW C_To 27 2 := ⟨C_Di, T_Di, ty_Di, rfl, in_Di, tyok_Di, by decide +kernel, (lw_gdI 255 (by decide +kernel) rfl), (lw_gdI 256 (by decide +kernel) rfl), (lw_gdI 100 (by decide +kernel) rfl)⟩
theorem nw_To_34 : NEW C_To 34 5 := ⟨C_Po, T_Po, ty_Po, rfl, in_Po, tyok_Po, by decide +kernel, (lw_gdI 318 (by decide +kernel) rfl), (lw_gdI 319 (by decide +kernel) rfl), (lw_gdI 101 (by decide +kernel) rfl)⟩
theorem nw_L_7 : NEW C_L 7 10 := ⟨C_Fp, T_Fp, ty_Fp, rfl, in_Fp, tyok_Fp, by decide +kernel, (lw_gdI 112 (by decide +kernel) rfl), (lw_gdI 113 (by decide +kernel) rfl), (lw_gdI 92 (by decide +kernel) rfl)⟩
theorem nw_L_10 : NEW C_L 10 11 := ⟨C_Mo, T_Mo, ty_Mo, rfl, in_Mo, tyok_Mo, by decide +kernel, (lw_gdI 1175 (by decide +kernel) rfl), (lw_gdI 1176 (by decide +kernel) rfl), (lw_gdI 104 (by decide +kernel) rfl)⟩
theorem pf_Fp_9 : PFL C_Fp 9 10 0 1 true (.array .int) := ⟨C_Fp, T_Fp, ty_Fp, rfl, by decide, rfl, (lw_gdI 472 (by decide +kernel) rfl), in_Fp, tyok_Fp, nm_Fp, rfl, (fun _ => rfl), by decide +kernel⟩
theorem pf_Fp_15 : PFL C_Fp 15 10 2 1 true (.array (.object "FourPoses$Law")) := ⟨C_Fp, T_Fp, ty_Fp, rfl, by decide, rfl, (lw_gdI 474 (by decide +kernel) rfl), in_Fp, tyok_Fp, nm_Fp, rfl, (fun _ => rfl), by decide +kernel⟩
theorem pf_Fp_22 : PFL C_Fp 22 10 4 1 true (.object "FourPoses$Reader") := ⟨C_Fp, T_Fp, ty_Fp, rfl, by decide, rfl, (lw_gdI 476 (by decide +kernel) rfl), in_Fp, tyok_Fp, nm_Fp, rfl, (fun _ => rfl), by decide +kernel⟩
theorem pf_Fp_29 : PFL C_Fp 29 10 5 1 true (.object "FourPoses$Facts") := ⟨C_Fp, T_Fp, ty_Fp, rfl, by decide, rfl, (lw_gdI 477 (by decide +kernel) rfl), in_Fp, tyok_Fp, nm_Fp, rfl, (fun _ => rfl), by decide +kernel⟩
theorem pf_Fp_36 : PFL C_Fp 36 10 6 1 true (.object "FourPoses$Replay") := ⟨C_Fp, T_Fp, ty_Fp, rfl, by decide, rfl, (lw_gdI 478 (by decide +kernel) rfl), in_Fp, tyok_Fp, nm_Fp, rfl, (fun _ => rfl), by decide +kernel⟩
theorem pf_Fp_43 : PFL C_Fp 43 10 7 1 true (.object "FourPoses$Rounds") := ⟨C_Fp, T_Fp, ty_Fp, rfl, by decide, rfl, (lw_gdI 479 (by decide +kernel) rfl), in_Fp, tyok_Fp, nm_Fp, rfl, (fun _ => rfl), by decide +kernel⟩
theorem pf_Fp_50 : PFL C_Fp 50 10 8 1 true (.object "FourPoses$Crane") := ⟨C_Fp, T_Fp, ty_Fp, rfl, by decide, rfl, (lw_gdI 480 (by decide +kernel) rfl), in_Fp, tyok_Fp, nm_Fp, rfl, (fun _ => rfl), by decide +kernel⟩
theorem pf_Fp_57 : PFL C_Fp 57 10 9 1 true (.object "FourPoses$Town") := ⟨C_Fp, T_Fp, ty_Fp, rfl, by decide, rfl, (lw_gdI 481 (by decide +kernel) rfl), in_Fp, tyok_Fp, nm_Fp, rfl, (fun _ => rfl), by decide +kernel⟩
theorem pf_Fp_61 : PFL C_Fp 61 10 10 1 true (.array (.object "FourPoses$Town")) := ⟨C_Fp, T_Fp, ty_Fp, rfl, by decide, rfl, (lw_gdI 482 (by decide +kernel) rfl), in_Fp, tyok_Fp, nm_Fp, rfl, (fun _ => rfl), by decide +kernel⟩
theorem pf_Fp_66 : PFL C_Fp 66 9 1 0 false (.int) := ⟨C_To, T_To, ty_To, rfl, by decide, rfl, (lw_gdI 430 (by decide +kernel) rfl), in_To, tyok_To, nm_To, rfl, (fun h => by cases h), by decide +kernel⟩
theorem pf_Fp_102 : PFL C_Fp 102 10 1 0 false (.int) := ⟨C_Fp, T_Fp, ty_Fp, rfl, by decide, rfl, (lw_gdI 473 (by decide +kernel) rfl), in_Fp, tyok_Fp, nm_Fp, rfl, (fun _ => rfl), by decide +kernel⟩
theorem pf_Fp_109 : PFL C_Fp 109 10 3 0 false (.int) := ⟨C_Fp, T_Fp, ty_Fp, rfl, by decide, rfl, (lw_gdI 475 (by decide +kernel) rfl), in_Fp, tyok_Fp, nm_Fp, rfl, (fun _ => rfl), by decide +kernel⟩
theorem pf_Fp_116 : PFL C_Fp 116 9 2 0 false (.int) := ⟨C_To, T_To, ty_To, rfl, by decide, rfl, (lw_gdI 436 (by decide +kernel) rfl), in_To, tyok_To, nm_To, rfl, (fun h => by cases h), by decide +kernel⟩
theorem pf_Fp_130 : PFL C_Fp 130 9 0 0 false (.int) := ⟨C_To, T_To, ty_To, rfl, by decide, rfl, (lw_gdI 429 (by decide +kernel) rfl), in_To, tyok_To, nm_To, rfl, (fun h => by cases h), by decide +kernel⟩
theorem pf_Fp_142 : PFL C_Fp 142 0 0 0 false (.int) := ⟨C_Bo, T_Bo, ty_Bo, rfl, by decide, rfl, (lw_gdI 375 (by decide +kernel) rfl), in_Bo, tyok_Bo, nm_Bo, rfl, (fun h => by cases h), by decide +kernel⟩
theorem pf_Fp_145 : PFL C_Fp 145 0 4 0 false (.int) := ⟨C_Bo, T_Bo, ty_Bo, rfl, by decide, rfl, (lw_gdI 385 (by decide +kernel) rfl), in_Bo, tyok_Bo, nm_Bo, rfl, (fun h => by cases h), by decide +kernel⟩
theorem pf_Fp_168 : PFL C_Fp 168 0 6 0 false (.int) := ⟨C_Bo, T_Bo, ty_Bo, rfl, by decide, rfl, (lw_gdI 389 (by decide +kernel) rfl), in_Bo, tyok_Bo, nm_Bo, rfl, (fun h => by cases h), by decide +kernel⟩
theorem pf_Fp_171 : PFL C_Fp 171 0 5 0 false (.int) := ⟨C_Bo, T_Bo, ty_Bo, rfl, by decide, rfl, (lw_gdI 387 (by decide +kernel) rfl), in_Bo, tyok_Bo, nm_Bo, rfl, (fun h => by cases h), by decide +kernel⟩
theorem pf_Fp_209 : PFL C_Fp 209 0 7 0 false (.int) := ⟨C_Bo, T_Bo, ty_Bo, rfl, by decide, rfl, (lw_gdI 391 (by decide +kernel) rfl), in_Bo, tyok_Bo, nm_Bo, rfl, (fun h => by cases h), by decide +kernel⟩
theorem pf_Fp_330 : PFL C_Fp 330 0 8 0 false (.int) := ⟨C_Bo, T_Bo, ty_Bo, rfl, by decide, rfl, (lw_gdI 394 (by decide +kernel) rfl), in_Bo, tyok_Bo, nm_Bo, rfl, (fun h => by cases h), by decide +kernel⟩
theorem pf_Bo_9 : PFL C_Bo 9 0 9 1 true (.array .int) := ⟨C_Bo, T_Bo, ty_Bo, rfl, by decide, rfl, (lw_gdI 395 (by decide +kernel) rfl), in_Bo, tyok_Bo, nm_Bo, rfl, (fun _ => rfl), by decide +kernel⟩
theorem pf_Bo_15 : PFL C_Bo 15 0 10 1 true (.array .int) := ⟨C_Bo, T_Bo, ty_Bo, rfl, by decide, rfl, (lw_gdI 397 (by decide +kernel) rfl), in_Bo, tyok_Bo, nm_Bo, rfl, (fun _ => rfl), by decide +kernel⟩
theorem pf_Bo_18 : PFL C_Bo 18 0 11 1 true (.array .int) := ⟨C_Bo, T_Bo, ty_Bo, rfl, by decide, rfl, (lw_gdI 400 (by decide +kernel) rfl), in_Bo, tyok_Bo, nm_Bo, rfl, (fun _ => rfl), by decide +kernel⟩
theorem pf_Bo_21 : PFL C_Bo 21 0 0 0 false (.int) := ⟨C_Bo, T_Bo, ty_Bo, rfl, by decide, rfl, (lw_gdI 371 (by decide +kernel) rfl), in_Bo, tyok_Bo, nm_Bo, rfl, (fun _ => rfl), by decide +kernel⟩
theorem pf_Bo_25 : PFL C_Bo 25 0 1 0 false (.int) := ⟨C_Bo, T_Bo, ty_Bo, rfl, by decide, rfl, (lw_gdI 376 (by decide +kernel) rfl), in_Bo, tyok_Bo, nm_Bo, rfl, (fun _ => rfl), by decide +kernel⟩
theorem pf_Bo_28 : PFL C_Bo 28 0 2 0 false (.int) := ⟨C_Bo, T_Bo, ty_Bo, rfl, by decide, rfl, (lw_gdI 379 (by decide +kernel) rfl), in_Bo, tyok_Bo, nm_Bo, rfl, (fun _ => rfl), by decide +kernel⟩
theorem pf_Bo_31 : PFL C_Bo 31 0 3 0 false (.int) := ⟨C_Bo, T_Bo, ty_Bo, rfl, by decide, rfl, (lw_gdI 381 (by decide +kernel) rfl), in_Bo, tyok_Bo, nm_Bo, rfl, (fun _ => rfl), by decide +kernel⟩
theorem pf_Bo_34 : PFL C_Bo 34 0 4 0 false (.int) := ⟨C_Bo, T_Bo, ty_Bo, rfl, by decide, rfl, (lw_gdI 384 (by decide +kernel) rfl), in_Bo, tyok_Bo, nm_Bo, rfl, (fun _ => rfl), by decide +kernel⟩
theorem pf_Bo_37 : PFL C_Bo 37 0 5 0 false (.int) := ⟨C_Bo, T_Bo, ty_Bo, rfl, by decide, rfl, (lw_gdI 386 (by decide +kernel) rfl), in_Bo, tyok_Bo, nm_Bo, rfl, (fun _ => rfl), by decide +kernel⟩
theorem pf_Bo_40 : PFL C_Bo 40 0 6 0 false (.int) := ⟨C_Bo, T_Bo, ty_Bo, rfl, by decide, rfl, (lw_gdI 388 (by decide +kernel) rfl), in_Bo, tyok_Bo, nm_Bo, rfl, (fun _ => rfl), by decide +kernel⟩
theorem pf_Bo_43 : PFL C_Bo 43 0 7 0 false (.int) := ⟨C_Bo, T_Bo, ty_Bo, rfl, by decide, rfl, (lw_gdI 390 (by decide +kernel) rfl), in_Bo, tyok_Bo, nm_Bo, rfl, (fun _ => rfl), by decide +kernel⟩
theorem pf_Bo_46 : PFL C_Bo 46 0 8 0 false (.int) := ⟨C_Bo, T_Bo, ty_Bo, rfl, by decide, rfl, (lw_gdI 392 (by decide +kernel) rfl), in_Bo, tyok_Bo, nm_Bo, rfl, (fun _ => rfl), by decide +kernel⟩
theorem pf_Cr_9 : PFL C_Cr 9 1 0 1 true (.array .int) := ⟨C_Cr, T_Cr, ty_Cr, rfl, by decide, rfl, (lw_gdI 237 (by decide +kernel) rfl), in_Cr, tyok_Cr, nm_Cr, rfl, (fun _ => rfl), by decide +kernel⟩
theorem pf_Cr_15 : PFL C_Cr 15 1 1 0 false (.boolean) := ⟨C_Cr, T_Cr, ty_Cr, rfl, by decide, rfl, (lw_gdI 238 (by decide +kernel) rfl), in_Cr, tyok_Cr, nm_Cr, rfl, (fun _ => rfl), by decide +kernel⟩
theorem pf_Cr_19 : PFL C_Cr 19 1 2 0 false (.int) := ⟨C_Cr, T_Cr, ty_Cr, rfl, by decide, rfl, (lw_gdI 239 (by decide +kernel) rfl), in_Cr, tyok_Cr, nm_Cr, rfl, (fun _ => rfl), by decide +kernel⟩
theorem pf_Di_11 : PFL C_Di 11 2 3 1 true (.array .int) := ⟨C_Di, T_Di, ty_Di, rfl, by decide, rfl, (lw_gdI 268 (by decide +kernel) rfl), in_Di, tyok_Di, nm_Di, rfl, (fun _ => rfl), by decide +kernel⟩
theorem pf_Di_15 : PFL C_Di 15 2 4 1 true (.array .int) := ⟨C_Di, T_Di, ty_Di, rfl, by decide, rfl, (lw_gdI 270 (by decide +kernel) rfl), in_Di, tyok_Di, nm_Di, rfl, (fun _ => rfl), by decide +kernel⟩
theorem pf_Di_18 : PFL C_Di 18 2 5 1 true (.array .int) := ⟨C_Di, T_Di, ty_Di, rfl, by decide, rfl, (lw_gdI 273 (by decide +kernel) rfl), in_Di, tyok_Di, nm_Di, rfl, (fun _ => rfl), by decide +kernel⟩
theorem pf_Di_21 : PFL C_Di 21 2 6 1 true (.array .int) := ⟨C_Di, T_Di, ty_Di, rfl, by decide, rfl, (lw_gdI 275 (by decide +kernel) rfl), in_Di, tyok_Di, nm_Di, rfl, (fun _ => rfl), by decide +kernel⟩
theorem pf_Di_24 : PFL C_Di 24 2 7 1 true (.array .int) := ⟨C_Di, T_Di, ty_Di, rfl, by decide, rfl, (lw_gdI 278 (by decide +kernel) rfl), in_Di, tyok_Di, nm_Di, rfl, (fun _ => rfl), by decide +kernel⟩
theorem pf_Di_27 : PFL C_Di 27 2 8 1 true (.array .int) := ⟨C_Di, T_Di, ty_Di, rfl, by decide, rfl, (lw_gdI 281 (by decide +kernel) rfl), in_Di, tyok_Di, nm_Di, rfl, (fun _ => rfl), by decide +kernel⟩
theorem pf_Di_30 : PFL C_Di 30 2 9 1 true (.array .int) := ⟨C_Di, T_Di, ty_Di, rfl, by decide, rfl, (lw_gdI 283 (by decide +kernel) rfl), in_Di, tyok_Di, nm_Di, rfl, (fun _ => rfl), by decide +kernel⟩
theorem pf_Di_33 : PFL C_Di 33 2 10 1 true (.array .int) := ⟨C_Di, T_Di, ty_Di, rfl, by decide, rfl, (lw_gdI 285 (by decide +kernel) rfl), in_Di, tyok_Di, nm_Di, rfl, (fun _ => rfl), by decide +kernel⟩
theorem pf_Di_36 : PFL C_Di 36 2 11 1 true (.array .int) := ⟨C_Di, T_Di, ty_Di, rfl, by decide, rfl, (lw_gdI 287 (by decide +kernel) rfl), in_Di, tyok_Di, nm_Di, rfl, (fun _ => rfl), by decide +kernel⟩
theorem pf_Di_39 : PFL C_Di 39 2 12 1 true (.array .int) := ⟨C_Di, T_Di, ty_Di, rfl, by decide, rfl, (lw_gdI 289 (by decide +kernel) rfl), in_Di, tyok_Di, nm_Di, rfl, (fun _ => rfl), by decide +kernel⟩
theorem pf_Di_42 : PFL C_Di 42 2 0 0 false (.int) := ⟨C_Di, T_Di, ty_Di, rfl, by decide, rfl, (lw_gdI 261 (by decide +kernel) rfl), in_Di, tyok_Di, nm_Di, rfl, (fun _ => rfl), by decide +kernel⟩
theorem pf_Di_46 : PFL C_Di 46 2 1 0 false (.int) := ⟨C_Di, T_Di, ty_Di, rfl, by decide, rfl, (lw_gdI 264 (by decide +kernel) rfl), in_Di, tyok_Di, nm_Di, rfl, (fun _ => rfl), by decide +kernel⟩
theorem pf_Di_49 : PFL C_Di 49 2 2 0 false (.int) := ⟨C_Di, T_Di, ty_Di, rfl, by decide, rfl, (lw_gdI 266 (by decide +kernel) rfl), in_Di, tyok_Di, nm_Di, rfl, (fun _ => rfl), by decide +kernel⟩
theorem pf_Fa_9 : PFL C_Fa 9 3 0 1 true (.array .long) := ⟨C_Fa, T_Fa, ty_Fa, rfl, by decide, rfl, (lw_gdI 200 (by decide +kernel) rfl), in_Fa, tyok_Fa, nm_Fa, rfl, (fun _ => rfl), by decide +kernel⟩
theorem pf_Fa_17 : PFL C_Fa 17 3 1 1 true (.array .long) := ⟨C_Fa, T_Fa, ty_Fa, rfl, by decide, rfl, (lw_gdI 201 (by decide +kernel) rfl), in_Fa, tyok_Fa, nm_Fa, rfl, (fun _ => rfl), by decide +kernel⟩
theorem pf_La_11 : PFL C_La 11 4 2 1 true (.array .int) := ⟨C_La, T_La, ty_La, rfl, by decide, rfl, (lw_gdI 137 (by decide +kernel) rfl), in_La, tyok_La, nm_La, rfl, (fun _ => rfl), by decide +kernel⟩
theorem pf_La_15 : PFL C_La 15 4 3 1 true (.array .int) := ⟨C_La, T_La, ty_La, rfl, by decide, rfl, (lw_gdI 138 (by decide +kernel) rfl), in_La, tyok_La, nm_La, rfl, (fun _ => rfl), by decide +kernel⟩
theorem pf_La_18 : PFL C_La 18 4 4 1 true (.array .int) := ⟨C_La, T_La, ty_La, rfl, by decide, rfl, (lw_gdI 140 (by decide +kernel) rfl), in_La, tyok_La, nm_La, rfl, (fun _ => rfl), by decide +kernel⟩
theorem pf_La_21 : PFL C_La 21 4 5 1 true (.array .int) := ⟨C_La, T_La, ty_La, rfl, by decide, rfl, (lw_gdI 141 (by decide +kernel) rfl), in_La, tyok_La, nm_La, rfl, (fun _ => rfl), by decide +kernel⟩
theorem pf_La_24 : PFL C_La 24 4 6 1 true (.array .int) := ⟨C_La, T_La, ty_La, rfl, by decide, rfl, (lw_gdI 142 (by decide +kernel) rfl), in_La, tyok_La, nm_La, rfl, (fun _ => rfl), by decide +kernel⟩
theorem pf_La_27 : PFL C_La 27 4 7 1 true (.array .int) := ⟨C_La, T_La, ty_La, rfl, by decide, rfl, (lw_gdI 143 (by decide +kernel) rfl), in_La, tyok_La, nm_La, rfl, (fun _ => rfl), by decide +kernel⟩
theorem pf_La_30 : PFL C_La 30 4 8 1 true (.array .int) := ⟨C_La, T_La, ty_La, rfl, by decide, rfl, (lw_gdI 145 (by decide +kernel) rfl), in_La, tyok_La, nm_La, rfl, (fun _ => rfl), by decide +kernel⟩
theorem pf_La_33 : PFL C_La 33 4 0 0 false (.int) := ⟨C_La, T_La, ty_La, rfl, by decide, rfl, (lw_gdI 134 (by decide +kernel) rfl), in_La, tyok_La, nm_La, rfl, (fun _ => rfl), by decide +kernel⟩
theorem pf_La_37 : PFL C_La 37 4 1 0 false (.int) := ⟨C_La, T_La, ty_La, rfl, by decide, rfl, (lw_gdI 136 (by decide +kernel) rfl), in_La, tyok_La, nm_La, rfl, (fun _ => rfl), by decide +kernel⟩
theorem pf_Po_9 : PFL C_Po 9 5 2 1 true (.array .int) := ⟨C_Po, T_Po, ty_Po, rfl, by decide, rfl, (lw_gdI 328 (by decide +kernel) rfl), in_Po, tyok_Po, nm_Po, rfl, (fun _ => rfl), by decide +kernel⟩
theorem pf_Po_15 : PFL C_Po 15 5 3 1 true (.array .int) := ⟨C_Po, T_Po, ty_Po, rfl, by decide, rfl, (lw_gdI 329 (by decide +kernel) rfl), in_Po, tyok_Po, nm_Po, rfl, (fun _ => rfl), by decide +kernel⟩
theorem pf_Po_18 : PFL C_Po 18 5 4 1 true (.array .int) := ⟨C_Po, T_Po, ty_Po, rfl, by decide, rfl, (lw_gdI 331 (by decide +kernel) rfl), in_Po, tyok_Po, nm_Po, rfl, (fun _ => rfl), by decide +kernel⟩
theorem pf_Po_21 : PFL C_Po 21 5 5 1 true (.array .int) := ⟨C_Po, T_Po, ty_Po, rfl, by decide, rfl, (lw_gdI 333 (by decide +kernel) rfl), in_Po, tyok_Po, nm_Po, rfl, (fun _ => rfl), by decide +kernel⟩
theorem pf_Po_24 : PFL C_Po 24 5 6 1 true (.array .int) := ⟨C_Po, T_Po, ty_Po, rfl, by decide, rfl, (lw_gdI 335 (by decide +kernel) rfl), in_Po, tyok_Po, nm_Po, rfl, (fun _ => rfl), by decide +kernel⟩
theorem pf_Po_27 : PFL C_Po 27 5 7 1 true (.array .int) := ⟨C_Po, T_Po, ty_Po, rfl, by decide, rfl, (lw_gdI 336 (by decide +kernel) rfl), in_Po, tyok_Po, nm_Po, rfl, (fun _ => rfl), by decide +kernel⟩
theorem pf_Po_30 : PFL C_Po 30 5 8 1 true (.array .int) := ⟨C_Po, T_Po, ty_Po, rfl, by decide, rfl, (lw_gdI 338 (by decide +kernel) rfl), in_Po, tyok_Po, nm_Po, rfl, (fun _ => rfl), by decide +kernel⟩
theorem pf_Po_33 : PFL C_Po 33 5 9 1 true (.array .int) := ⟨C_Po, T_Po, ty_Po, rfl, by decide, rfl, (lw_gdI 340 (by decide +kernel) rfl), in_Po, tyok_Po, nm_Po, rfl, (fun _ => rfl), by decide +kernel⟩
theorem pf_Po_36 : PFL C_Po 36 5 0 0 false (.int) := ⟨C_Po, T_Po, ty_Po, rfl, by decide, rfl, (lw_gdI 324 (by decide +kernel) rfl), in_Po, tyok_Po, nm_Po, rfl, (fun _ => rfl), by decide +kernel⟩
theorem pf_Po_40 : PFL C_Po 40 5 1 0 false (.int) := ⟨C_Po, T_Po, ty_Po, rfl, by decide, rfl, (lw_gdI 326 (by decide +kernel) rfl), in_Po, tyok_Po, nm_Po, rfl, (fun _ => rfl), by decide +kernel⟩
theorem pf_Re_11 : PFL C_Re 11 6 0 1 true (.array .int) := ⟨C_Re, T_Re, ty_Re, rfl, by decide, rfl, (lw_gdI 166 (by decide +kernel) rfl), in_Re, tyok_Re, nm_Re, rfl, (fun _ => rfl), by decide +kernel⟩
theorem pf_Re_15 : PFL C_Re 15 6 1 1 true (.array .int) := ⟨C_Re, T_Re, ty_Re, rfl, by decide, rfl, (lw_gdI 167 (by decide +kernel) rfl), in_Re, tyok_Re, nm_Re, rfl, (fun _ => rfl), by decide +kernel⟩
theorem pf_Re_18 : PFL C_Re 18 6 2 1 true (.array .int) := ⟨C_Re, T_Re, ty_Re, rfl, by decide, rfl, (lw_gdI 168 (by decide +kernel) rfl), in_Re, tyok_Re, nm_Re, rfl, (fun _ => rfl), by decide +kernel⟩
theorem pf_Re_24 : PFL C_Re 24 6 8 2 false (.object "FourPoses$Law") := ⟨C_Re, T_Re, ty_Re, rfl, by decide, rfl, (lw_gdI 174 (by decide +kernel) rfl), in_Re, tyok_Re, nm_Re, rfl, (fun _ => rfl), by decide +kernel⟩
theorem pf_Re_35 : PFL C_Re 35 6 6 0 false (.int) := ⟨C_Re, T_Re, ty_Re, rfl, by decide, rfl, (lw_gdI 172 (by decide +kernel) rfl), in_Re, tyok_Re, nm_Re, rfl, (fun _ => rfl), by decide +kernel⟩
theorem pf_Re_39 : PFL C_Re 39 6 7 0 false (.int) := ⟨C_Re, T_Re, ty_Re, rfl, by decide, rfl, (lw_gdI 173 (by decide +kernel) rfl), in_Re, tyok_Re, nm_Re, rfl, (fun _ => rfl), by decide +kernel⟩
theorem pf_Re_42 : PFL C_Re 42 6 4 0 false (.int) := ⟨C_Re, T_Re, ty_Re, rfl, by decide, rfl, (lw_gdI 170 (by decide +kernel) rfl), in_Re, tyok_Re, nm_Re, rfl, (fun _ => rfl), by decide +kernel⟩
theorem pf_Re_52 : PFL C_Re 52 6 5 0 false (.int) := ⟨C_Re, T_Re, ty_Re, rfl, by decide, rfl, (lw_gdI 171 (by decide +kernel) rfl), in_Re, tyok_Re, nm_Re, rfl, (fun _ => rfl), by decide +kernel⟩
theorem pf_Re_60 : PFL C_Re 60 6 3 0 false (.int) := ⟨C_Re, T_Re, ty_Re, rfl, by decide, rfl, (lw_gdI 169 (by decide +kernel) rfl), in_Re, tyok_Re, nm_Re, rfl, (fun _ => rfl), by decide +kernel⟩
theorem pf_Rp_9 : PFL C_Rp 9 7 0 1 true (.array .int) := ⟨C_Rp, T_Rp, ty_Rp, rfl, by decide, rfl, (lw_gdI 214 (by decide +kernel) rfl), in_Rp, tyok_Rp, nm_Rp, rfl, (fun _ => rfl), by decide +kernel⟩
theorem pf_Rp_15 : PFL C_Rp 15 7 1 1 true (.array .int) := ⟨C_Rp, T_Rp, ty_Rp, rfl, by decide, rfl, (lw_gdI 215 (by decide +kernel) rfl), in_Rp, tyok_Rp, nm_Rp, rfl, (fun _ => rfl), by decide +kernel⟩
theorem pf_Ro_9 : PFL C_Ro 9 8 0 1 true (.array .int) := ⟨C_Ro, T_Ro, ty_Ro, rfl, by decide, rfl, (lw_gdI 227 (by decide +kernel) rfl), in_Ro, tyok_Ro, nm_Ro, rfl, (fun _ => rfl), by decide +kernel⟩
theorem pf_To_9 : PFL C_To 9 9 3 1 true (.array .int) := ⟨C_To, T_To, ty_To, rfl, by decide, rfl, (lw_gdI 437 (by decide +kernel) rfl), in_To, tyok_To, nm_To, rfl, (fun _ => rfl), by decide +kernel⟩
theorem pf_To_15 : PFL C_To 15 9 4 1 true (.array .int) := ⟨C_To, T_To, ty_To, rfl, by decide, rfl, (lw_gdI 440 (by decide +kernel) rfl), in_To, tyok_To, nm_To, rfl, (fun _ => rfl), by decide +kernel⟩
theorem pf_To_18 : PFL C_To 18 9 5 1 true (.array .int) := ⟨C_To, T_To, ty_To, rfl, by decide, rfl, (lw_gdI 443 (by decide +kernel) rfl), in_To, tyok_To, nm_To, rfl, (fun _ => rfl), by decide +kernel⟩
theorem pf_To_23 : PFL C_To 23 9 6 1 true (.array (.object "FourPoses$Booth")) := ⟨C_To, T_To, ty_To, rfl, by decide, rfl, (lw_gdI 445 (by decide +kernel) rfl), in_To, tyok_To, nm_To, rfl, (fun _ => rfl), by decide +kernel⟩
theorem pf_To_30 : PFL C_To 30 9 7 1 true (.object "FourPoses$Diary") := ⟨C_To, T_To, ty_To, rfl, by decide, rfl, (lw_gdI 446 (by decide +kernel) rfl), in_To, tyok_To, nm_To, rfl, (fun _ => rfl), by decide +kernel⟩
theorem pf_To_37 : PFL C_To 37 9 8 1 true (.object "FourPoses$Post") := ⟨C_To, T_To, ty_To, rfl, by decide, rfl, (lw_gdI 449 (by decide +kernel) rfl), in_To, tyok_To, nm_To, rfl, (fun _ => rfl), by decide +kernel⟩
theorem pf_To_48 : PFL C_To 48 9 0 0 false (.int) := ⟨C_To, T_To, ty_To, rfl, by decide, rfl, (lw_gdI 428 (by decide +kernel) rfl), in_To, tyok_To, nm_To, rfl, (fun _ => rfl), by decide +kernel⟩
theorem pf_To_52 : PFL C_To 52 9 1 0 false (.int) := ⟨C_To, T_To, ty_To, rfl, by decide, rfl, (lw_gdI 431 (by decide +kernel) rfl), in_To, tyok_To, nm_To, rfl, (fun _ => rfl), by decide +kernel⟩
theorem pf_To_55 : PFL C_To 55 9 2 0 false (.int) := ⟨C_To, T_To, ty_To, rfl, by decide, rfl, (lw_gdI 434 (by decide +kernel) rfl), in_To, tyok_To, nm_To, rfl, (fun _ => rfl), by decide +kernel⟩
theorem pf_Mo_7 : PFL C_Mo 7 11 0 1 true (.array .int) := ⟨C_Mo, T_Mo, ty_Mo, rfl, by decide, rfl, (lw_gdI 1182 (by decide +kernel) rfl), in_Mo, tyok_Mo, nm_Mo, rfl, (fun _ => rfl), by decide +kernel⟩
theorem pf_Mo_13 : PFL C_Mo 13 11 1 1 true (.array .byte) := ⟨C_Mo, T_Mo, ty_Mo, rfl, by decide, rfl, (lw_gdI 1183 (by decide +kernel) rfl), in_Mo, tyok_Mo, nm_Mo, rfl, (fun _ => rfl), by decide +kernel⟩
theorem pf_Mo_17 : PFL C_Mo 17 11 4 1 true (.array .int) := ⟨C_Mo, T_Mo, ty_Mo, rfl, by decide, rfl, (lw_gdI 1186 (by decide +kernel) rfl), in_Mo, tyok_Mo, nm_Mo, rfl, (fun _ => rfl), by decide +kernel⟩
theorem pf_Mo_20 : PFL C_Mo 20 11 5 1 true (.array .int) := ⟨C_Mo, T_Mo, ty_Mo, rfl, by decide, rfl, (lw_gdI 1187 (by decide +kernel) rfl), in_Mo, tyok_Mo, nm_Mo, rfl, (fun _ => rfl), by decide +kernel⟩
theorem pf_Mo_23 : PFL C_Mo 23 11 6 1 true (.array .int) := ⟨C_Mo, T_Mo, ty_Mo, rfl, by decide, rfl, (lw_gdI 1188 (by decide +kernel) rfl), in_Mo, tyok_Mo, nm_Mo, rfl, (fun _ => rfl), by decide +kernel⟩
theorem pf_Mo_26 : PFL C_Mo 26 11 7 1 true (.array .int) := ⟨C_Mo, T_Mo, ty_Mo, rfl, by decide, rfl, (lw_gdI 1189 (by decide +kernel) rfl), in_Mo, tyok_Mo, nm_Mo, rfl, (fun _ => rfl), by decide +kernel⟩
theorem pf_Mo_29 : PFL C_Mo 29 11 8 1 true (.array .int) := ⟨C_Mo, T_Mo, ty_Mo, rfl, by decide, rfl, (lw_gdI 1190 (by decide +kernel) rfl), in_Mo, tyok_Mo, nm_Mo, rfl, (fun _ => rfl), by decide +kernel⟩
theorem pf_Mo_32 : PFL C_Mo 32 11 16 1 true (.array .int) := ⟨C_Mo, T_Mo, ty_Mo, rfl, by decide, rfl, (lw_gdI 1198 (by decide +kernel) rfl), in_Mo, tyok_Mo, nm_Mo, rfl, (fun _ => rfl), by decide +kernel⟩
theorem pf_Mo_35 : PFL C_Mo 35 11 18 1 true (.array .long) := ⟨C_Mo, T_Mo, ty_Mo, rfl, by decide, rfl, (lw_gdI 1200 (by decide +kernel) rfl), in_Mo, tyok_Mo, nm_Mo, rfl, (fun _ => rfl), by decide +kernel⟩
theorem pf_Mo_39 : PFL C_Mo 39 11 20 1 true (.array .long) := ⟨C_Mo, T_Mo, ty_Mo, rfl, by decide, rfl, (lw_gdI 1202 (by decide +kernel) rfl), in_Mo, tyok_Mo, nm_Mo, rfl, (fun _ => rfl), by decide +kernel⟩
theorem pf_Mo_42 : PFL C_Mo 42 11 21 1 true (.array .int) := ⟨C_Mo, T_Mo, ty_Mo, rfl, by decide, rfl, (lw_gdI 1203 (by decide +kernel) rfl), in_Mo, tyok_Mo, nm_Mo, rfl, (fun _ => rfl), by decide +kernel⟩
theorem pf_Mo_45 : PFL C_Mo 45 11 22 1 true (.array .int) := ⟨C_Mo, T_Mo, ty_Mo, rfl, by decide, rfl, (lw_gdI 1204 (by decide +kernel) rfl), in_Mo, tyok_Mo, nm_Mo, rfl, (fun _ => rfl), by decide +kernel⟩
theorem pf_Mo_48 : PFL C_Mo 48 11 23 1 true (.array .int) := ⟨C_Mo, T_Mo, ty_Mo, rfl, by decide, rfl, (lw_gdI 1205 (by decide +kernel) rfl), in_Mo, tyok_Mo, nm_Mo, rfl, (fun _ => rfl), by decide +kernel⟩
theorem pf_Mo_51 : PFL C_Mo 51 11 24 1 true (.array .int) := ⟨C_Mo, T_Mo, ty_Mo, rfl, by decide, rfl, (lw_gdI 1206 (by decide +kernel) rfl), in_Mo, tyok_Mo, nm_Mo, rfl, (fun _ => rfl), by decide +kernel⟩
theorem pf_Mo_55 : PFL C_Mo 55 11 25 1 true (.array .int) := ⟨C_Mo, T_Mo, ty_Mo, rfl, by decide, rfl, (lw_gdI 1207 (by decide +kernel) rfl), in_Mo, tyok_Mo, nm_Mo, rfl, (fun _ => rfl), by decide +kernel⟩
theorem pf_Mo_58 : PFL C_Mo 58 11 26 1 true (.array .boolean) := ⟨C_Mo, T_Mo, ty_Mo, rfl, by decide, rfl, (lw_gdI 1208 (by decide +kernel) rfl), in_Mo, tyok_Mo, nm_Mo, rfl, (fun _ => rfl), by decide +kernel⟩
theorem pf_Mo_79 : PFL C_Mo 79 11 2 0 false (.int) := ⟨C_Mo, T_Mo, ty_Mo, rfl, by decide, rfl, (lw_gdI 1184 (by decide +kernel) rfl), in_Mo, tyok_Mo, nm_Mo, rfl, (fun _ => rfl), by decide +kernel⟩
theorem pf_Mo_87 : PFL C_Mo 87 11 10 0 false (.int) := ⟨C_Mo, T_Mo, ty_Mo, rfl, by decide, rfl, (lw_gdI 1192 (by decide +kernel) rfl), in_Mo, tyok_Mo, nm_Mo, rfl, (fun _ => rfl), by decide +kernel⟩
theorem pf_Mo_90 : PFL C_Mo 90 11 9 0 false (.int) := ⟨C_Mo, T_Mo, ty_Mo, rfl, by decide, rfl, (lw_gdI 1191 (by decide +kernel) rfl), in_Mo, tyok_Mo, nm_Mo, rfl, (fun _ => rfl), by decide +kernel⟩
theorem pf_Mo_114 : PFL C_Mo 114 11 11 0 false (.int) := ⟨C_Mo, T_Mo, ty_Mo, rfl, by decide, rfl, (lw_gdI 1193 (by decide +kernel) rfl), in_Mo, tyok_Mo, nm_Mo, rfl, (fun _ => rfl), by decide +kernel⟩
theorem pf_Mo_135 : PFL C_Mo 135 11 12 0 false (.int) := ⟨C_Mo, T_Mo, ty_Mo, rfl, by decide, rfl, (lw_gdI 1194 (by decide +kernel) rfl), in_Mo, tyok_Mo, nm_Mo, rfl, (fun _ => rfl), by decide +kernel⟩
theorem pf_Mo_138 : PFL C_Mo 138 11 13 0 false (.int) := ⟨C_Mo, T_Mo, ty_Mo, rfl, by decide, rfl, (lw_gdI 1195 (by decide +kernel) rfl), in_Mo, tyok_Mo, nm_Mo, rfl, (fun _ => rfl), by decide +kernel⟩
theorem pf_Mo_141 : PFL C_Mo 141 11 14 0 false (.int) := ⟨C_Mo, T_Mo, ty_Mo, rfl, by decide, rfl, (lw_gdI 1196 (by decide +kernel) rfl), in_Mo, tyok_Mo, nm_Mo, rfl, (fun _ => rfl), by decide +kernel⟩
theorem pf_Mo_144 : PFL C_Mo 144 11 17 0 false (.int) := ⟨C_Mo, T_Mo, ty_Mo, rfl, by decide, rfl, (lw_gdI 1199 (by decide +kernel) rfl), in_Mo, tyok_Mo, nm_Mo, rfl, (fun _ => rfl), by decide +kernel⟩
theorem pf_Mo_223 : PFL C_Mo 223 11 15 0 false (.int) := ⟨C_Mo, T_Mo, ty_Mo, rfl, by decide, rfl, (lw_gdI 1197 (by decide +kernel) rfl), in_Mo, tyok_Mo, nm_Mo, rfl, (fun _ => rfl), by decide +kernel⟩
theorem pf_Mo_236 : PFL C_Mo 236 11 3 0 false (.int) := ⟨C_Mo, T_Mo, ty_Mo, rfl, by decide, rfl, (lw_gdI 1185 (by decide +kernel) rfl), in_Mo, tyok_Mo, nm_Mo, rfl, (fun _ => rfl), by decide +kernel⟩
theorem pf_Mo_242 : PFL C_Mo 242 11 19 0 false (.int) := ⟨C_Mo, T_Mo, ty_Mo, rfl, by decide, rfl, (lw_gdI 1201 (by decide +kernel) rfl), in_Mo, tyok_Mo, nm_Mo, rfl, (fun _ => rfl), by decide +kernel⟩
