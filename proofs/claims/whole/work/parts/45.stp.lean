/-! ===== a turn of each loop ===== -/
theorem s_Tape_add_3 (F : Nat) (f : Nat) : g_Tape_add_3 F (f + 1) = b_Tape_add_3 F (g_Tape_add_3 F f) := rfl
theorem s_M_feed_55 (F : Nat) (f : Nat) : g_M_feed_55 F (f + 1) = b_M_feed_55 F (g_M_feed_55 F f) := rfl
theorem s_Arrays_fill_5_5 (F : Nat) (f : Nat) : g_Arrays_fill_5_5 F (f + 1) = b_Arrays_fill_5_5 F (g_Arrays_fill_5_5 F f) := rfl
theorem s_Arrays_fill_6_5 (F : Nat) (f : Nat) : g_Arrays_fill_6_5 F (f + 1) = b_Arrays_fill_6_5 F (g_Arrays_fill_6_5 F f) := rfl
theorem s_Arrays_fill_7_5 (F : Nat) (f : Nat) : g_Arrays_fill_7_5 F (f + 1) = b_Arrays_fill_7_5 F (g_Arrays_fill_7_5 F f) := rfl
theorem s_Arrays_fill_8_5 (F : Nat) (f : Nat) : g_Arrays_fill_8_5 F (f + 1) = b_Arrays_fill_8_5 F (g_Arrays_fill_8_5 F f) := rfl
theorem s_Arrays_fill_18_5 (F : Nat) (f : Nat) : g_Arrays_fill_18_5 F (f + 1) = b_Arrays_fill_18_5 F (g_Arrays_fill_18_5 F f) := rfl
theorem s_Reader_advance_0 (F : Nat) (f : Nat) : g_Reader_advance_0 F (f + 1) = b_Reader_advance_0 F (g_Reader_advance_0 F f) := rfl
theorem s_Reader_advance_187 (F : Nat) (f : Nat) : g_Reader_advance_187 F (f + 1) = b_Reader_advance_187 F (g_Reader_advance_187 F f) := rfl
theorem s_Reader_advance_114 (F : Nat) (f : Nat) : g_Reader_advance_114 F (f + 1) = b_Reader_advance_114 F (g_Reader_advance_114 F f) := rfl
theorem s_Reader_isWord_28 (F : Nat) (D : mx_D) (f : Nat) : g_Reader_isWord_28 F D (f + 1) = b_Reader_isWord_28 F D (g_Reader_isWord_28 F D f) := rfl
theorem s_Church_wearerOf_4_2 (F : Nat) (D : mx_D) (f : Nat) : g_Church_wearerOf_4_2 F D (f + 1) = b_Church_wearerOf_4_2 F D (g_Church_wearerOf_4_2 F D f) := rfl
theorem s_Church_sitterAt_4_2 (F : Nat) (D : mx_D) (f : Nat) : g_Church_sitterAt_4_2 F D (f + 1) = b_Church_sitterAt_4_2 F D (g_Church_sitterAt_4_2 F D f) := rfl
theorem s_Reader_readTape_28 (F : Nat) (f : Nat) : g_Reader_readTape_28 F (f + 1) = b_Reader_readTape_28 F (g_Reader_readTape_28 F f) := rfl
theorem s_M_advance_0 (F : Nat) (f : Nat) : g_M_advance_0 F (f + 1) = b_M_advance_0 F (g_M_advance_0 F f) := rfl
theorem s_M_advance_144 (F : Nat) (f : Nat) : g_M_advance_144 F (f + 1) = b_M_advance_144 F (g_M_advance_144 F f) := rfl
theorem s_M_advance_83 (F : Nat) (f : Nat) : g_M_advance_83 F (f + 1) = b_M_advance_83 F (g_M_advance_83 F f) := rfl
theorem s_M_is_39 (F : Nat) (D : mx_D) (f : Nat) : g_M_is_39 F D (f + 1) = b_M_is_39 F D (g_M_is_39 F D f) := rfl
theorem s_M_isNextTaken_19 (F : Nat) (D : mx_D) (f : Nat) : g_M_isNextTaken_19 F D (f + 1) = b_M_isNextTaken_19 F D (g_M_isNextTaken_19 F D f) := rfl
theorem s_M_church_30 (F : Nat) (f : Nat) : g_M_church_30 F (f + 1) = b_M_church_30 F (g_M_church_30 F f) := rfl
theorem s_M_church_53 (F : Nat) (f : Nat) : g_M_church_53 F (f + 1) = b_M_church_53 F (g_M_church_53 F f) := rfl
theorem s_M_church_86 (F : Nat) (f : Nat) : g_M_church_86 F (f + 1) = b_M_church_86 F (g_M_church_86 F f) := rfl
theorem s_Church_sittersOf_4 (F : Nat) (D : mx_D) (f : Nat) : g_Church_sittersOf_4 F D (f + 1) = b_Church_sittersOf_4 F D (g_Church_sittersOf_4 F D f) := rfl
theorem s_M_inPew_4 (F : Nat) (D : mx_D) (f : Nat) : g_M_inPew_4 F D (f + 1) = b_M_inPew_4 F D (g_M_inPew_4 F D f) := rfl
theorem s_M_bits_4 (F : Nat) (f : Nat) : g_M_bits_4 F (f + 1) = b_M_bits_4 F (g_M_bits_4 F f) := rfl
theorem s_Church_sitterAt_2 (F : Nat) (D : mx_D) (f : Nat) : g_Church_sitterAt_2 F D (f + 1) = b_Church_sitterAt_2 F D (g_Church_sitterAt_2 F D f) := rfl
theorem s_M_sitterAt_2 (F : Nat) (D : mx_D) (f : Nat) : g_M_sitterAt_2 F D (f + 1) = b_M_sitterAt_2 F D (g_M_sitterAt_2 F D f) := rfl
theorem s_Church_booksUnder_4 (F : Nat) (D : mx_D) (f : Nat) : g_Church_booksUnder_4 F D (f + 1) = b_Church_booksUnder_4 F D (g_Church_booksUnder_4 F D f) := rfl
theorem s_M_person_41 (F : Nat) (D : mx_D) (f : Nat) : g_M_person_41 F D (f + 1) = b_M_person_41 F D (g_M_person_41 F D f) := rfl
theorem s_Church_bookHighUnder_4 (F : Nat) (D : mx_D) (f : Nat) : g_Church_bookHighUnder_4 F D (f + 1) = b_Church_bookHighUnder_4 F D (g_Church_bookHighUnder_4 F D f) := rfl
theorem s_M_booksOf_4 (F : Nat) (D : mx_D) (f : Nat) : g_M_booksOf_4 F D (f + 1) = b_M_booksOf_4 F D (g_M_booksOf_4 F D f) := rfl
theorem s_Arrays_fill_36_5 (F : Nat) (f : Nat) : g_Arrays_fill_36_5 F (f + 1) = b_Arrays_fill_36_5 F (g_Arrays_fill_36_5 F f) := rfl
theorem s_Heights_take_23 (F : Nat) (f : Nat) : g_Heights_take_23 F (f + 1) = b_Heights_take_23 F (g_Heights_take_23 F f) := rfl
theorem s_Heights_tallestOf_6 (F : Nat) (D : mx_D) (f : Nat) : g_Heights_tallestOf_6 F D (f + 1) = b_Heights_tallestOf_6 F D (g_Heights_tallestOf_6 F D f) := rfl
theorem s_Heights_lowestOf_6 (F : Nat) (D : mx_D) (f : Nat) : g_Heights_lowestOf_6 F D (f + 1) = b_Heights_lowestOf_6 F D (g_Heights_lowestOf_6 F D f) := rfl
theorem s_M_lay_2 (F : Nat) (f : Nat) : g_M_lay_2 F (f + 1) = b_M_lay_2 F (g_M_lay_2 F f) := rfl
theorem s_M_sitters_4 (F : Nat) (D : mx_D) (f : Nat) : g_M_sitters_4 F D (f + 1) = b_M_sitters_4 F D (g_M_sitters_4 F D f) := rfl
theorem s_M_spreadOf_11 (F : Nat) (D : mx_D) (f : Nat) : g_M_spreadOf_11 F D (f + 1) = b_M_spreadOf_11 F D (g_M_spreadOf_11 F D f) := rfl
theorem s_Heights_apart_17 (F : Nat) (D : mx_D) (f : Nat) : g_Heights_apart_17 F D (f + 1) = b_Heights_apart_17 F D (g_Heights_apart_17 F D f) := rfl
theorem s_M_unlevel_20 (F : Nat) (D : mx_D) (f : Nat) : g_M_unlevel_20 F D (f + 1) = b_M_unlevel_20 F D (g_M_unlevel_20 F D f) := rfl
theorem s_X_first_13 (F : Nat) (f : Nat) : g_X_first_13 F (f + 1) = b_X_first_13 F (g_X_first_13 F f) := rfl
theorem s_M_first_13 (F : Nat) (f : Nat) : g_M_first_13 F (f + 1) = b_M_first_13 F (g_M_first_13 F f) := rfl
theorem s_X_out_37 (F : Nat) (f : Nat) : g_X_out_37 F (f + 1) = b_X_out_37 F (g_X_out_37 F f) := rfl
theorem s_M_out_31 (F : Nat) (f : Nat) : g_M_out_31 F (f + 1) = b_M_out_31 F (g_M_out_31 F f) := rfl
theorem s_X_above_29 (F : Nat) (f : Nat) : g_X_above_29 F (f + 1) = b_X_above_29 F (g_X_above_29 F f) := rfl
theorem s_M_above_22 (F : Nat) (f : Nat) : g_M_above_22 F (f + 1) = b_M_above_22 F (g_M_above_22 F f) := rfl
theorem s_Sawing_begin_2 (F : Nat) (f : Nat) : g_Sawing_begin_2 F (f + 1) = b_Sawing_begin_2 F (g_Sawing_begin_2 F f) := rfl
theorem s_Sawing_measure_2 (F : Nat) (f : Nat) : g_Sawing_measure_2 F (f + 1) = b_Sawing_measure_2 F (g_Sawing_measure_2 F f) := rfl
theorem s_Sawing_lowestNow_6 (F : Nat) (D : mx_D) (f : Nat) : g_Sawing_lowestNow_6 F D (f + 1) = b_Sawing_lowestNow_6 F D (g_Sawing_lowestNow_6 F D f) := rfl
theorem s_Sawing_settle_31 (F : Nat) (f : Nat) : g_Sawing_settle_31 F (f + 1) = b_Sawing_settle_31 F (g_Sawing_settle_31 F f) := rfl
theorem s_Sawing_settle_52 (F : Nat) (k31 : Int32 → Int32 → mx_D → Option (Int32 × mx_D)) (f : Nat) : g_Sawing_settle_52 F k31 (f + 1) = b_Sawing_settle_52 F k31 (g_Sawing_settle_52 F k31 f) := rfl
theorem s_X_sawAsLongAsCan_13 (F : Nat) (f : Nat) : g_X_sawAsLongAsCan_13 F (f + 1) = b_X_sawAsLongAsCan_13 F (g_X_sawAsLongAsCan_13 F f) := rfl
theorem s_Sawing_together_4 (F : Nat) (D : mx_D) (f : Nat) : g_Sawing_together_4 F D (f + 1) = b_Sawing_together_4 F D (g_Sawing_together_4 F D f) := rfl
theorem s_M_keepUnsawn_7 (F : Nat) (f : Nat) : g_M_keepUnsawn_7 F (f + 1) = b_M_keepUnsawn_7 F (g_M_keepUnsawn_7 F f) := rfl
theorem s_M_beginsSawing_2 (F : Nat) (f : Nat) : g_M_beginsSawing_2 F (f + 1) = b_M_beginsSawing_2 F (g_M_beginsSawing_2 F f) := rfl
theorem s_M_layMore_2 (F : Nat) (f : Nat) : g_M_layMore_2 F (f + 1) = b_M_layMore_2 F (g_M_layMore_2 F f) := rfl
theorem s_M_sumMore_4 (F : Nat) (D : mx_D) (f : Nat) : g_M_sumMore_4 F D (f + 1) = b_M_sumMore_4 F D (g_M_sumMore_4 F D f) := rfl
theorem s_M_keepIfBest_30 (F : Nat) (f : Nat) : g_M_keepIfBest_30 F (f + 1) = b_M_keepIfBest_30 F (g_M_keepIfBest_30 F f) := rfl
theorem s_M_nextSawing_9 (F : Nat) (f : Nat) : g_M_nextSawing_9 F (f + 1) = b_M_nextSawing_9 F (g_M_nextSawing_9 F f) := rfl
theorem s_M_sawAll_26 (F : Nat) (f : Nat) : g_M_sawAll_26 F (f + 1) = b_M_sawAll_26 F (g_M_sawAll_26 F f) := rfl
theorem s_Sawing_waysBetween_5 (F : Nat) (D : mx_D) (f : Nat) : g_Sawing_waysBetween_5 F D (f + 1) = b_Sawing_waysBetween_5 F D (g_Sawing_waysBetween_5 F D f) := rfl
theorem s_Sawing_countTakenWays_13 (F : Nat) (D : mx_D) (f : Nat) : g_Sawing_countTakenWays_13 F D (f + 1) = b_Sawing_countTakenWays_13 F D (g_Sawing_countTakenWays_13 F D f) := rfl
theorem s_Sawing_countWays_17 (F : Nat) (f : Nat) : g_Sawing_countWays_17 F (f + 1) = b_Sawing_countWays_17 F (g_Sawing_countWays_17 F f) := rfl
theorem s_M_code_4 (F : Nat) (D : mx_D) (f : Nat) : g_M_code_4 F D (f + 1) = b_M_code_4 F D (g_M_code_4 F D f) := rfl
theorem s_M_unit_6 (F : Nat) (f : Nat) : g_M_unit_6 F (f + 1) = b_M_unit_6 F (g_M_unit_6 F f) := rfl
theorem s_M_spreads_4 (F : Nat) (f : Nat) : g_M_spreads_4 F (f + 1) = b_M_spreads_4 F (g_M_spreads_4 F f) := rfl
theorem s_M_spreads_16 (F : Nat) (k4 : mx_D → Option (mx_D)) (f : Nat) : g_M_spreads_16 F k4 (f + 1) = b_M_spreads_16 F k4 (g_M_spreads_16 F k4 f) := rfl
theorem s_M_goesOn_20 (F : Nat) (f : Nat) : g_M_goesOn_20 F (f + 1) = b_M_goesOn_20 F (g_M_goesOn_20 F f) := rfl
theorem s_M_plansUpTo_2 (F : Nat) (f : Nat) : g_M_plansUpTo_2 F (f + 1) = b_M_plansUpTo_2 F (g_M_plansUpTo_2 F f) := rfl
theorem s_M_plansUpTo_34 (F : Nat) (f : Nat) : g_M_plansUpTo_34 F (f + 1) = b_M_plansUpTo_34 F (g_M_plansUpTo_34 F f) := rfl
theorem s_X_clashingIn_61 (F : Nat) (f : Nat) : g_X_clashingIn_61 F (f + 1) = b_X_clashingIn_61 F (g_X_clashingIn_61 F f) := rfl
theorem s_M_canBeLevel_4 (F : Nat) (f : Nat) : g_M_canBeLevel_4 F (f + 1) = b_M_canBeLevel_4 F (g_M_canBeLevel_4 F f) := rfl
theorem s_M_clashing_25 (F : Nat) (f : Nat) : g_M_clashing_25 F (f + 1) = b_M_clashing_25 F (g_M_clashing_25 F f) := rfl
theorem s_Arrays_fill_49_5 (F : Nat) (f : Nat) : g_Arrays_fill_49_5 F (f + 1) = b_Arrays_fill_49_5 F (g_Arrays_fill_49_5 F f) := rfl
theorem s_Arrays_fill_50_5 (F : Nat) (f : Nat) : g_Arrays_fill_50_5 F (f + 1) = b_Arrays_fill_50_5 F (g_Arrays_fill_50_5 F f) := rfl
theorem s_BookSearch_begin_12 (F : Nat) (f : Nat) : g_BookSearch_begin_12 F (f + 1) = b_BookSearch_begin_12 F (g_BookSearch_begin_12 F f) := rfl
theorem s_BookSearch_begin_58 (F : Nat) (f : Nat) : g_BookSearch_begin_58 F (f + 1) = b_BookSearch_begin_58 F (g_BookSearch_begin_58 F f) := rfl
theorem s_BookSearch_begin_80 (F : Nat) (k58 : Int32 → mx_D → Option (mx_D)) (f : Nat) : g_BookSearch_begin_80 F k58 (f + 1) = b_BookSearch_begin_80 F k58 (g_BookSearch_begin_80 F k58 f) := rfl
theorem s_BookSearch_give_121 (F : Nat) (kS : Int32 → Int32 → Int32 → Int32 → mx_D → Option (mx_D)) (f : Nat) : g_BookSearch_give_121 F kS (f + 1) = b_BookSearch_give_121 F kS (g_BookSearch_give_121 F kS f) := rfl
theorem s_BookSearch_give (F : Nat) (f : Nat) : g_BookSearch_give F (f + 1) = b_BookSearch_give F (g_BookSearch_give F f) := rfl
theorem s_BookSearch_findFewest_7 (F : Nat) (f : Nat) : g_BookSearch_findFewest_7 F (f + 1) = b_BookSearch_findFewest_7 F (g_BookSearch_findFewest_7 F f) := rfl
theorem s_M_nextGiving_10 (F : Nat) (f : Nat) : g_M_nextGiving_10 F (f + 1) = b_M_nextGiving_10 F (g_M_nextGiving_10 F f) := rfl
theorem s_M_nextGiving_22 (F : Nat) (k10 : Int32 → mx_D → Option (Int32 × mx_D)) (f : Nat) : g_M_nextGiving_22 F k10 (f + 1) = b_M_nextGiving_22 F k10 (g_M_nextGiving_22 F k10 f) := rfl
theorem s_M_giveAll_12 (F : Nat) (f : Nat) : g_M_giveAll_12 F (f + 1) = b_M_giveAll_12 F (g_M_giveAll_12 F f) := rfl
theorem s_M_giveAll_46 (F : Nat) (f : Nat) : g_M_giveAll_46 F (f + 1) = b_M_giveAll_46 F (g_M_giveAll_46 F f) := rfl
theorem s_M_giveAll_168 (F : Nat) (f : Nat) : g_M_giveAll_168 F (f + 1) = b_M_giveAll_168 F (g_M_giveAll_168 F f) := rfl
theorem s_M_giveAll_71 (F : Nat) (k46 : Int32 → mx_D → Option (mx_D)) (f : Nat) : g_M_giveAll_71 F k46 (f + 1) = b_M_giveAll_71 F k46 (g_M_giveAll_71 F k46 f) := rfl
theorem s_M_giveAll_131 (F : Nat) (k46 : Int32 → mx_D → Option (mx_D)) (f : Nat) : g_M_giveAll_131 F k46 (f + 1) = b_M_giveAll_131 F k46 (g_M_giveAll_131 F k46 f) := rfl
theorem s_BookSearch_ownerOf_17 (F : Nat) (D : mx_D) (f : Nat) : g_BookSearch_ownerOf_17 F D (f + 1) = b_BookSearch_ownerOf_17 F D (g_BookSearch_ownerOf_17 F D f) := rfl
theorem s_Arrays_fill_53_5 (F : Nat) (f : Nat) : g_Arrays_fill_53_5 F (f + 1) = b_Arrays_fill_53_5 F (g_Arrays_fill_53_5 F f) := rfl
theorem s_Arrays_fill_55_5 (F : Nat) (f : Nat) : g_Arrays_fill_55_5 F (f + 1) = b_Arrays_fill_55_5 F (g_Arrays_fill_55_5 F f) := rfl
theorem s_Arrays_fill_56_5 (F : Nat) (f : Nat) : g_Arrays_fill_56_5 F (f + 1) = b_Arrays_fill_56_5 F (g_Arrays_fill_56_5 F f) := rfl
theorem s_Church_sitters_4 (F : Nat) (D : mx_D) (f : Nat) : g_Church_sitters_4 F D (f + 1) = b_Church_sitters_4 F D (g_Church_sitters_4 F D f) := rfl
theorem s_HatSearch_hand_113 (F : Nat) (kS : Int32 → Int32 → mx_D → Option (mx_D)) (f : Nat) : g_HatSearch_hand_113 F kS (f + 1) = b_HatSearch_hand_113 F kS (g_HatSearch_hand_113 F kS f) := rfl
theorem s_HatSearch_hand (F : Nat) (f : Nat) : g_HatSearch_hand F (f + 1) = b_HatSearch_hand F (g_HatSearch_hand F f) := rfl
theorem s_HatSearch_find_12 (F : Nat) (f : Nat) : g_HatSearch_find_12 F (f + 1) = b_HatSearch_find_12 F (g_HatSearch_find_12 F f) := rfl
theorem s_M_nextSitter_4 (F : Nat) (D : mx_D) (f : Nat) : g_M_nextSitter_4 F D (f + 1) = b_M_nextSitter_4 F D (g_M_nextSitter_4 F D f) := rfl
theorem s_M_metHats_18 (F : Nat) (f : Nat) : g_M_metHats_18 F (f + 1) = b_M_metHats_18 F (g_M_metHats_18 F f) := rfl
theorem s_M_sitterAhead_4 (F : Nat) (D : mx_D) (f : Nat) : g_M_sitterAhead_4 F D (f + 1) = b_M_sitterAhead_4 F D (g_M_sitterAhead_4 F D f) := rfl
theorem s_M_isHatFree_2 (F : Nat) (D : mx_D) (f : Nat) : g_M_isHatFree_2 F D (f + 1) = b_M_isHatFree_2 F D (g_M_isHatFree_2 F D f) := rfl
theorem s_M_handAll_7 (F : Nat) (f : Nat) : g_M_handAll_7 F (f + 1) = b_M_handAll_7 F (g_M_handAll_7 F f) := rfl
theorem s_M_handAll_63 (F : Nat) (f : Nat) : g_M_handAll_63 F (f + 1) = b_M_handAll_63 F (g_M_handAll_63 F f) := rfl
theorem s_M_handAll_178 (F : Nat) (f : Nat) : g_M_handAll_178 F (f + 1) = b_M_handAll_178 F (g_M_handAll_178 F f) := rfl
theorem s_M_handAll_86 (F : Nat) (k63 : Int32 → Int32 → mx_D → Option (mx_D)) (f : Nat) : g_M_handAll_86 F k63 (f + 1) = b_M_handAll_86 F k63 (g_M_handAll_86 F k63 f) := rfl
theorem s_HatSearch_nextOf_12 (F : Nat) (D : mx_D) (f : Nat) : g_HatSearch_nextOf_12 F D (f + 1) = b_HatSearch_nextOf_12 F D (g_HatSearch_nextOf_12 F D f) := rfl
theorem s_HatSearch_ringFrom_4 (F : Nat) (D : mx_D) (f : Nat) : g_HatSearch_ringFrom_4 F D (f + 1) = b_HatSearch_ringFrom_4 F D (g_HatSearch_ringFrom_4 F D f) := rfl
theorem s_HatSearch_ringsOf_7 (F : Nat) (D : mx_D) (f : Nat) : g_HatSearch_ringsOf_7 F D (f + 1) = b_HatSearch_ringsOf_7 F D (g_HatSearch_ringsOf_7 F D f) := rfl
theorem s_M_getsHatOf_22 (F : Nat) (D : mx_D) (f : Nat) : g_M_getsHatOf_22 F D (f + 1) = b_M_getsHatOf_22 F D (g_M_getsHatOf_22 F D f) := rfl
theorem s_M_rings_46 (F : Nat) (f : Nat) : g_M_rings_46 F (f + 1) = b_M_rings_46 F (g_M_rings_46 F f) := rfl
theorem s_M_rings_74 (F : Nat) (k46 : Int32 → Int32 → Int32 → Int32 → Int32 → mx_D → Option (Int32 × mx_D)) (f : Nat) : g_M_rings_74 F k46 (f + 1) = b_M_rings_74 F k46 (g_M_rings_74 F k46 f) := rfl
theorem s_X_bare_17 (F : Nat) (D : mx_D) (f : Nat) : g_X_bare_17 F D (f + 1) = b_X_bare_17 F D (g_X_bare_17 F D f) := rfl
theorem s_M_bare_14 (F : Nat) (D : mx_D) (f : Nat) : g_M_bare_14 F D (f + 1) = b_M_bare_14 F D (g_M_bare_14 F D f) := rfl
theorem s_Groups_sortIn_15 (F : Nat) (f : Nat) : g_Groups_sortIn_15 F (f + 1) = b_Groups_sortIn_15 F (g_Groups_sortIn_15 F f) := rfl
theorem s_Groups_take_7 (F : Nat) (f : Nat) : g_Groups_take_7 F (f + 1) = b_Groups_take_7 F (g_Groups_take_7 F f) := rfl
theorem s_Groups_fewest_11 (F : Nat) (D : mx_D) (f : Nat) : g_Groups_fewest_11 F D (f + 1) = b_Groups_fewest_11 F D (g_Groups_fewest_11 F D f) := rfl
theorem s_M_layBodies_2 (F : Nat) (f : Nat) : g_M_layBodies_2 F (f + 1) = b_M_layBodies_2 F (g_M_layBodies_2 F f) := rfl
theorem s_M_kindsBy_14 (F : Nat) (f : Nat) : g_M_kindsBy_14 F (f + 1) = b_M_kindsBy_14 F (g_M_kindsBy_14 F f) := rfl
theorem s_M_kindsBy_48 (F : Nat) (k14 : Int32 → Int32 → Int32 → mx_D → Option (Int32 × mx_D)) (f : Nat) : g_M_kindsBy_48 F k14 (f + 1) = b_M_kindsBy_48 F k14 (g_M_kindsBy_48 F k14 f) := rfl
theorem s_X_wide_38 (F : Nat) (f : Nat) : g_X_wide_38 F (f + 1) = b_X_wide_38 F (g_X_wide_38 F f) := rfl
theorem s_M_wide_22 (F : Nat) (f : Nat) : g_M_wide_22 F (f + 1) = b_M_wide_22 F (g_M_wide_22 F f) := rfl
theorem s_X_stayingAwayIn_22 (F : Nat) (f : Nat) : g_X_stayingAwayIn_22 F (f + 1) = b_X_stayingAwayIn_22 F (g_X_stayingAwayIn_22 F f) := rfl
theorem s_M_awayIn_15 (F : Nat) (f : Nat) : g_M_awayIn_15 F (f + 1) = b_M_awayIn_15 F (g_M_awayIn_15 F f) := rfl
theorem s_X_stilts_26 (F : Nat) (f : Nat) : g_X_stilts_26 F (f + 1) = b_X_stilts_26 F (g_X_stilts_26 F f) := rfl
theorem s_M_stilts_14 (F : Nat) (f : Nat) : g_M_stilts_14 F (f + 1) = b_M_stilts_14 F (g_M_stilts_14 F f) := rfl
theorem s_X_lengths_29 (F : Nat) (f : Nat) : g_X_lengths_29 F (f + 1) = b_X_lengths_29 F (g_X_lengths_29 F f) := rfl
theorem s_M_lengths_17 (F : Nat) (f : Nat) : g_M_lengths_17 F (f + 1) = b_M_lengths_17 F (g_M_lengths_17 F f) := rfl
theorem s_X_hump_40 (F : Nat) (D : mx_D) (f : Nat) : g_X_hump_40 F D (f + 1) = b_X_hump_40 F D (g_X_hump_40 F D f) := rfl
theorem s_M_hump_51 (F : Nat) (f : Nat) : g_M_hump_51 F (f + 1) = b_M_hump_51 F (g_M_hump_51 F f) := rfl
theorem s_Heights_drop_8 (F : Nat) (f : Nat) : g_Heights_drop_8 F (f + 1) = b_Heights_drop_8 F (g_Heights_drop_8 F f) := rfl
theorem s_X_seat_55 (F : Nat) (f : Nat) : g_X_seat_55 F (f + 1) = b_X_seat_55 F (g_X_seat_55 F f) := rfl
theorem s_X_seat_70 (F : Nat) (k55 : Int32 → Int32 → Int32 → mx_D → Option (Int32 × mx_D)) (f : Nat) : g_X_seat_70 F k55 (f + 1) = b_X_seat_70 F k55 (g_X_seat_70 F k55 f) := rfl
theorem s_M_seat_40 (F : Nat) (f : Nat) : g_M_seat_40 F (f + 1) = b_M_seat_40 F (g_M_seat_40 F f) := rfl
theorem s_X_pair_43 (F : Nat) (f : Nat) : g_X_pair_43 F (f + 1) = b_X_pair_43 F (g_X_pair_43 F f) := rfl
theorem s_X_pair_64 (F : Nat) (k43 : Int32 → Int32 → Int32 → mx_D → Option (Int32 × mx_D)) (f : Nat) : g_X_pair_64 F k43 (f + 1) = b_X_pair_64 F k43 (g_X_pair_64 F k43 f) := rfl
theorem s_M_pair_30 (F : Nat) (f : Nat) : g_M_pair_30 F (f + 1) = b_M_pair_30 F (g_M_pair_30 F f) := rfl
theorem s_M_pair_47 (F : Nat) (k30 : Int32 → Int32 → Int32 → Int32 → mx_D → Option (Int32 × mx_D)) (f : Nat) : g_M_pair_47 F k30 (f + 1) = b_M_pair_47 F k30 (g_M_pair_47 F k30 f) := rfl
theorem s_Church_wearerOf_2 (F : Nat) (D : mx_D) (f : Nat) : g_Church_wearerOf_2 F D (f + 1) = b_Church_wearerOf_2 F D (g_Church_wearerOf_2 F D f) := rfl
theorem s_M_wears_34 (F : Nat) (f : Nat) : g_M_wears_34 F (f + 1) = b_M_wears_34 F (g_M_wears_34 F f) := rfl
theorem s_X_digs_69 (F : Nat) (f : Nat) : g_X_digs_69 F (f + 1) = b_X_digs_69 F (g_X_digs_69 F f) := rfl
theorem s_M_digs_43 (F : Nat) (f : Nat) : g_M_digs_43 F (f + 1) = b_M_digs_43 F (g_M_digs_43 F f) := rfl
theorem s_X_least_53 (F : Nat) (f : Nat) : g_X_least_53 F (f + 1) = b_X_least_53 F (g_X_least_53 F f) := rfl
theorem s_Sightings_fitting_108_22 (F : Nat) (D : mx_D) (E : mx_E) (f : Nat) : g_Sightings_fitting_108_22 F D E (f + 1) = b_Sightings_fitting_108_22 F D E (g_Sightings_fitting_108_22 F D E f) := rfl
theorem s_Sightings_take_108_38 (F : Nat) (E : mx_E) (f : Nat) : g_Sightings_take_108_38 F E (f + 1) = b_Sightings_take_108_38 F E (g_Sightings_take_108_38 F E f) := rfl
theorem s_Sightings_fitting_110_22 (F : Nat) (D : mx_D) (E : mx_E) (f : Nat) : g_Sightings_fitting_110_22 F D E (f + 1) = b_Sightings_fitting_110_22 F D E (g_Sightings_fitting_110_22 F D E f) := rfl
theorem s_Sightings_take_110_38 (F : Nat) (E : mx_E) (f : Nat) : g_Sightings_take_110_38 F E (f + 1) = b_Sightings_take_110_38 F E (g_Sightings_take_110_38 F E f) := rfl
theorem s_Sightings_fitting_112_22 (F : Nat) (D : mx_D) (E : mx_E) (f : Nat) : g_Sightings_fitting_112_22 F D E (f + 1) = b_Sightings_fitting_112_22 F D E (g_Sightings_fitting_112_22 F D E f) := rfl
theorem s_Sightings_take_112_38 (F : Nat) (E : mx_E) (f : Nat) : g_Sightings_take_112_38 F E (f + 1) = b_Sightings_take_112_38 F E (g_Sightings_take_112_38 F E f) := rfl
theorem s_Sightings_fitting_114_22 (F : Nat) (D : mx_D) (E : mx_E) (f : Nat) : g_Sightings_fitting_114_22 F D E (f + 1) = b_Sightings_fitting_114_22 F D E (g_Sightings_fitting_114_22 F D E f) := rfl
theorem s_Sightings_take_114_38 (F : Nat) (E : mx_E) (f : Nat) : g_Sightings_take_114_38 F E (f + 1) = b_Sightings_take_114_38 F E (g_Sightings_take_114_38 F E f) := rfl
theorem s_Arrays_fill_59_5 (F : Nat) (f : Nat) : g_Arrays_fill_59_5 F (f + 1) = b_Arrays_fill_59_5 F (g_Arrays_fill_59_5 F f) := rfl
theorem s_Sightings_waysInto_5 (F : Nat) (D : mx_D) (f : Nat) : g_Sightings_waysInto_5 F D (f + 1) = b_Sightings_waysInto_5 F D (g_Sightings_waysInto_5 F D f) := rfl
theorem s_Sightings_countWays_37 (F : Nat) (f : Nat) : g_Sightings_countWays_37 F (f + 1) = b_Sightings_countWays_37 F (g_Sightings_countWays_37 F f) := rfl
theorem s_Sightings_countWays_95 (F : Nat) (f : Nat) : g_Sightings_countWays_95 F (f + 1) = b_Sightings_countWays_95 F (g_Sightings_countWays_95 F f) := rfl
theorem s_Sightings_countWays_47 (F : Nat) (k37 : Int32 → Int32 → mx_D → Option (Int32 × mx_D)) (f : Nat) : g_Sightings_countWays_47 F k37 (f + 1) = b_Sightings_countWays_47 F k37 (g_Sightings_countWays_47 F k37 f) := rfl
theorem s_M_asksSeen_47 (F : Nat) (D : mx_D) (E : mx_E) (f : Nat) : g_M_asksSeen_47 F D E (f + 1) = b_M_asksSeen_47 F D E (g_M_asksSeen_47 F D E f) := rfl
theorem s_M_asksSeen_84 (F : Nat) (D : mx_D) (E : mx_E) (k47 : Int32 → Int32 → Option (Int32)) (f : Nat) : g_M_asksSeen_84 F D E k47 (f + 1) = b_M_asksSeen_84 F D E k47 (g_M_asksSeen_84 F D E k47 f) := rfl
theorem s_M_seenBy_3 (F : Nat) (E : mx_E) (f : Nat) : g_M_seenBy_3 F E (f + 1) = b_M_seenBy_3 F E (g_M_seenBy_3 F E f) := rfl
theorem s_M_seenBy_39 (F : Nat) (E : mx_E) (f : Nat) : g_M_seenBy_39 F E (f + 1) = b_M_seenBy_39 F E (g_M_seenBy_39 F E f) := rfl
theorem s_M_seenBy_265 (F : Nat) (E : mx_E) (f : Nat) : g_M_seenBy_265 F E (f + 1) = b_M_seenBy_265 F E (g_M_seenBy_265 F E f) := rfl
theorem s_M_seenBy_83 (F : Nat) (E : mx_E) (k39 : Int32 → Int32 → Int32 → Int32 → Int32 → mx_D → Option (Int32 × mx_D)) (f : Nat) : g_M_seenBy_83 F E k39 (f + 1) = b_M_seenBy_83 F E k39 (g_M_seenBy_83 F E k39 f) := rfl
theorem s_M_seenBy_110 (F : Nat) (E : mx_E) (k39 : Int32 → Int32 → Int32 → Int32 → Int32 → mx_D → Option (Int32 × mx_D)) (f : Nat) : g_M_seenBy_110 F E k39 (f + 1) = b_M_seenBy_110 F E k39 (g_M_seenBy_110 F E k39 f) := rfl
theorem s_M_seenBy_223 (F : Nat) (E : mx_E) (k39 : Int32 → Int32 → Int32 → Int32 → Int32 → mx_D → Option (Int32 × mx_D)) (f : Nat) : g_M_seenBy_223 F E k39 (f + 1) = b_M_seenBy_223 F E k39 (g_M_seenBy_223 F E k39 f) := rfl
theorem s_M_seenBy_166 (F : Nat) (E : mx_E) (k39 : Int32 → Int32 → Int32 → Int32 → Int32 → mx_D → Option (Int32 × mx_D)) (k110 : Int32 → Int32 → Int32 → Int32 → Int32 → Int32 → Int32 → mx_D → Option (Int32 × mx_D)) (f : Nat) : g_M_seenBy_166 F E k39 k110 (f + 1) = b_M_seenBy_166 F E k39 k110 (g_M_seenBy_166 F E k39 k110 f) := rfl
theorem s_Sightings_surelyAt_37 (F : Nat) (f : Nat) : g_Sightings_surelyAt_37 F (f + 1) = b_Sightings_surelyAt_37 F (g_Sightings_surelyAt_37 F f) := rfl
theorem s_M_sure_57 (F : Nat) (E : mx_E) (f : Nat) : g_M_sure_57 F E (f + 1) = b_M_sure_57 F E (g_M_sure_57 F E f) := rfl
theorem s_Sightings_firstOdd_108_3 (F : Nat) (D : mx_D) (E : mx_E) (f : Nat) : g_Sightings_firstOdd_108_3 F D E (f + 1) = b_Sightings_firstOdd_108_3 F D E (g_Sightings_firstOdd_108_3 F D E f) := rfl
theorem s_Sightings_firstOdd_110_3 (F : Nat) (D : mx_D) (E : mx_E) (f : Nat) : g_Sightings_firstOdd_110_3 F D E (f + 1) = b_Sightings_firstOdd_110_3 F D E (g_Sightings_firstOdd_110_3 F D E f) := rfl
theorem s_Sightings_firstOdd_112_3 (F : Nat) (D : mx_D) (E : mx_E) (f : Nat) : g_Sightings_firstOdd_112_3 F D E (f + 1) = b_Sightings_firstOdd_112_3 F D E (g_Sightings_firstOdd_112_3 F D E f) := rfl
theorem s_Sightings_firstOdd_114_3 (F : Nat) (D : mx_D) (E : mx_E) (f : Nat) : g_Sightings_firstOdd_114_3 F D E (f + 1) = b_Sightings_firstOdd_114_3 F D E (g_Sightings_firstOdd_114_3 F D E f) := rfl
theorem s_M_odd_16 (F : Nat) (D : mx_D) (E : mx_E) (f : Nat) : g_M_odd_16 F D E (f + 1) = b_M_odd_16 F D E (g_M_odd_16 F D E f) := rfl
theorem s_Heights_growByDraws_6 (F : Nat) (f : Nat) : g_Heights_growByDraws_6 F (f + 1) = b_Heights_growByDraws_6 F (g_Heights_growByDraws_6 F f) := rfl
theorem s_X_firstUnlevelDrawn_18 (F : Nat) (f : Nat) : g_X_firstUnlevelDrawn_18 F (f + 1) = b_X_firstUnlevelDrawn_18 F (g_X_firstUnlevelDrawn_18 F f) := rfl
theorem s_M_begins_7 (F : Nat) (f : Nat) : g_M_begins_7 F (f + 1) = b_M_begins_7 F (g_M_begins_7 F f) := rfl
theorem s_M_isLevelDrawn_7 (F : Nat) (f : Nat) : g_M_isLevelDrawn_7 F (f + 1) = b_M_isLevelDrawn_7 F (g_M_isLevelDrawn_7 F f) := rfl
theorem s_M_growsOn_2 (F : Nat) (f : Nat) : g_M_growsOn_2 F (f + 1) = b_M_growsOn_2 F (g_M_growsOn_2 F f) := rfl
theorem s_M_firstDrawn_7 (F : Nat) (f : Nat) : g_M_firstDrawn_7 F (f + 1) = b_M_firstDrawn_7 F (g_M_firstDrawn_7 F f) := rfl
theorem s_X_grown_48 (F : Nat) (f : Nat) : g_X_grown_48 F (f + 1) = b_X_grown_48 F (g_X_grown_48 F f) := rfl
theorem s_M_grown_36 (F : Nat) (f : Nat) : g_M_grown_36 F (f + 1) = b_M_grown_36 F (g_M_grown_36 F f) := rfl
theorem s_X_years_35 (F : Nat) (f : Nat) : g_X_years_35 F (f + 1) = b_X_years_35 F (g_X_years_35 F f) := rfl
theorem s_M_years_36 (F : Nat) (f : Nat) : g_M_years_36 F (f + 1) = b_M_years_36 F (g_M_years_36 F f) := rfl
theorem s_Church_sawnTogether_4 (F : Nat) (D : mx_D) (f : Nat) : g_Church_sawnTogether_4 F D (f + 1) = b_Church_sawnTogether_4 F D (g_Church_sawnTogether_4 F D f) := rfl
theorem s_X_slotsWithRow_4 (F : Nat) (D : mx_D) (f : Nat) : g_X_slotsWithRow_4 F D (f + 1) = b_X_slotsWithRow_4 F D (g_X_slotsWithRow_4 F D f) := rfl
theorem s_M_count_134 (F : Nat) (D : mx_D) (f : Nat) : g_M_count_134 F D (f + 1) = b_M_count_134 F D (g_M_count_134 F D f) := rfl
theorem s_M_count_163 (F : Nat) (D : mx_D) (f : Nat) : g_M_count_163 F D (f + 1) = b_M_count_163 F D (g_M_count_163 F D f) := rfl
theorem s_M_image_17 (F : Nat) (f : Nat) : g_M_image_17 F (f + 1) = b_M_image_17 F (g_M_image_17 F f) := rfl
theorem s_M_back_29 (F : Nat) (f : Nat) : g_M_back_29 F (f + 1) = b_M_back_29 F (g_M_back_29 F f) := rfl
theorem s_Arrays_fill2_109_6 (F : Nat) (f : Nat) : g_Arrays_fill2_109_6 F (f + 1) = b_Arrays_fill2_109_6 F (g_Arrays_fill2_109_6 F f) := rfl
theorem s_Arrays_fill2_111_6 (F : Nat) (f : Nat) : g_Arrays_fill2_111_6 F (f + 1) = b_Arrays_fill2_111_6 F (g_Arrays_fill2_111_6 F f) := rfl
theorem s_Arrays_fill2_113_6 (F : Nat) (f : Nat) : g_Arrays_fill2_113_6 F (f + 1) = b_Arrays_fill2_113_6 F (g_Arrays_fill2_113_6 F f) := rfl
theorem s_Arrays_fill2_115_6 (F : Nat) (f : Nat) : g_Arrays_fill2_115_6 F (f + 1) = b_Arrays_fill2_115_6 F (g_Arrays_fill2_115_6 F f) := rfl
theorem s_M_row_52 (F : Nat) (f : Nat) : g_M_row_52 F (f + 1) = b_M_row_52 F (g_M_row_52 F f) := rfl
theorem s_M_paste_113 (F : Nat) (D : mx_D) (f : Nat) : g_M_paste_113 F D (f + 1) = b_M_paste_113 F D (g_M_paste_113 F D f) := rfl
theorem s_M_paste_150 (F : Nat) (D : mx_D) (f : Nat) : g_M_paste_150 F D (f + 1) = b_M_paste_150 F D (g_M_paste_150 F D f) := rfl
theorem s_law_18 (F : Nat) (X : ev_X) (f : Nat) : g_law_18 F X (f + 1) = b_law_18 F X (g_law_18 F X f) := rfl
