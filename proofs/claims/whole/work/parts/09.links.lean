/-! the methods: names, codes, locals, answers; the links of fields and calls (printed by a program) -/
abbrev mi_X0_isWon : Mi := (yX0_isWon, cX0_isWon, 10, (some .boolean))
abbrev mi_X0_firstWord : Mi := (yX0_firstWord, cX0_firstWord, 8, (some .int))
abbrev mi_X1_seen : Mi := (yX1_seen, cX1_seen, 1, (some .int))
abbrev mi_X1_seeNothing : Mi := (yX1_seeNothing, cX1_seeNothing, 1, none)
abbrev mi_X1_see : Mi := (yX1_see, cX1_see, 3, (some .boolean))
abbrev mi_X1_possible : Mi := (yX1_possible, cX1_possible, 4, (some .int))
abbrev mi_X1_spellAt : Mi := (yX1_spellAt, cX1_spellAt, 6, (some .int))
abbrev mi_X1_bestToLift : Mi := (yX1_bestToLift, cX1_bestToLift, 6, (some .int))
abbrev mi_X1_mostLeft : Mi := (yX1_mostLeft, cX1_mostLeft, 6, (some .int))
abbrev mi_X1_canBe : Mi := (yX1_canBe, cX1_canBe, 4, (some .boolean))
abbrev mi_X1_answerOf : Mi := (yX1_answerOf, cX1_answerOf, 3, (some .int))
abbrev mi_X2_traced : Mi := (yX2_traced, cX2_traced, 1, (some .long))
abbrev mi_X2_rating : Mi := (yX2_rating, cX2_rating, 5, (some .int))
abbrev mi_X2_asSpell : Mi := (yX2_asSpell, cX2_asSpell, 3, (some .int))
abbrev mi_X2_asCharm : Mi := (yX2_asCharm, cX2_asCharm, 3, (some .int))
abbrev mi_X2_asCurse : Mi := (yX2_asCurse, cX2_asCurse, 3, (some .int))
abbrev mi_X2_asFlame : Mi := (yX2_asFlame, cX2_asFlame, 3, (some .int))
abbrev mi_X2_asFrost : Mi := (yX2_asFrost, cX2_asFrost, 3, (some .int))
abbrev mi_X2_asWax : Mi := (yX2_asWax, cX2_asWax, 4, (some .int))
abbrev mi_X3_length : Mi := (yX3_length, cX3_length, 1, (some .int))
abbrev mi_X3_empty : Mi := (yX3_empty, cX3_empty, 1, none)
abbrev mi_X3_hasRoomFor : Mi := (yX3_hasRoomFor, cX3_hasRoomFor, 2, (some .boolean))
abbrev mi_X3_add : Mi := (yX3_add, cX3_add, 2, none)
abbrev mi_X3_read : Mi := (yX3_read, cX3_read, 3, (some .int))
abbrev mi_X3_accepts : Mi := (yX3_accepts, cX3_accepts, 2, (some .boolean))
abbrev mi_X3_opensItem : Mi := (yX3_opensItem, cX3_opensItem, 2, (some .boolean))
abbrev mi_X3_hasPlaceForItem : Mi := (yX3_hasPlaceForItem, cX3_hasPlaceForItem, 2, (some .boolean))
abbrev mi_X3_addsNumber : Mi := (yX3_addsNumber, cX3_addsNumber, 2, (some .boolean))
abbrev mi_X3_canBeNext : Mi := (yX3_canBeNext, cX3_canBeNext, 2, (some .boolean))
abbrev mi_X3_closesItem : Mi := (yX3_closesItem, cX3_closesItem, 3, (some .boolean))
abbrev mi_X3_tell : Mi := (yX3_tell, cX3_tell, 3, none)
abbrev mi_X3_gatheredRow : Mi := (yX3_gatheredRow, cX3_gatheredRow, 3, (some .int))
abbrev mi_X3_readToken : Mi := (yX3_readToken, cX3_readToken, 2, none)
abbrev mi_X3_readDigits : Mi := (yX3_readDigits, cX3_readDigits, 2, none)
abbrev mi_X3_readLetters : Mi := (yX3_readLetters, cX3_readLetters, 1, none)
abbrev mi_X3_isWord : Mi := (yX3_isWord, cX3_isWord, 3, (some .boolean))
abbrev mi_X3_isDigit : Mi := (yX3_isDigit, cX3_isDigit, 1, (some .boolean))
abbrev mi_X3_isLetter : Mi := (yX3_isLetter, cX3_isLetter, 1, (some .boolean))
abbrev mi_X4_isFull : Mi := (yX4_isFull, cX4_isFull, 1, (some .boolean))
abbrev mi_X4_with : Mi := (yX4_with, cX4_with, 2, (some .int))
abbrev mi_X4_top : Mi := (yX4_top, cX4_top, 1, (some .int))
abbrev mi_X4_below : Mi := (yX4_below, cX4_below, 1, (some .int))
abbrev mi_X4_without : Mi := (yX4_without, cX4_without, 4, (some .int))
abbrev mi_X4_fromAbove : Mi := (yX4_fromAbove, cX4_fromAbove, 2, (some .int))
abbrev mi_X4_swapped : Mi := (yX4_swapped, cX4_swapped, 2, (some .int))
abbrev mi_X4_depth : Mi := (yX4_depth, cX4_depth, 3, (some .int))
abbrev mi_X5_beNew : Mi := (yX5_beNew, cX5_beNew, 1, none)
abbrev mi_X5_addSpell : Mi := (yX5_addSpell, cX5_addSpell, 5, none)
abbrev mi_X5_addThing : Mi := (yX5_addThing, cX5_addThing, 2, none)
abbrev mi_X5_addPupil : Mi := (yX5_addPupil, cX5_addPupil, 2, none)
abbrev mi_X5_setSwapCost : Mi := (yX5_setSwapCost, cX5_setSwapCost, 2, none)
abbrev mi_X5_setCopyCost : Mi := (yX5_setCopyCost, cX5_setCopyCost, 2, none)
abbrev mi_X5_setHumDepth : Mi := (yX5_setHumDepth, cX5_setHumDepth, 2, none)
abbrev mi_X5_spells : Mi := (yX5_spells, cX5_spells, 1, (some .int))
abbrev mi_X5_things : Mi := (yX5_things, cX5_things, 1, (some .int))
abbrev mi_X5_pupils : Mi := (yX5_pupils, cX5_pupils, 1, (some .int))
abbrev mi_X5_costOfSwap : Mi := (yX5_costOfSwap, cX5_costOfSwap, 1, (some .int))
abbrev mi_X5_costOfCopy : Mi := (yX5_costOfCopy, cX5_costOfCopy, 1, (some .int))
abbrev mi_X5_humsFrom : Mi := (yX5_humsFrom, cX5_humsFrom, 1, (some .int))
abbrev mi_X5_isSpell : Mi := (yX5_isSpell, cX5_isSpell, 2, (some .boolean))
abbrev mi_X5_isThing : Mi := (yX5_isThing, cX5_isThing, 2, (some .boolean))
abbrev mi_X5_isPupil : Mi := (yX5_isPupil, cX5_isPupil, 2, (some .boolean))
abbrev mi_X5_isPupilSet : Mi := (yX5_isPupilSet, cX5_isPupilSet, 2, (some .boolean))
abbrev mi_X5_effectOf : Mi := (yX5_effectOf, cX5_effectOf, 2, (some .int))
abbrev mi_X5_isGlass : Mi := (yX5_isGlass, cX5_isGlass, 2, (some .boolean))
abbrev mi_X5_layCost : Mi := (yX5_layCost, cX5_layCost, 2, (some .int))
abbrev mi_X5_liftCost : Mi := (yX5_liftCost, cX5_liftCost, 2, (some .int))
abbrev mi_X5_firstRow : Mi := (yX5_firstRow, cX5_firstRow, 2, (some .int))
abbrev mi_X5_spellsOfPupil : Mi := (yX5_spellsOfPupil, cX5_spellsOfPupil, 2, (some .int))
abbrev mi_X5_spellsOfSet : Mi := (yX5_spellsOfSet, cX5_spellsOfSet, 4, (some .int))
abbrev mi_X5_sayersOf : Mi := (yX5_sayersOf, cX5_sayersOf, 4, (some .int))
abbrev mi_X5_maySay : Mi := (yX5_maySay, cX5_maySay, 3, (some .boolean))
abbrev mi_X5_mayOneSay : Mi := (yX5_mayOneSay, cX5_mayOneSay, 4, (some .boolean))
abbrev mi_X5_isHumming : Mi := (yX5_isHumming, cX5_isHumming, 2, (some .boolean))
abbrev mi_X5_knows : Mi := (yX5_knows, cX5_knows, 4, (some .boolean))
abbrev mi_X5_worksOf : Mi := (yX5_worksOf, cX5_worksOf, 6, (some .int))
abbrev mi_X5_after : Mi := (yX5_after, cX5_after, 6, (some .int))
abbrev mi_X5_costOf : Mi := (yX5_costOf, cX5_costOf, 3, (some .int))
abbrev mi_X5_hasWay : Mi := (yX5_hasWay, cX5_hasWay, 8, (some .boolean))
abbrev mi_X5_fewestFor : Mi := (yX5_fewestFor, cX5_fewestFor, 4, (some .int))
abbrev mi_X5_worksOnBase : Mi := (yX5_worksOnBase, cX5_worksOnBase, 6, (some .int))
abbrev mi_X6_costOf : Mi := (yX6_costOf, cX6_costOf, 1, (some .int))
abbrev mi_X6_firstOf : Mi := (yX6_firstOf, cX6_firstOf, 1, (some .int))
abbrev mi_X6_nearest : Mi := (yX6_nearest, cX6_nearest, 7, (some .int))
abbrev mi_X6_goOnFrom : Mi := (yX6_goOnFrom, cX6_goOnFrom, 8, none)
abbrev mi_X6_offer : Mi := (yX6_offer, cX6_offer, 4, none)
abbrev mi_X6_takeLeast : Mi := (yX6_takeLeast, cX6_takeLeast, 2, (some .int))
abbrev mi_X6_rise : Mi := (yX6_rise, cX6_rise, 6, none)
abbrev mi_X6_sink : Mi := (yX6_sink, cX6_sink, 5, none)
abbrev mi_X6_labelAt : Mi := (yX6_labelAt, cX6_labelAt, 2, (some .int))
abbrev mi_X6_sit : Mi := (yX6_sit, cX6_sit, 3, none)
abbrev mi_X7_startAs : Mi := (yX7_startAs, cX7_startAs, 3, none)
abbrev mi_X7_rowOf : Mi := (yX7_rowOf, cX7_rowOf, 2, (some .int))
abbrev mi_X7_spent : Mi := (yX7_spent, cX7_spent, 1, (some .int))
abbrev mi_X7_known : Mi := (yX7_known, cX7_known, 1, (some .int))
abbrev mi_X7_change : Mi := (yX7_change, cX7_change, 4, none)
abbrev mi_X7_takeBack : Mi := (yX7_takeBack, cX7_takeBack, 1, (some .boolean))
abbrev mi_X7_humming : Mi := (yX7_humming, cX7_humming, 4, (some .int))
abbrev mi_X7_layers : Mi := (yX7_layers, cX7_layers, 3, (some .int))
abbrev mi_X7_layersWith : Mi := (yX7_layersWith, cX7_layersWith, 5, (some .int))
abbrev mi_X7_keepImage : Mi := (yX7_keepImage, cX7_keepImage, 3, none)
abbrev mi_X7_becomeImage : Mi := (yX7_becomeImage, cX7_becomeImage, 3, (some .boolean))
abbrev mi_X8_type : Mi := (yX8_type, cX8_type, 5, (some .int))
abbrev mi_X8_clear : Mi := (yX8_clear, cX8_clear, 2, (some .int))
abbrev mi_X8_school : Mi := (yX8_school, cX8_school, 3, (some .int))
abbrev mi_X8_spell : Mi := (yX8_spell, cX8_spell, 3, (some .int))
abbrev mi_X8_thing : Mi := (yX8_thing, cX8_thing, 4, (some .int))
abbrev mi_X8_layer : Mi := (yX8_layer, cX8_layer, 3, (some .int))
abbrev mi_X8_pupil : Mi := (yX8_pupil, cX8_pupil, 2, (some .int))
abbrev mi_X8_lay : Mi := (yX8_lay, cX8_lay, 6, (some .int))
abbrev mi_X8_lift : Mi := (yX8_lift, cX8_lift, 5, (some .int))
abbrev mi_X8_swap : Mi := (yX8_swap, cX8_swap, 5, (some .int))
abbrev mi_X8_copy : Mi := (yX8_copy, cX8_copy, 6, (some .int))
abbrev mi_X8_undo : Mi := (yX8_undo, cX8_undo, 1, (some .int))
abbrev mi_X8_now : Mi := (yX8_now, cX8_now, 2, (some .int))
abbrev mi_X8_cheapest : Mi := (yX8_cheapest, cX8_cheapest, 7, (some .int))
abbrev mi_X8_takes : Mi := (yX8_takes, cX8_takes, 7, (some .int))
abbrev mi_X8_learn : Mi := (yX8_learn, cX8_learn, 4, (some .int))
abbrev mi_X8_saw : Mi := (yX8_saw, cX8_saw, 3, (some .int))
abbrev mi_X8_forget : Mi := (yX8_forget, cX8_forget, 2, (some .int))
abbrev mi_X8_could : Mi := (yX8_could, cX8_could, 1, (some .int))
abbrev mi_X8_under : Mi := (yX8_under, cX8_under, 2, (some .int))
abbrev mi_X8_lifted : Mi := (yX8_lifted, cX8_lifted, 1, (some .int))
abbrev mi_X8_broom : Mi := (yX8_broom, cX8_broom, 8, (some .int))
abbrev mi_X8_odds : Mi := (yX8_odds, cX8_odds, 7, (some .long))
abbrev mi_X8_rate : Mi := (yX8_rate, cX8_rate, 3, (some .int))
abbrev mi_X8_keep : Mi := (yX8_keep, cX8_keep, 2, (some .int))
abbrev mi_X8_back : Mi := (yX8_back, cX8_back, 2, (some .int))
abbrev mi_X8_count : Mi := (yX8_count, cX8_count, 2, (some .int))
abbrev mi_X8_trace : Mi := (yX8_trace, cX8_trace, 1, (some .long))
abbrev mi_X8_isEffectSet : Mi := (yX8_isEffectSet, cX8_isEffectSet, 1, (some .boolean))
abbrev mi_X8_isYesOrNo : Mi := (yX8_isYesOrNo, cX8_isYesOrNo, 1, (some .boolean))
abbrev mi_X8_power : Mi := (yX8_power, cX8_power, 5, (some .long))
abbrev mi_X8_at : Mi := (yX8_at, cX8_at, 2, (some .int))
abbrev mi_X8_put : Mi := (yX8_put, cX8_put, 3, none)
abbrev mi_X9_in : Mi := (yX9_in, cX9_in, 3, (some .boolean))
abbrev mi_X9_ones : Mi := (yX9_ones, cX9_ones, 3, (some .int))
abbrev mi_X9_type : Mi := (yX9_type, cX9_type, 5, (some .int))
abbrev mi_X9_clear : Mi := (yX9_clear, cX9_clear, 2, (some .int))
abbrev mi_X9_byteAt : Mi := (yX9_byteAt, cX9_byteAt, 2, (some .int))
abbrev mi_X9_add : Mi := (yX9_add, cX9_add, 3, (some .long))
abbrev mi_X9_named : Mi := (yX9_named, cX9_named, 5, (some .long))
abbrev mi_X9_wordOf : Mi := (yX9_wordOf, cX9_wordOf, 4, (some .int))
abbrev mi_X9_advances : Mi := (yX9_advances, cX9_advances, 4, none)
abbrev mi_X9_isWell : Mi := (yX9_isWell, cX9_isWell, 1, (some .boolean))
abbrev mi_X9_takes : Mi := (yX9_takes, cX9_takes, 3, (some .int))
abbrev mi_X9_number : Mi := (yX9_number, cX9_number, 3, (some .int))
abbrev mi_X9_mayBegin : Mi := (yX9_mayBegin, cX9_mayBegin, 1, (some .boolean))
abbrev mi_X9_readsItem : Mi := (yX9_readsItem, cX9_readsItem, 4, none)
abbrev mi_X9_school : Mi := (yX9_school, cX9_school, 3, (some .int))
abbrev mi_X9_settles : Mi := (yX9_settles, cX9_settles, 2, none)
abbrev mi_X9_isSpell : Mi := (yX9_isSpell, cX9_isSpell, 2, (some .boolean))
abbrev mi_X9_isThing : Mi := (yX9_isThing, cX9_isThing, 2, (some .boolean))
abbrev mi_X9_isPupil : Mi := (yX9_isPupil, cX9_isPupil, 2, (some .boolean))
abbrev mi_X9_spell : Mi := (yX9_spell, cX9_spell, 3, (some .int))
abbrev mi_X9_layersOf : Mi := (yX9_layersOf, cX9_layersOf, 3, (some .int))
abbrev mi_X9_worksOf : Mi := (yX9_worksOf, cX9_worksOf, 6, (some .int))
abbrev mi_X9_thing : Mi := (yX9_thing, cX9_thing, 4, (some .int))
abbrev mi_X9_spellAt : Mi := (yX9_spellAt, cX9_spellAt, 4, (some .int))
abbrev mi_X9_layer : Mi := (yX9_layer, cX9_layer, 4, (some .int))
abbrev mi_X9_pupil : Mi := (yX9_pupil, cX9_pupil, 2, (some .int))
abbrev mi_X9_may : Mi := (yX9_may, cX9_may, 3, (some .boolean))
abbrev mi_X9_becomes : Mi := (yX9_becomes, cX9_becomes, 5, none)
abbrev mi_X9_lay : Mi := (yX9_lay, cX9_lay, 4, (some .int))
abbrev mi_X9_lift : Mi := (yX9_lift, cX9_lift, 4, (some .int))
abbrev mi_X9_swapped : Mi := (yX9_swapped, cX9_swapped, 1, (some .int))
abbrev mi_X9_swap : Mi := (yX9_swap, cX9_swap, 5, (some .int))
abbrev mi_X9_copy : Mi := (yX9_copy, cX9_copy, 5, (some .int))
abbrev mi_X9_undo : Mi := (yX9_undo, cX9_undo, 2, (some .int))
abbrev mi_X9_now : Mi := (yX9_now, cX9_now, 6, (some .int))
abbrev mi_X9_canSay : Mi := (yX9_canSay, cX9_canSay, 6, (some .boolean))
abbrev mi_X9_said : Mi := (yX9_said, cX9_said, 6, (some .int))
abbrev mi_X9_costOf : Mi := (yX9_costOf, cX9_costOf, 4, (some .int))
abbrev mi_X9_isRow : Mi := (yX9_isRow, cX9_isRow, 4, (some .boolean))
abbrev mi_X9_wayFrom : Mi := (yX9_wayFrom, cX9_wayFrom, 6, (some .int))
abbrev mi_X9_sweeps : Mi := (yX9_sweeps, cX9_sweeps, 6, none)
abbrev mi_X9_cheapest : Mi := (yX9_cheapest, cX9_cheapest, 8, (some .int))
abbrev mi_X9_takes_ : Mi := (yX9_takes_, cX9_takes_, 5, (some .int))
abbrev mi_X9_spellsIn : Mi := (yX9_spellsIn, cX9_spellsIn, 4, (some .int))
abbrev mi_X9_learn : Mi := (yX9_learn, cX9_learn, 7, (some .int))
abbrev mi_X9_saw : Mi := (yX9_saw, cX9_saw, 3, (some .int))
abbrev mi_X9_forget : Mi := (yX9_forget, cX9_forget, 2, (some .int))
abbrev mi_X9_withoutTop : Mi := (yX9_withoutTop, cX9_withoutTop, 4, (some .int))
abbrev mi_X9_isHat : Mi := (yX9_isHat, cX9_isHat, 4, (some .boolean))
abbrev mi_X9_could : Mi := (yX9_could, cX9_could, 3, (some .int))
abbrev mi_X9_under : Mi := (yX9_under, cX9_under, 5, (some .int))
abbrev mi_X9_atWorst : Mi := (yX9_atWorst, cX9_atWorst, 6, (some .int))
abbrev mi_X9_lifted : Mi := (yX9_lifted, cX9_lifted, 4, (some .int))
abbrev mi_X9_folds : Mi := (yX9_folds, cX9_folds, 3, none)
abbrev mi_X9_played : Mi := (yX9_played, cX9_played, 12, (some .int))
abbrev mi_X9_broom : Mi := (yX9_broom, cX9_broom, 8, (some .int))
abbrev mi_X9_gcd : Mi := (yX9_gcd, cX9_gcd, 10, (some .long))
abbrev mi_X9_odds : Mi := (yX9_odds, cX9_odds, 10, (some .long))
abbrev mi_X9_rate : Mi := (yX9_rate, cX9_rate, 10, (some .int))
abbrev mi_X9_keep : Mi := (yX9_keep, cX9_keep, 3, (some .int))
abbrev mi_X9_back : Mi := (yX9_back, cX9_back, 3, (some .int))
abbrev mi_X9_count : Mi := (yX9_count, cX9_count, 2, (some .int))
abbrev mi_X9_trace : Mi := (yX9_trace, cX9_trace, 1, (some .long))
abbrev mi_J6_bitCount_0f7a4 : Mi := (yJ6_bitCount_0f7a4, cJ6_bitCount_0f7a4, 1, (some .int))
abbrev mi_J0_length_8abf5 : Mi := (yJ0_length_8abf5, cJ0_length_8abf5, 1, (some .int))
abbrev mi_J0_charAt_5068e : Mi := (yJ0_charAt_5068e, cJ0_charAt_5068e, 2, (some .char))
abbrev mi_J0_coder_7d493 : Mi := (yJ0_coder_7d493, cJ0_coder_7d493, 1, (some .byte))
abbrev mi_J0_isLatin1_aae02 : Mi := (yJ0_isLatin1_aae02, cJ0_isLatin1_aae02, 1, (some .boolean))
abbrev mi_J0_checkIndex_df160 : Mi := (yJ0_checkIndex_df160, cJ0_checkIndex_df160, 2, none)
abbrev mi_J1_charAt_3b067 : Mi := (yJ1_charAt_3b067, cJ1_charAt_3b067, 2, (some .char))
abbrev mi_J7_fill_53178 : Mi := (yJ7_fill_53178, cJ7_fill_53178, 4, none)
abbrev mi_J3_checkIndex_8e157 : Mi := (yJ3_checkIndex_8e157, cJ3_checkIndex_8e157, 3, (some .int))
def MIS : List Mi := [mi_X0_isWon, mi_X0_firstWord, mi_X1_seen, mi_X1_seeNothing, mi_X1_see, mi_X1_possible, mi_X1_spellAt, mi_X1_bestToLift, mi_X1_mostLeft, mi_X1_canBe, mi_X1_answerOf, mi_X2_traced, mi_X2_rating, mi_X2_asSpell, mi_X2_asCharm, mi_X2_asCurse, mi_X2_asFlame, mi_X2_asFrost, mi_X2_asWax, mi_X3_length, mi_X3_empty, mi_X3_hasRoomFor, mi_X3_add, mi_X3_read, mi_X3_accepts, mi_X3_opensItem, mi_X3_hasPlaceForItem, mi_X3_addsNumber, mi_X3_canBeNext, mi_X3_closesItem, mi_X3_tell, mi_X3_gatheredRow, mi_X3_readToken, mi_X3_readDigits, mi_X3_readLetters, mi_X3_isWord, mi_X3_isDigit, mi_X3_isLetter, mi_X4_isFull, mi_X4_with, mi_X4_top, mi_X4_below, mi_X4_without, mi_X4_fromAbove, mi_X4_swapped, mi_X4_depth, mi_X5_beNew, mi_X5_addSpell, mi_X5_addThing, mi_X5_addPupil, mi_X5_setSwapCost, mi_X5_setCopyCost, mi_X5_setHumDepth, mi_X5_spells, mi_X5_things, mi_X5_pupils, mi_X5_costOfSwap, mi_X5_costOfCopy, mi_X5_humsFrom, mi_X5_isSpell, mi_X5_isThing, mi_X5_isPupil, mi_X5_isPupilSet, mi_X5_effectOf, mi_X5_isGlass, mi_X5_layCost, mi_X5_liftCost, mi_X5_firstRow, mi_X5_spellsOfPupil, mi_X5_spellsOfSet, mi_X5_sayersOf, mi_X5_maySay, mi_X5_mayOneSay, mi_X5_isHumming, mi_X5_knows, mi_X5_worksOf, mi_X5_after, mi_X5_costOf, mi_X5_hasWay, mi_X5_fewestFor, mi_X5_worksOnBase, mi_X6_costOf, mi_X6_firstOf, mi_X6_nearest, mi_X6_goOnFrom, mi_X6_offer, mi_X6_takeLeast, mi_X6_rise, mi_X6_sink, mi_X6_labelAt, mi_X6_sit, mi_X7_startAs, mi_X7_rowOf, mi_X7_spent, mi_X7_known, mi_X7_change, mi_X7_takeBack, mi_X7_humming, mi_X7_layers, mi_X7_layersWith, mi_X7_keepImage, mi_X7_becomeImage, mi_X8_type, mi_X8_clear, mi_X8_school, mi_X8_spell, mi_X8_thing, mi_X8_layer, mi_X8_pupil, mi_X8_lay, mi_X8_lift, mi_X8_swap, mi_X8_copy, mi_X8_undo, mi_X8_now, mi_X8_cheapest, mi_X8_takes, mi_X8_learn, mi_X8_saw, mi_X8_forget, mi_X8_could, mi_X8_under, mi_X8_lifted, mi_X8_broom, mi_X8_odds, mi_X8_rate, mi_X8_keep, mi_X8_back, mi_X8_count, mi_X8_trace, mi_X8_isEffectSet, mi_X8_isYesOrNo, mi_X8_power, mi_X8_at, mi_X8_put, mi_X9_in, mi_X9_ones, mi_X9_type, mi_X9_clear, mi_X9_byteAt, mi_X9_add, mi_X9_named, mi_X9_wordOf, mi_X9_advances, mi_X9_isWell, mi_X9_takes, mi_X9_number, mi_X9_mayBegin, mi_X9_readsItem, mi_X9_school, mi_X9_settles, mi_X9_isSpell, mi_X9_isThing, mi_X9_isPupil, mi_X9_spell, mi_X9_layersOf, mi_X9_worksOf, mi_X9_thing, mi_X9_spellAt, mi_X9_layer, mi_X9_pupil, mi_X9_may, mi_X9_becomes, mi_X9_lay, mi_X9_lift, mi_X9_swapped, mi_X9_swap, mi_X9_copy, mi_X9_undo, mi_X9_now, mi_X9_canSay, mi_X9_said, mi_X9_costOf, mi_X9_isRow, mi_X9_wayFrom, mi_X9_sweeps, mi_X9_cheapest, mi_X9_takes_, mi_X9_spellsIn, mi_X9_learn, mi_X9_saw, mi_X9_forget, mi_X9_withoutTop, mi_X9_isHat, mi_X9_could, mi_X9_under, mi_X9_atWorst, mi_X9_lifted, mi_X9_folds, mi_X9_played, mi_X9_broom, mi_X9_gcd, mi_X9_odds, mi_X9_rate, mi_X9_keep, mi_X9_back, mi_X9_count, mi_X9_trace, mi_J6_bitCount_0f7a4, mi_J0_length_8abf5, mi_J0_charAt_5068e, mi_J0_coder_7d493, mi_J0_isLatin1_aae02, mi_J0_checkIndex_df160, mi_J1_charAt_3b067, mi_J7_fill_53178, mi_J3_checkIndex_8e157]
theorem inW_0 : ∀ w ∈ u_ws RX1 TX1 4, w ∈ GW := by
  intro w hw
  obtain ⟨k, hk, rfl⟩ := List.mem_map.mp hw
  have hk2 := List.mem_range.mp hk
  rcases (by omega : k = 0 ∨ k = 1 ∨ k = 2 ∨ k = 3) with rfl | rfl | rfl | rfl
  · exact w_133
  · exact w_135
  · exact w_137
  · exact w_139
theorem inW_1 : ∀ w ∈ u_ws RX2 TX2 1, w ∈ GW := by
  intro w hw
  obtain ⟨k, hk, rfl⟩ := List.mem_map.mp hw
  have hk2 := List.mem_range.mp hk
  rcases (by omega : k = 0) with rfl
  · exact w_149
theorem inW_2 : ∀ w ∈ u_ws RX3 TX3 11, w ∈ GW := by
  intro w hw
  obtain ⟨k, hk, rfl⟩ := List.mem_map.mp hw
  have hk2 := List.mem_range.mp hk
  rcases (by omega : k = 0 ∨ k = 1 ∨ k = 2 ∨ k = 3 ∨ k = 4 ∨ k = 5 ∨ k = 6 ∨ k = 7 ∨ k = 8 ∨ k = 9 ∨ k = 10) with rfl | rfl | rfl | rfl | rfl | rfl | rfl | rfl | rfl | rfl | rfl
  · exact w_43
  · exact w_45
  · exact w_47
  · exact w_49
  · exact w_51
  · exact w_53
  · exact w_55
  · exact w_57
  · exact w_59
  · exact w_61
  · exact w_63
theorem inW_3 : ∀ w ∈ u_ws RX5 TX5 12, w ∈ GW := by
  intro w hw
  obtain ⟨k, hk, rfl⟩ := List.mem_map.mp hw
  have hk2 := List.mem_range.mp hk
  rcases (by omega : k = 0 ∨ k = 1 ∨ k = 2 ∨ k = 3 ∨ k = 4 ∨ k = 5 ∨ k = 6 ∨ k = 7 ∨ k = 8 ∨ k = 9 ∨ k = 10 ∨ k = 11) with rfl | rfl | rfl | rfl | rfl | rfl | rfl | rfl | rfl | rfl | rfl | rfl
  · exact w_170
  · exact w_172
  · exact w_174
  · exact w_176
  · exact w_178
  · exact w_180
  · exact w_182
  · exact w_184
  · exact w_186
  · exact w_188
  · exact w_190
  · exact w_192
theorem inW_4 : ∀ w ∈ u_ws RX6 TX6 4, w ∈ GW := by
  intro w hw
  obtain ⟨k, hk, rfl⟩ := List.mem_map.mp hw
  have hk2 := List.mem_range.mp hk
  rcases (by omega : k = 0 ∨ k = 1 ∨ k = 2 ∨ k = 3) with rfl | rfl | rfl | rfl
  · exact w_114
  · exact w_116
  · exact w_118
  · exact w_120
theorem inW_5 : ∀ w ∈ u_ws RX7 TX7 10, w ∈ GW := by
  intro w hw
  obtain ⟨k, hk, rfl⟩ := List.mem_map.mp hw
  have hk2 := List.mem_range.mp hk
  rcases (by omega : k = 0 ∨ k = 1 ∨ k = 2 ∨ k = 3 ∨ k = 4 ∨ k = 5 ∨ k = 6 ∨ k = 7 ∨ k = 8 ∨ k = 9) with rfl | rfl | rfl | rfl | rfl | rfl | rfl | rfl | rfl | rfl
  · exact w_83
  · exact w_85
  · exact w_87
  · exact w_89
  · exact w_91
  · exact w_93
  · exact w_95
  · exact w_97
  · exact w_99
  · exact w_101
theorem inW_6 : ∀ w ∈ u_ws RX8 TX8 7, w ∈ GW := by
  intro w hw
  obtain ⟨k, hk, rfl⟩ := List.mem_map.mp hw
  have hk2 := List.mem_range.mp hk
  rcases (by omega : k = 0 ∨ k = 1 ∨ k = 2 ∨ k = 3 ∨ k = 4 ∨ k = 5 ∨ k = 6) with rfl | rfl | rfl | rfl | rfl | rfl | rfl
  · exact w_202
  · exact w_204
  · exact w_206
  · exact w_208
  · exact w_210
  · exact w_212
  · exact w_214
theorem inW_7 : ∀ w ∈ u_ws RX9 TX9 35, w ∈ GW := by
  intro w hw
  obtain ⟨k, hk, rfl⟩ := List.mem_map.mp hw
  have hk2 := List.mem_range.mp hk
  rcases (by omega : k = 0 ∨ k = 1 ∨ k = 2 ∨ k = 3 ∨ k = 4 ∨ k = 5 ∨ k = 6 ∨ k = 7 ∨ k = 8 ∨ k = 9 ∨ k = 10 ∨ k = 11 ∨ k = 12 ∨ k = 13 ∨ k = 14 ∨ k = 15 ∨ k = 16 ∨ k = 17 ∨ k = 18 ∨ k = 19 ∨ k = 20 ∨ k = 21 ∨ k = 22 ∨ k = 23 ∨ k = 24 ∨ k = 25 ∨ k = 26 ∨ k = 27 ∨ k = 28 ∨ k = 29 ∨ k = 30 ∨ k = 31 ∨ k = 32 ∨ k = 33 ∨ k = 34) with rfl | rfl | rfl | rfl | rfl | rfl | rfl | rfl | rfl | rfl | rfl | rfl | rfl | rfl | rfl | rfl | rfl | rfl | rfl | rfl | rfl | rfl | rfl | rfl | rfl | rfl | rfl | rfl | rfl | rfl | rfl | rfl | rfl | rfl | rfl
  · exact w_908
  · exact w_910
  · exact w_912
  · exact w_914
  · exact w_916
  · exact w_918
  · exact w_920
  · exact w_922
  · exact w_924
  · exact w_926
  · exact w_928
  · exact w_930
  · exact w_932
  · exact w_934
  · exact w_936
  · exact w_938
  · exact w_940
  · exact w_942
  · exact w_944
  · exact w_946
  · exact w_948
  · exact w_950
  · exact w_952
  · exact w_954
  · exact w_956
  · exact w_958
  · exact w_960
  · exact w_962
  · exact w_964
  · exact w_966
  · exact w_968
  · exact w_970
  · exact w_972
  · exact w_974
  · exact w_976
theorem fg_RX1_11 : FldOk RX1 11 0 0 := ⟨RX1, TX1, 4, rfl, by decide, rfl, inW_0, w_129⟩
theorem fg_RX1_15 : FldOk RX1 15 0 1 := ⟨RX1, TX1, 4, rfl, by decide, rfl, inW_0, w_130⟩
theorem fg_RX1_18 : FldOk RX1 18 0 3 := ⟨RX1, TX1, 4, rfl, by decide, rfl, inW_0, w_132⟩
theorem fg_RX1_21 : FldOk RX1 21 0 2 := ⟨RX1, TX1, 4, rfl, by decide, rfl, inW_0, w_131⟩
theorem fg_RX2_7 : FldOk RX2 7 1 0 := ⟨RX2, TX2, 1, rfl, by decide, rfl, inW_1, w_148⟩
theorem fg_RX3_11 : FldOk RX3 11 2 0 := ⟨RX3, TX3, 11, rfl, by decide, rfl, inW_2, w_32⟩
theorem fg_RX3_15 : FldOk RX3 15 2 7 := ⟨RX3, TX3, 11, rfl, by decide, rfl, inW_2, w_39⟩
theorem fg_RX3_18 : FldOk RX3 18 2 1 := ⟨RX3, TX3, 11, rfl, by decide, rfl, inW_2, w_33⟩
theorem fg_RX3_31 : FldOk RX3 31 2 2 := ⟨RX3, TX3, 11, rfl, by decide, rfl, inW_2, w_34⟩
theorem fg_RX3_34 : FldOk RX3 34 2 6 := ⟨RX3, TX3, 11, rfl, by decide, rfl, inW_2, w_38⟩
theorem fg_RX3_37 : FldOk RX3 37 2 9 := ⟨RX3, TX3, 11, rfl, by decide, rfl, inW_2, w_41⟩
theorem fg_RX3_40 : FldOk RX3 40 2 10 := ⟨RX3, TX3, 11, rfl, by decide, rfl, inW_2, w_42⟩
theorem fg_RX3_46 : FldOk RX3 46 2 3 := ⟨RX3, TX3, 11, rfl, by decide, rfl, inW_2, w_35⟩
theorem fg_RX3_53 : FldOk RX3 53 2 4 := ⟨RX3, TX3, 11, rfl, by decide, rfl, inW_2, w_36⟩
theorem fg_RX3_68 : FldOk RX3 68 2 8 := ⟨RX3, TX3, 11, rfl, by decide, rfl, inW_2, w_40⟩
theorem fg_RX3_84 : FldOk RX3 84 2 5 := ⟨RX3, TX3, 11, rfl, by decide, rfl, inW_2, w_37⟩
theorem fg_RX5_15 : FldOk RX5 15 3 1 := ⟨RX5, TX5, 12, rfl, by decide, rfl, inW_3, w_159⟩
theorem fg_RX5_18 : FldOk RX5 18 3 2 := ⟨RX5, TX5, 12, rfl, by decide, rfl, inW_3, w_160⟩
theorem fg_RX5_21 : FldOk RX5 21 3 3 := ⟨RX5, TX5, 12, rfl, by decide, rfl, inW_3, w_161⟩
theorem fg_RX5_24 : FldOk RX5 24 3 4 := ⟨RX5, TX5, 12, rfl, by decide, rfl, inW_3, w_162⟩
theorem fg_RX5_27 : FldOk RX5 27 3 5 := ⟨RX5, TX5, 12, rfl, by decide, rfl, inW_3, w_163⟩
theorem fg_RX5_30 : FldOk RX5 30 3 9 := ⟨RX5, TX5, 12, rfl, by decide, rfl, inW_3, w_167⟩
theorem fg_RX5_34 : FldOk RX5 34 3 10 := ⟨RX5, TX5, 12, rfl, by decide, rfl, inW_3, w_168⟩
theorem fg_RX5_37 : FldOk RX5 37 3 11 := ⟨RX5, TX5, 12, rfl, by decide, rfl, inW_3, w_169⟩
theorem fg_RX5_40 : FldOk RX5 40 3 6 := ⟨RX5, TX5, 12, rfl, by decide, rfl, inW_3, w_164⟩
theorem fg_RX5_43 : FldOk RX5 43 3 7 := ⟨RX5, TX5, 12, rfl, by decide, rfl, inW_3, w_165⟩
theorem fg_RX5_46 : FldOk RX5 46 3 8 := ⟨RX5, TX5, 12, rfl, by decide, rfl, inW_3, w_166⟩
theorem fg_RX5_9 : FldOk RX5 9 3 0 := ⟨RX5, TX5, 12, rfl, by decide, rfl, inW_3, w_158⟩
theorem fg_RX6_11 : FldOk RX6 11 4 0 := ⟨RX6, TX6, 4, rfl, by decide, rfl, inW_4, w_110⟩
theorem fg_RX6_17 : FldOk RX6 17 4 1 := ⟨RX6, TX6, 4, rfl, by decide, rfl, inW_4, w_111⟩
theorem fg_RX6_20 : FldOk RX6 20 4 2 := ⟨RX6, TX6, 4, rfl, by decide, rfl, inW_4, w_112⟩
theorem fg_RX6_31 : FldOk RX6 31 4 3 := ⟨RX6, TX6, 4, rfl, by decide, rfl, inW_4, w_113⟩
theorem fg_RX7_15 : FldOk RX7 15 5 2 := ⟨RX7, TX7, 10, rfl, by decide, rfl, inW_5, w_75⟩
theorem fg_RX7_18 : FldOk RX7 18 5 3 := ⟨RX7, TX7, 10, rfl, by decide, rfl, inW_5, w_76⟩
theorem fg_RX7_21 : FldOk RX7 21 5 4 := ⟨RX7, TX7, 10, rfl, by decide, rfl, inW_5, w_77⟩
theorem fg_RX7_24 : FldOk RX7 24 5 7 := ⟨RX7, TX7, 10, rfl, by decide, rfl, inW_5, w_80⟩
theorem fg_RX7_27 : FldOk RX7 27 5 8 := ⟨RX7, TX7, 10, rfl, by decide, rfl, inW_5, w_81⟩
theorem fg_RX7_40 : FldOk RX7 40 5 1 := ⟨RX7, TX7, 10, rfl, by decide, rfl, inW_5, w_74⟩
theorem fg_RX7_44 : FldOk RX7 44 5 5 := ⟨RX7, TX7, 10, rfl, by decide, rfl, inW_5, w_78⟩
theorem fg_RX7_47 : FldOk RX7 47 5 9 := ⟨RX7, TX7, 10, rfl, by decide, rfl, inW_5, w_82⟩
theorem fg_RX7_54 : FldOk RX7 54 5 6 := ⟨RX7, TX7, 10, rfl, by decide, rfl, inW_5, w_79⟩
theorem fg_RX7_9 : FldOk RX7 9 5 0 := ⟨RX7, TX7, 10, rfl, by decide, rfl, inW_5, w_73⟩
theorem fg_RX8_10 : FldOk RX8 10 6 0 := ⟨RX8, TX8, 7, rfl, by decide, rfl, inW_6, w_195⟩
theorem fg_RX8_19 : FldOk RX8 19 6 1 := ⟨RX8, TX8, 7, rfl, by decide, rfl, inW_6, w_196⟩
theorem fg_RX8_26 : FldOk RX8 26 6 2 := ⟨RX8, TX8, 7, rfl, by decide, rfl, inW_6, w_197⟩
theorem fg_RX8_33 : FldOk RX8 33 6 3 := ⟨RX8, TX8, 7, rfl, by decide, rfl, inW_6, w_198⟩
theorem fg_RX8_40 : FldOk RX8 40 6 4 := ⟨RX8, TX8, 7, rfl, by decide, rfl, inW_6, w_199⟩
theorem fg_RX8_47 : FldOk RX8 47 6 5 := ⟨RX8, TX8, 7, rfl, by decide, rfl, inW_6, w_200⟩
theorem fg_RX8_51 : FldOk RX8 51 6 6 := ⟨RX8, TX8, 7, rfl, by decide, rfl, inW_6, w_201⟩
theorem fg_RX9_101 : FldOk RX9 101 7 5 := ⟨RX9, TX9, 35, rfl, by decide, rfl, inW_7, w_878⟩
theorem fg_RX9_108 : FldOk RX9 108 7 7 := ⟨RX9, TX9, 35, rfl, by decide, rfl, inW_7, w_880⟩
theorem fg_RX9_111 : FldOk RX9 111 7 8 := ⟨RX9, TX9, 35, rfl, by decide, rfl, inW_7, w_881⟩
theorem fg_RX9_125 : FldOk RX9 125 7 16 := ⟨RX9, TX9, 35, rfl, by decide, rfl, inW_7, w_889⟩
theorem fg_RX9_128 : FldOk RX9 128 7 17 := ⟨RX9, TX9, 35, rfl, by decide, rfl, inW_7, w_890⟩
theorem fg_RX9_13 : FldOk RX9 13 7 9 := ⟨RX9, TX9, 35, rfl, by decide, rfl, inW_7, w_882⟩
theorem fg_RX9_131 : FldOk RX9 131 7 18 := ⟨RX9, TX9, 35, rfl, by decide, rfl, inW_7, w_891⟩
theorem fg_RX9_148 : FldOk RX9 148 7 13 := ⟨RX9, TX9, 35, rfl, by decide, rfl, inW_7, w_886⟩
theorem fg_RX9_151 : FldOk RX9 151 7 14 := ⟨RX9, TX9, 35, rfl, by decide, rfl, inW_7, w_887⟩
theorem fg_RX9_154 : FldOk RX9 154 7 15 := ⟨RX9, TX9, 35, rfl, by decide, rfl, inW_7, w_888⟩
theorem fg_RX9_157 : FldOk RX9 157 7 23 := ⟨RX9, TX9, 35, rfl, by decide, rfl, inW_7, w_896⟩
theorem fg_RX9_16 : FldOk RX9 16 7 10 := ⟨RX9, TX9, 35, rfl, by decide, rfl, inW_7, w_883⟩
theorem fg_RX9_160 : FldOk RX9 160 7 26 := ⟨RX9, TX9, 35, rfl, by decide, rfl, inW_7, w_899⟩
theorem fg_RX9_19 : FldOk RX9 19 7 11 := ⟨RX9, TX9, 35, rfl, by decide, rfl, inW_7, w_884⟩
theorem fg_RX9_22 : FldOk RX9 22 7 12 := ⟨RX9, TX9, 35, rfl, by decide, rfl, inW_7, w_885⟩
theorem fg_RX9_245 : FldOk RX9 245 7 1 := ⟨RX9, TX9, 35, rfl, by decide, rfl, inW_7, w_874⟩
theorem fg_RX9_25 : FldOk RX9 25 7 19 := ⟨RX9, TX9, 35, rfl, by decide, rfl, inW_7, w_892⟩
theorem fg_RX9_28 : FldOk RX9 28 7 20 := ⟨RX9, TX9, 35, rfl, by decide, rfl, inW_7, w_893⟩
theorem fg_RX9_31 : FldOk RX9 31 7 21 := ⟨RX9, TX9, 35, rfl, by decide, rfl, inW_7, w_894⟩
theorem fg_RX9_35 : FldOk RX9 35 7 22 := ⟨RX9, TX9, 35, rfl, by decide, rfl, inW_7, w_895⟩
theorem fg_RX9_38 : FldOk RX9 38 7 24 := ⟨RX9, TX9, 35, rfl, by decide, rfl, inW_7, w_897⟩
theorem fg_RX9_41 : FldOk RX9 41 7 25 := ⟨RX9, TX9, 35, rfl, by decide, rfl, inW_7, w_898⟩
theorem fg_RX9_44 : FldOk RX9 44 7 27 := ⟨RX9, TX9, 35, rfl, by decide, rfl, inW_7, w_900⟩
theorem fg_RX9_47 : FldOk RX9 47 7 28 := ⟨RX9, TX9, 35, rfl, by decide, rfl, inW_7, w_901⟩
theorem fg_RX9_50 : FldOk RX9 50 7 29 := ⟨RX9, TX9, 35, rfl, by decide, rfl, inW_7, w_902⟩
theorem fg_RX9_53 : FldOk RX9 53 7 30 := ⟨RX9, TX9, 35, rfl, by decide, rfl, inW_7, w_903⟩
theorem fg_RX9_57 : FldOk RX9 57 7 31 := ⟨RX9, TX9, 35, rfl, by decide, rfl, inW_7, w_904⟩
theorem fg_RX9_60 : FldOk RX9 60 7 32 := ⟨RX9, TX9, 35, rfl, by decide, rfl, inW_7, w_905⟩
theorem fg_RX9_63 : FldOk RX9 63 7 33 := ⟨RX9, TX9, 35, rfl, by decide, rfl, inW_7, w_906⟩
theorem fg_RX9_66 : FldOk RX9 66 7 34 := ⟨RX9, TX9, 35, rfl, by decide, rfl, inW_7, w_907⟩
theorem fg_RX9_7 : FldOk RX9 7 7 2 := ⟨RX9, TX9, 35, rfl, by decide, rfl, inW_7, w_875⟩
theorem fg_RX9_76 : FldOk RX9 76 7 3 := ⟨RX9, TX9, 35, rfl, by decide, rfl, inW_7, w_876⟩
theorem fg_RX9_91 : FldOk RX9 91 7 4 := ⟨RX9, TX9, 35, rfl, by decide, rfl, inW_7, w_877⟩
theorem fg_RX9_98 : FldOk RX9 98 7 6 := ⟨RX9, TX9, 35, rfl, by decide, rfl, inW_7, w_879⟩
theorem fp_RX1_21 : PutOk RX1 21 0 2 .int := ⟨RX1, TX1, 4, rfl, by decide, rfl, inW_0, w_131, ⟨tyX1, tyX1_ok⟩, nmX1, rfl, by decide +kernel⟩
theorem fp_RX2_7 : PutOk RX2 7 1 0 .long := ⟨RX2, TX2, 1, rfl, by decide, rfl, inW_1, w_148, ⟨tyX2, tyX2_ok⟩, nmX2, rfl, by decide +kernel⟩
theorem fp_RX3_18 : PutOk RX3 18 2 1 .int := ⟨RX3, TX3, 11, rfl, by decide, rfl, inW_2, w_33, ⟨tyX3, tyX3_ok⟩, nmX3, rfl, by decide +kernel⟩
theorem fp_RX3_31 : PutOk RX3 31 2 2 .int := ⟨RX3, TX3, 11, rfl, by decide, rfl, inW_2, w_34, ⟨tyX3, tyX3_ok⟩, nmX3, rfl, by decide +kernel⟩
theorem fp_RX3_34 : PutOk RX3 34 2 6 .int := ⟨RX3, TX3, 11, rfl, by decide, rfl, inW_2, w_38, ⟨tyX3, tyX3_ok⟩, nmX3, rfl, by decide +kernel⟩
theorem fp_RX3_37 : PutOk RX3 37 2 9 .int := ⟨RX3, TX3, 11, rfl, by decide, rfl, inW_2, w_41, ⟨tyX3, tyX3_ok⟩, nmX3, rfl, by decide +kernel⟩
theorem fp_RX3_40 : PutOk RX3 40 2 10 .int := ⟨RX3, TX3, 11, rfl, by decide, rfl, inW_2, w_42, ⟨tyX3, tyX3_ok⟩, nmX3, rfl, by decide +kernel⟩
theorem fp_RX3_46 : PutOk RX3 46 2 3 .int := ⟨RX3, TX3, 11, rfl, by decide, rfl, inW_2, w_35, ⟨tyX3, tyX3_ok⟩, nmX3, rfl, by decide +kernel⟩
theorem fp_RX3_53 : PutOk RX3 53 2 4 .int := ⟨RX3, TX3, 11, rfl, by decide, rfl, inW_2, w_36, ⟨tyX3, tyX3_ok⟩, nmX3, rfl, by decide +kernel⟩
theorem fp_RX3_68 : PutOk RX3 68 2 8 .int := ⟨RX3, TX3, 11, rfl, by decide, rfl, inW_2, w_40, ⟨tyX3, tyX3_ok⟩, nmX3, rfl, by decide +kernel⟩
theorem fp_RX3_84 : PutOk RX3 84 2 5 .int := ⟨RX3, TX3, 11, rfl, by decide, rfl, inW_2, w_37, ⟨tyX3, tyX3_ok⟩, nmX3, rfl, by decide +kernel⟩
theorem fp_RX5_30 : PutOk RX5 30 3 9 .int := ⟨RX5, TX5, 12, rfl, by decide, rfl, inW_3, w_167, ⟨tyX5, tyX5_ok⟩, nmX5, rfl, by decide +kernel⟩
theorem fp_RX5_34 : PutOk RX5 34 3 10 .int := ⟨RX5, TX5, 12, rfl, by decide, rfl, inW_3, w_168, ⟨tyX5, tyX5_ok⟩, nmX5, rfl, by decide +kernel⟩
theorem fp_RX5_37 : PutOk RX5 37 3 11 .int := ⟨RX5, TX5, 12, rfl, by decide, rfl, inW_3, w_169, ⟨tyX5, tyX5_ok⟩, nmX5, rfl, by decide +kernel⟩
theorem fp_RX5_40 : PutOk RX5 40 3 6 .int := ⟨RX5, TX5, 12, rfl, by decide, rfl, inW_3, w_164, ⟨tyX5, tyX5_ok⟩, nmX5, rfl, by decide +kernel⟩
theorem fp_RX5_43 : PutOk RX5 43 3 7 .int := ⟨RX5, TX5, 12, rfl, by decide, rfl, inW_3, w_165, ⟨tyX5, tyX5_ok⟩, nmX5, rfl, by decide +kernel⟩
theorem fp_RX5_46 : PutOk RX5 46 3 8 .int := ⟨RX5, TX5, 12, rfl, by decide, rfl, inW_3, w_166, ⟨tyX5, tyX5_ok⟩, nmX5, rfl, by decide +kernel⟩
theorem fp_RX6_31 : PutOk RX6 31 4 3 .int := ⟨RX6, TX6, 4, rfl, by decide, rfl, inW_4, w_113, ⟨tyX6, tyX6_ok⟩, nmX6, rfl, by decide +kernel⟩
theorem fp_RX7_40 : PutOk RX7 40 5 1 .int := ⟨RX7, TX7, 10, rfl, by decide, rfl, inW_5, w_74, ⟨tyX7, tyX7_ok⟩, nmX7, rfl, by decide +kernel⟩
theorem fp_RX7_44 : PutOk RX7 44 5 5 .int := ⟨RX7, TX7, 10, rfl, by decide, rfl, inW_5, w_78, ⟨tyX7, tyX7_ok⟩, nmX7, rfl, by decide +kernel⟩
theorem fp_RX7_47 : PutOk RX7 47 5 9 .int := ⟨RX7, TX7, 10, rfl, by decide, rfl, inW_5, w_82, ⟨tyX7, tyX7_ok⟩, nmX7, rfl, by decide +kernel⟩
theorem fp_RX7_54 : PutOk RX7 54 5 6 .int := ⟨RX7, TX7, 10, rfl, by decide, rfl, inW_5, w_79, ⟨tyX7, tyX7_ok⟩, nmX7, rfl, by decide +kernel⟩
theorem fp_RX8_47 : PutOk RX8 47 6 5 (.object "SpellLayers$School") := ⟨RX8, TX8, 7, rfl, by decide, rfl, inW_6, w_200, ⟨tyX8, tyX8_ok⟩, nmX8, rfl, by decide +kernel⟩
theorem fp_RX8_51 : PutOk RX8 51 6 6 (.object "SpellLayers$School") := ⟨RX8, TX8, 7, rfl, by decide, rfl, inW_6, w_201, ⟨tyX8, tyX8_ok⟩, nmX8, rfl, by decide +kernel⟩
theorem fp_RX9_101 : PutOk RX9 101 7 5 .int := ⟨RX9, TX9, 35, rfl, by decide, rfl, inW_7, w_878, ⟨tyX9, tyX9_ok⟩, nmX9, rfl, by decide +kernel⟩
theorem fp_RX9_108 : PutOk RX9 108 7 7 .int := ⟨RX9, TX9, 35, rfl, by decide, rfl, inW_7, w_880, ⟨tyX9, tyX9_ok⟩, nmX9, rfl, by decide +kernel⟩
theorem fp_RX9_111 : PutOk RX9 111 7 8 .int := ⟨RX9, TX9, 35, rfl, by decide, rfl, inW_7, w_881, ⟨tyX9, tyX9_ok⟩, nmX9, rfl, by decide +kernel⟩
theorem fp_RX9_125 : PutOk RX9 125 7 16 .int := ⟨RX9, TX9, 35, rfl, by decide, rfl, inW_7, w_889, ⟨tyX9, tyX9_ok⟩, nmX9, rfl, by decide +kernel⟩
theorem fp_RX9_128 : PutOk RX9 128 7 17 .int := ⟨RX9, TX9, 35, rfl, by decide, rfl, inW_7, w_890, ⟨tyX9, tyX9_ok⟩, nmX9, rfl, by decide +kernel⟩
theorem fp_RX9_131 : PutOk RX9 131 7 18 .int := ⟨RX9, TX9, 35, rfl, by decide, rfl, inW_7, w_891, ⟨tyX9, tyX9_ok⟩, nmX9, rfl, by decide +kernel⟩
theorem fp_RX9_148 : PutOk RX9 148 7 13 .int := ⟨RX9, TX9, 35, rfl, by decide, rfl, inW_7, w_886, ⟨tyX9, tyX9_ok⟩, nmX9, rfl, by decide +kernel⟩
theorem fp_RX9_151 : PutOk RX9 151 7 14 .int := ⟨RX9, TX9, 35, rfl, by decide, rfl, inW_7, w_887, ⟨tyX9, tyX9_ok⟩, nmX9, rfl, by decide +kernel⟩
theorem fp_RX9_154 : PutOk RX9 154 7 15 .int := ⟨RX9, TX9, 35, rfl, by decide, rfl, inW_7, w_888, ⟨tyX9, tyX9_ok⟩, nmX9, rfl, by decide +kernel⟩
theorem fp_RX9_157 : PutOk RX9 157 7 23 .int := ⟨RX9, TX9, 35, rfl, by decide, rfl, inW_7, w_896, ⟨tyX9, tyX9_ok⟩, nmX9, rfl, by decide +kernel⟩
theorem fp_RX9_160 : PutOk RX9 160 7 26 .int := ⟨RX9, TX9, 35, rfl, by decide, rfl, inW_7, w_899, ⟨tyX9, tyX9_ok⟩, nmX9, rfl, by decide +kernel⟩
theorem fp_RX9_245 : PutOk RX9 245 7 1 .long := ⟨RX9, TX9, 35, rfl, by decide, rfl, inW_7, w_874, ⟨tyX9, tyX9_ok⟩, nmX9, rfl, by decide +kernel⟩
theorem fp_RX9_53 : PutOk RX9 53 7 30 .int := ⟨RX9, TX9, 35, rfl, by decide, rfl, inW_7, w_903, ⟨tyX9, tyX9_ok⟩, nmX9, rfl, by decide +kernel⟩
theorem fp_RX9_69 : PutOk RX9 69 7 0 .int := ⟨RX9, TX9, 35, rfl, by decide, rfl, inW_7, w_873, ⟨tyX9, tyX9_ok⟩, nmX9, rfl, by decide +kernel⟩
theorem fp_RX9_76 : PutOk RX9 76 7 3 .int := ⟨RX9, TX9, 35, rfl, by decide, rfl, inW_7, w_876, ⟨tyX9, tyX9_ok⟩, nmX9, rfl, by decide +kernel⟩
theorem fp_RX9_91 : PutOk RX9 91 7 4 .int := ⟨RX9, TX9, 35, rfl, by decide, rfl, inW_7, w_877, ⟨tyX9, tyX9_ok⟩, nmX9, rfl, by decide +kernel⟩
theorem fp_RX9_98 : PutOk RX9 98 7 6 .int := ⟨RX9, TX9, 35, rfl, by decide, rfl, inW_7, w_879, ⟨tyX9, tyX9_ok⟩, nmX9, rfl, by decide +kernel⟩
theorem ca_RJ0_1059 : CalS RJ0 1059 mi_J3_checkIndex_8e157 3 := ⟨w_314, w_315, w_13, w_316, ⟨by decide +kernel, by decide +kernel, by decide +kernel⟩, by decide⟩
theorem ca_RJ0_335 : CalV RJ0 335 mi_J0_coder_7d493 0 "java/lang/String" := ⟨w_292, w_293, w_294, w_11, w_295, ⟨rfl, by decide +kernel, by decide +kernel, by decide +kernel⟩, by decide⟩
theorem ca_RJ0_492 : CalV RJ0 492 mi_J0_isLatin1_aae02 0 "java/lang/String" := ⟨w_302, w_303, w_304, w_11, w_305, ⟨rfl, by decide +kernel, by decide +kernel, by decide +kernel⟩, by decide⟩
theorem ca_RJ0_495 : CalS RJ0 495 mi_J1_charAt_3b067 2 := ⟨w_306, w_307, w_12, w_308, ⟨by decide +kernel, by decide +kernel, by decide +kernel⟩, by decide⟩
theorem ca_RJ1_9 : CalS RJ1 9 mi_J0_checkIndex_df160 2 := ⟨w_309, w_310, w_11, w_311, ⟨by decide +kernel, by decide +kernel, by decide +kernel⟩, by decide⟩
theorem ca_RX0_15 : CalV RX0 15 mi_X5_after 3 RX5 := ⟨w_766, w_535, w_536, w_7, w_537, ⟨rfl, by decide +kernel, by decide +kernel, by decide +kernel⟩, by decide⟩
theorem ca_RX0_19 : CalS RX0 19 mi_X0_isWon 7 := ⟨w_767, w_763, w_17, w_764, ⟨by decide +kernel, by decide +kernel, by decide +kernel⟩, by decide⟩
theorem ca_RX0_9 : CalV RX0 9 mi_X5_worksOf 1 RX5 := ⟨w_765, w_473, w_474, w_7, w_475, ⟨rfl, by decide +kernel, by decide +kernel, by decide +kernel⟩, by decide⟩
theorem ca_RX1_25 : CalN RX1 25 mi_X8_put 3 := ⟨by decide +kernel, w_230, w_1, w_231, ⟨by decide +kernel, by decide +kernel, by decide +kernel⟩, by decide⟩
theorem ca_RX1_29 : CalV RX1 29 mi_X1_canBe 2 RX1 := ⟨w_718, w_720, v_20, w_5, w_721, ⟨rfl, by decide +kernel, by decide +kernel, by decide +kernel⟩, by decide⟩
theorem ca_RX1_33 : CalS RX1 33 mi_X4_fromAbove 2 := ⟨w_741, w_490, w_15, w_491, ⟨by decide +kernel, by decide +kernel, by decide +kernel⟩, by decide⟩
theorem ca_RX1_39 : CalV RX1 39 mi_X1_mostLeft 2 RX1 := ⟨w_750, w_752, v_21, w_5, w_753, ⟨rfl, by decide +kernel, by decide +kernel, by decide +kernel⟩, by decide⟩
theorem ca_RX1_43 : CalS RX1 43 mi_J7_fill_53178 2 := ⟨w_754, w_257, w_9, w_258, ⟨by decide +kernel, by decide +kernel, by decide +kernel⟩, by decide⟩
theorem ca_RX1_49 : CalS RX1 49 mi_X1_answerOf 3 := ⟨w_727, w_728, w_5, w_729, ⟨by decide +kernel, by decide +kernel, by decide +kernel⟩, by decide⟩
theorem ca_RX1_53 : CalN RX1 53 mi_X8_at 2 := ⟨by decide +kernel, w_264, w_1, w_265, ⟨by decide +kernel, by decide +kernel, by decide +kernel⟩, by decide⟩
theorem ca_RX1_62 : CalV RX1 62 mi_X5_knows 1 RX5 := ⟨w_722, w_723, w_724, w_7, w_725, ⟨rfl, by decide +kernel, by decide +kernel, by decide +kernel⟩, by decide⟩
theorem ca_RX1_68 : CalS RX1 68 mi_X4_depth 1 := ⟨w_730, w_467, w_15, w_468, ⟨by decide +kernel, by decide +kernel, by decide +kernel⟩, by decide⟩
theorem ca_RX1_72 : CalS RX1 72 mi_X4_without 2 := ⟨w_731, w_493, w_15, w_494, ⟨by decide +kernel, by decide +kernel, by decide +kernel⟩, by decide⟩
theorem ca_RX1_75 : CalV RX1 75 mi_X5_worksOf 1 RX5 := ⟨w_732, w_473, w_474, w_7, w_475, ⟨rfl, by decide +kernel, by decide +kernel, by decide +kernel⟩, by decide⟩
theorem ca_RX2_13 : CalV RX2 13 mi_X2_asCharm 2 RX2 := ⟨w_788, w_790, v_22, w_6, w_791, ⟨rfl, by decide +kernel, by decide +kernel, by decide +kernel⟩, by decide⟩
theorem ca_RX2_17 : CalV RX2 17 mi_X2_asCurse 2 RX2 := ⟨w_799, w_801, v_24, w_6, w_802, ⟨rfl, by decide +kernel, by decide +kernel, by decide +kernel⟩, by decide⟩
theorem ca_RX2_20 : CalV RX2 20 mi_X2_asFlame 2 RX2 := ⟨w_805, w_807, v_25, w_6, w_808, ⟨rfl, by decide +kernel, by decide +kernel, by decide +kernel⟩, by decide⟩
theorem ca_RX2_23 : CalV RX2 23 mi_X2_asFrost 2 RX2 := ⟨w_810, w_812, v_26, w_6, w_813, ⟨rfl, by decide +kernel, by decide +kernel, by decide +kernel⟩, by decide⟩
theorem ca_RX2_26 : CalV RX2 26 mi_X2_asWax 3 RX2 := ⟨w_819, w_821, v_27, w_6, w_822, ⟨rfl, by decide +kernel, by decide +kernel, by decide +kernel⟩, by decide⟩
theorem ca_RX2_30 : CalV RX2 30 mi_X2_asSpell 2 RX2 := ⟨w_793, w_795, v_23, w_6, w_796, ⟨rfl, by decide +kernel, by decide +kernel, by decide +kernel⟩, by decide⟩
theorem ca_RX2_33 : CalV RX2 33 mi_X5_effectOf 1 RX5 := ⟨w_797, w_438, w_439, w_7, w_440, ⟨rfl, by decide +kernel, by decide +kernel, by decide +kernel⟩, by decide⟩
theorem ca_RX2_41 : CalV RX2 41 mi_X5_layCost 1 RX5 := ⟨w_798, w_446, w_447, w_7, w_448, ⟨rfl, by decide +kernel, by decide +kernel, by decide +kernel⟩, by decide⟩
theorem ca_RX2_46 : CalV RX2 46 mi_X5_liftCost 1 RX5 := ⟨w_804, w_450, w_451, w_7, w_452, ⟨rfl, by decide +kernel, by decide +kernel, by decide +kernel⟩, by decide⟩
theorem ca_RX2_53 : CalV RX2 53 mi_X5_sayersOf 1 RX5 := ⟨w_815, w_816, w_817, w_7, w_818, ⟨rfl, by decide +kernel, by decide +kernel, by decide +kernel⟩, by decide⟩
theorem ca_RX2_58 : CalV RX2 58 mi_X7_layersWith 1 RX7 := ⟨w_824, w_825, w_826, w_3, w_827, ⟨rfl, by decide +kernel, by decide +kernel, by decide +kernel⟩, by decide⟩
theorem ca_RX3_103 : CalV RX3 103 mi_X3_gatheredRow 0 RX3 := ⟨w_358, w_360, v_7, w_2, w_361, ⟨rfl, by decide +kernel, by decide +kernel, by decide +kernel⟩, by decide⟩
theorem ca_RX3_106 : CalV RX3 106 mi_X5_addThing 1 RX5 := ⟨w_365, w_366, w_367, w_7, w_368, ⟨rfl, by decide +kernel, by decide +kernel, by decide +kernel⟩, by decide⟩
theorem ca_RX3_110 : CalV RX3 110 mi_X5_addPupil 1 RX5 := ⟨w_369, w_370, w_371, w_7, w_372, ⟨rfl, by decide +kernel, by decide +kernel, by decide +kernel⟩, by decide⟩
theorem ca_RX3_113 : CalV RX3 113 mi_X5_setSwapCost 1 RX5 := ⟨w_373, w_374, w_375, w_7, w_376, ⟨rfl, by decide +kernel, by decide +kernel, by decide +kernel⟩, by decide⟩
theorem ca_RX3_116 : CalV RX3 116 mi_X5_setCopyCost 1 RX5 := ⟨w_377, w_378, w_379, w_7, w_380, ⟨rfl, by decide +kernel, by decide +kernel, by decide +kernel⟩, by decide⟩
theorem ca_RX3_119 : CalV RX3 119 mi_X5_setHumDepth 1 RX5 := ⟨w_381, w_382, w_383, w_7, w_384, ⟨rfl, by decide +kernel, by decide +kernel, by decide +kernel⟩, by decide⟩
theorem ca_RX3_122 : CalS RX3 122 mi_X4_with 2 := ⟨w_362, w_363, w_15, w_364, ⟨by decide +kernel, by decide +kernel, by decide +kernel⟩, by decide⟩
theorem ca_RX3_128 : CalS RX3 128 mi_X3_isDigit 1 := ⟨w_266, w_267, w_2, w_268, ⟨by decide +kernel, by decide +kernel, by decide +kernel⟩, by decide⟩
theorem ca_RX3_131 : CalV RX3 131 mi_X3_readDigits 0 RX3 := ⟨w_269, w_271, v_1, w_2, w_272, ⟨rfl, by decide +kernel, by decide +kernel, by decide +kernel⟩, by decide⟩
theorem ca_RX3_134 : CalS RX3 134 mi_X3_isLetter 1 := ⟨w_276, w_277, w_2, w_278, ⟨by decide +kernel, by decide +kernel, by decide +kernel⟩, by decide⟩
theorem ca_RX3_137 : CalV RX3 137 mi_X3_readLetters 0 RX3 := ⟨w_279, w_281, v_2, w_2, w_282, ⟨rfl, by decide +kernel, by decide +kernel, by decide +kernel⟩, by decide⟩
theorem ca_RX3_147 : CalV RX3 147 mi_X3_isWord 1 RX3 := ⟨w_284, w_286, v_3, w_2, w_287, ⟨rfl, by decide +kernel, by decide +kernel, by decide +kernel⟩, by decide⟩
theorem ca_RX3_161 : CalV RX3 161 mi_J0_length_8abf5 0 "java/lang/String" := ⟨w_288, w_289, w_290, w_11, w_291, ⟨rfl, by decide +kernel, by decide +kernel, by decide +kernel⟩, by decide⟩
theorem ca_RX3_165 : CalV RX3 165 mi_J0_charAt_5068e 1 "java/lang/String" := ⟨w_298, w_299, w_300, w_11, w_301, ⟨rfl, by decide +kernel, by decide +kernel, by decide +kernel⟩, by decide⟩
theorem ca_RX3_22 : CalN RX3 22 mi_X8_put 3 := ⟨by decide +kernel, w_230, w_1, w_231, ⟨by decide +kernel, by decide +kernel, by decide +kernel⟩, by decide⟩
theorem ca_RX3_26 : CalV RX3 26 mi_X5_beNew 0 RX5 := ⟨w_252, w_253, w_254, w_7, w_255, ⟨rfl, by decide +kernel, by decide +kernel, by decide +kernel⟩, by decide⟩
theorem ca_RX3_43 : CalV RX3 43 mi_X3_readToken 0 RX3 := ⟨w_259, w_261, v_0, w_2, w_262, ⟨rfl, by decide +kernel, by decide +kernel, by decide +kernel⟩, by decide⟩
theorem ca_RX3_49 : CalV RX3 49 mi_X3_accepts 1 RX3 := ⟨w_341, w_343, v_4, w_2, w_344, ⟨rfl, by decide +kernel, by decide +kernel, by decide +kernel⟩, by decide⟩
theorem ca_RX3_56 : CalV RX3 56 mi_X3_closesItem 1 RX3 := ⟨w_345, w_347, v_5, w_2, w_348, ⟨rfl, by decide +kernel, by decide +kernel, by decide +kernel⟩, by decide⟩
theorem ca_RX3_59 : CalV RX3 59 mi_X3_addsNumber 1 RX3 := ⟨w_385, w_387, v_8, w_2, w_388, ⟨rfl, by decide +kernel, by decide +kernel, by decide +kernel⟩, by decide⟩
theorem ca_RX3_62 : CalV RX3 62 mi_X3_opensItem 1 RX3 := ⟨w_401, w_403, v_10, w_2, w_404, ⟨rfl, by decide +kernel, by decide +kernel, by decide +kernel⟩, by decide⟩
theorem ca_RX3_65 : CalV RX3 65 mi_X3_hasPlaceForItem 1 RX3 := ⟨w_405, w_407, v_11, w_2, w_408, ⟨rfl, by decide +kernel, by decide +kernel, by decide +kernel⟩, by decide⟩
theorem ca_RX3_71 : CalV RX3 71 mi_X5_spells 0 RX5 := ⟨w_397, w_398, w_399, w_7, w_400, ⟨rfl, by decide +kernel, by decide +kernel, by decide +kernel⟩, by decide⟩
theorem ca_RX3_75 : CalV RX3 75 mi_X5_things 0 RX5 := ⟨w_409, w_410, w_411, w_7, w_412, ⟨rfl, by decide +kernel, by decide +kernel, by decide +kernel⟩, by decide⟩
theorem ca_RX3_78 : CalV RX3 78 mi_X5_pupils 0 RX5 := ⟨w_413, w_414, w_415, w_7, w_416, ⟨rfl, by decide +kernel, by decide +kernel, by decide +kernel⟩, by decide⟩
theorem ca_RX3_81 : CalV RX3 81 mi_X3_canBeNext 1 RX3 := ⟨w_389, w_391, v_9, w_2, w_392, ⟨rfl, by decide +kernel, by decide +kernel, by decide +kernel⟩, by decide⟩
theorem ca_RX3_87 : CalV RX3 87 mi_X5_isSpell 1 RX5 := ⟨w_393, w_394, w_395, w_7, w_396, ⟨rfl, by decide +kernel, by decide +kernel, by decide +kernel⟩, by decide⟩
theorem ca_RX3_91 : CalV RX3 91 mi_X3_tell 1 RX3 := ⟨w_349, w_351, v_6, w_2, w_352, ⟨rfl, by decide +kernel, by decide +kernel, by decide +kernel⟩, by decide⟩
theorem ca_RX3_95 : CalN RX3 95 mi_X8_at 2 := ⟨by decide +kernel, w_264, w_1, w_265, ⟨by decide +kernel, by decide +kernel, by decide +kernel⟩, by decide⟩
theorem ca_RX3_99 : CalV RX3 99 mi_X5_addSpell 4 RX5 := ⟨w_353, w_354, w_355, w_7, w_356, ⟨rfl, by decide +kernel, by decide +kernel, by decide +kernel⟩, by decide⟩
theorem ca_RX4_11 : CalS RX4 11 mi_X4_below 1 := ⟨w_469, w_470, w_15, w_471, ⟨by decide +kernel, by decide +kernel, by decide +kernel⟩, by decide⟩
theorem ca_RX4_15 : CalS RX4 15 mi_X4_without 2 := ⟨w_492, w_493, w_15, w_494, ⟨by decide +kernel, by decide +kernel, by decide +kernel⟩, by decide⟩
theorem ca_RX4_19 : CalS RX4 19 mi_X4_top 1 := ⟨w_495, w_477, w_15, w_478, ⟨by decide +kernel, by decide +kernel, by decide +kernel⟩, by decide⟩
theorem ca_RX4_22 : CalS RX4 22 mi_X4_with 2 := ⟨w_545, w_363, w_15, w_364, ⟨by decide +kernel, by decide +kernel, by decide +kernel⟩, by decide⟩
theorem ca_RX5_102 : CalV RX5 102 mi_X5_liftCost 1 RX5 := ⟨w_551, w_450, w_451, w_7, w_452, ⟨rfl, by decide +kernel, by decide +kernel, by decide +kernel⟩, by decide⟩
theorem ca_RX5_105 : CalS RX5 105 mi_J6_bitCount_0f7a4 1 := ⟨w_619, w_620, w_16, w_621, ⟨by decide +kernel, by decide +kernel, by decide +kernel⟩, by decide⟩
theorem ca_RX5_110 : CalV RX5 110 mi_X5_worksOnBase 2 RX5 := ⟨w_625, w_627, v_12, w_7, w_628, ⟨rfl, by decide +kernel, by decide +kernel, by decide +kernel⟩, by decide⟩
theorem ca_RX5_113 : CalV RX5 113 mi_X5_effectOf 1 RX5 := ⟨w_629, w_438, w_439, w_7, w_440, ⟨rfl, by decide +kernel, by decide +kernel, by decide +kernel⟩, by decide⟩
theorem ca_RX5_116 : CalV RX5 116 mi_X5_isGlass 1 RX5 := ⟨w_630, w_442, w_443, w_7, w_444, ⟨rfl, by decide +kernel, by decide +kernel, by decide +kernel⟩, by decide⟩
theorem ca_RX5_119 : CalV RX5 119 mi_X5_worksOf 1 RX5 := ⟨w_631, w_473, w_474, w_7, w_475, ⟨rfl, by decide +kernel, by decide +kernel, by decide +kernel⟩, by decide⟩
theorem ca_RX5_49 : CalS RX5 49 mi_J7_fill_53178 2 := ⟨w_256, w_257, w_9, w_258, ⟨by decide +kernel, by decide +kernel, by decide +kernel⟩, by decide⟩
theorem ca_RX5_55 : CalN RX5 55 mi_X8_put 3 := ⟨by decide +kernel, w_230, w_1, w_231, ⟨by decide +kernel, by decide +kernel, by decide +kernel⟩, by decide⟩
theorem ca_RX5_59 : CalN RX5 59 mi_X8_at 2 := ⟨by decide +kernel, w_264, w_1, w_265, ⟨by decide +kernel, by decide +kernel, by decide +kernel⟩, by decide⟩
theorem ca_RX5_63 : CalV RX5 63 mi_X5_spellsOfPupil 1 RX5 := ⟨w_614, w_505, w_506, w_7, w_507, ⟨rfl, by decide +kernel, by decide +kernel, by decide +kernel⟩, by decide⟩
theorem ca_RX5_67 : CalV RX5 67 mi_X5_mayOneSay 2 RX5 := ⟨w_516, w_517, w_518, w_7, w_519, ⟨rfl, by decide +kernel, by decide +kernel, by decide +kernel⟩, by decide⟩
theorem ca_RX5_71 : CalS RX5 71 mi_X4_depth 1 := ⟨w_484, w_467, w_15, w_468, ⟨by decide +kernel, by decide +kernel, by decide +kernel⟩, by decide⟩
theorem ca_RX5_76 : CalS RX5 76 mi_X4_top 1 := ⟨w_476, w_477, w_15, w_478, ⟨by decide +kernel, by decide +kernel, by decide +kernel⟩, by decide⟩
theorem ca_RX5_79 : CalV RX5 79 mi_X5_isSpell 1 RX5 := ⟨w_538, w_394, w_395, w_7, w_396, ⟨rfl, by decide +kernel, by decide +kernel, by decide +kernel⟩, by decide⟩
theorem ca_RX5_83 : CalS RX5 83 mi_X4_below 1 := ⟨w_479, w_470, w_15, w_471, ⟨by decide +kernel, by decide +kernel, by decide +kernel⟩, by decide⟩
theorem ca_RX5_86 : CalS RX5 86 mi_X4_isFull 1 := ⟨w_539, w_521, w_15, w_522, ⟨by decide +kernel, by decide +kernel, by decide +kernel⟩, by decide⟩
theorem ca_RX5_89 : CalV RX5 89 mi_X5_maySay 2 RX5 := ⟨w_540, w_513, w_514, w_7, w_515, ⟨rfl, by decide +kernel, by decide +kernel, by decide +kernel⟩, by decide⟩
theorem ca_RX5_92 : CalS RX5 92 mi_X4_with 2 := ⟨w_541, w_363, w_15, w_364, ⟨by decide +kernel, by decide +kernel, by decide +kernel⟩, by decide⟩
theorem ca_RX5_96 : CalS RX5 96 mi_X4_swapped 1 := ⟨w_542, w_543, w_15, w_544, ⟨by decide +kernel, by decide +kernel, by decide +kernel⟩, by decide⟩
theorem ca_RX5_99 : CalV RX5 99 mi_X5_layCost 1 RX5 := ⟨w_550, w_446, w_447, w_7, w_448, ⟨rfl, by decide +kernel, by decide +kernel, by decide +kernel⟩, by decide⟩
theorem ca_RX6_25 : CalS RX6 25 mi_J7_fill_53178 2 := ⟨w_637, w_257, w_9, w_258, ⟨by decide +kernel, by decide +kernel, by decide +kernel⟩, by decide⟩
theorem ca_RX6_35 : CalV RX6 35 mi_X6_offer 2 RX6 := ⟨w_638, w_640, v_13, w_4, w_641, ⟨rfl, by decide +kernel, by decide +kernel, by decide +kernel⟩, by decide⟩
theorem ca_RX6_39 : CalV RX6 39 mi_X6_takeLeast 0 RX6 := ⟨w_652, w_654, v_16, w_4, w_655, ⟨rfl, by decide +kernel, by decide +kernel, by decide +kernel⟩, by decide⟩
theorem ca_RX6_43 : CalV RX6 43 mi_X5_worksOf 1 RX5 := ⟨w_664, w_473, w_474, w_7, w_475, ⟨rfl, by decide +kernel, by decide +kernel, by decide +kernel⟩, by decide⟩
theorem ca_RX6_49 : CalN RX6 49 mi_X8_at 2 := ⟨by decide +kernel, w_264, w_1, w_265, ⟨by decide +kernel, by decide +kernel, by decide +kernel⟩, by decide⟩
theorem ca_RX6_53 : CalV RX6 53 mi_X6_goOnFrom 3 RX6 := ⟨w_665, w_667, v_19, w_4, w_668, ⟨rfl, by decide +kernel, by decide +kernel, by decide +kernel⟩, by decide⟩
theorem ca_RX6_57 : CalV RX6 57 mi_X5_after 3 RX5 := ⟨w_669, w_535, w_536, w_7, w_537, ⟨rfl, by decide +kernel, by decide +kernel, by decide +kernel⟩, by decide⟩
theorem ca_RX6_61 : CalV RX6 61 mi_X5_costOf 2 RX5 := ⟨w_670, w_547, w_548, w_7, w_549, ⟨rfl, by decide +kernel, by decide +kernel, by decide +kernel⟩, by decide⟩
theorem ca_RX6_65 : CalN RX6 65 mi_X8_put 3 := ⟨by decide +kernel, w_230, w_1, w_231, ⟨by decide +kernel, by decide +kernel, by decide +kernel⟩, by decide⟩
theorem ca_RX6_69 : CalV RX6 69 mi_X6_rise 2 RX6 := ⟨w_644, w_646, v_14, w_4, w_647, ⟨rfl, by decide +kernel, by decide +kernel, by decide +kernel⟩, by decide⟩
theorem ca_RX6_72 : CalV RX6 72 mi_X6_sink 1 RX6 := ⟨w_656, w_658, v_17, w_4, w_659, ⟨rfl, by decide +kernel, by decide +kernel, by decide +kernel⟩, by decide⟩
theorem ca_RX6_76 : CalV RX6 76 mi_X6_sit 2 RX6 := ⟨w_648, w_650, v_15, w_4, w_651, ⟨rfl, by decide +kernel, by decide +kernel, by decide +kernel⟩, by decide⟩
theorem ca_RX6_79 : CalV RX6 79 mi_X6_labelAt 1 RX6 := ⟨w_660, w_662, v_18, w_4, w_663, ⟨rfl, by decide +kernel, by decide +kernel, by decide +kernel⟩, by decide⟩
theorem ca_RX7_30 : CalV RX7 30 mi_X5_firstRow 1 RX5 := ⟨w_421, w_422, w_423, w_7, w_424, ⟨rfl, by decide +kernel, by decide +kernel, by decide +kernel⟩, by decide⟩
theorem ca_RX7_36 : CalN RX7 36 mi_X8_put 3 := ⟨by decide +kernel, w_230, w_1, w_231, ⟨by decide +kernel, by decide +kernel, by decide +kernel⟩, by decide⟩
theorem ca_RX7_50 : CalN RX7 50 mi_X8_at 2 := ⟨by decide +kernel, w_264, w_1, w_265, ⟨by decide +kernel, by decide +kernel, by decide +kernel⟩, by decide⟩
theorem ca_RX7_57 : CalV RX7 57 mi_X7_rowOf 1 RX7 := ⟨w_528, w_462, w_463, w_3, w_464, ⟨rfl, by decide +kernel, by decide +kernel, by decide +kernel⟩, by decide⟩
theorem ca_RX7_66 : CalV RX7 66 mi_X5_things 0 RX5 := ⟨w_589, w_410, w_411, w_7, w_412, ⟨rfl, by decide +kernel, by decide +kernel, by decide +kernel⟩, by decide⟩
theorem ca_RX7_70 : CalV RX7 70 mi_X5_isHumming 1 RX5 := ⟨w_590, w_481, w_482, w_7, w_483, ⟨rfl, by decide +kernel, by decide +kernel, by decide +kernel⟩, by decide⟩
theorem ca_RX7_74 : CalS RX7 74 mi_X4_depth 1 := ⟨w_595, w_467, w_15, w_468, ⟨by decide +kernel, by decide +kernel, by decide +kernel⟩, by decide⟩
theorem ca_RX7_79 : CalS RX7 79 mi_X4_fromAbove 2 := ⟨w_828, w_490, w_15, w_491, ⟨by decide +kernel, by decide +kernel, by decide +kernel⟩, by decide⟩
theorem ca_RX8_102 : CalS RX8 102 mi_X4_depth 1 := ⟨w_466, w_467, w_15, w_468, ⟨by decide +kernel, by decide +kernel, by decide +kernel⟩, by decide⟩
theorem ca_RX8_107 : CalV RX8 107 mi_X5_worksOf 1 RX5 := ⟨w_472, w_473, w_474, w_7, w_475, ⟨rfl, by decide +kernel, by decide +kernel, by decide +kernel⟩, by decide⟩
theorem ca_RX8_110 : CalV RX8 110 mi_X5_isHumming 1 RX5 := ⟨w_480, w_481, w_482, w_7, w_483, ⟨rfl, by decide +kernel, by decide +kernel, by decide +kernel⟩, by decide⟩
theorem ca_RX8_113 : CalS RX8 113 mi_X4_fromAbove 2 := ⟨w_489, w_490, w_15, w_491, ⟨by decide +kernel, by decide +kernel, by decide +kernel⟩, by decide⟩
theorem ca_RX8_117 : CalV RX8 117 mi_X5_isPupil 1 RX5 := ⟨w_500, w_501, w_502, w_7, w_503, ⟨rfl, by decide +kernel, by decide +kernel, by decide +kernel⟩, by decide⟩
theorem ca_RX8_120 : CalV RX8 120 mi_X5_spellsOfPupil 1 RX5 := ⟨w_504, w_505, w_506, w_7, w_507, ⟨rfl, by decide +kernel, by decide +kernel, by decide +kernel⟩, by decide⟩
theorem ca_RX8_123 : CalV RX8 123 mi_X5_maySay 2 RX5 := ⟨w_512, w_513, w_514, w_7, w_515, ⟨rfl, by decide +kernel, by decide +kernel, by decide +kernel⟩, by decide⟩
theorem ca_RX8_127 : CalS RX8 127 mi_X4_isFull 1 := ⟨w_520, w_521, w_15, w_522, ⟨by decide +kernel, by decide +kernel, by decide +kernel⟩, by decide⟩
theorem ca_RX8_130 : CalS RX8 130 mi_X4_with 2 := ⟨w_523, w_363, w_15, w_364, ⟨by decide +kernel, by decide +kernel, by decide +kernel⟩, by decide⟩
theorem ca_RX8_133 : CalV RX8 133 mi_X7_change 3 RX7 := ⟨w_524, w_525, w_526, w_3, w_527, ⟨rfl, by decide +kernel, by decide +kernel, by decide +kernel⟩, by decide⟩
theorem ca_RX8_137 : CalV RX8 137 mi_X5_after 3 RX5 := ⟨w_534, w_535, w_536, w_7, w_537, ⟨rfl, by decide +kernel, by decide +kernel, by decide +kernel⟩, by decide⟩
theorem ca_RX8_141 : CalV RX8 141 mi_X5_costOf 2 RX5 := ⟨w_546, w_547, w_548, w_7, w_549, ⟨rfl, by decide +kernel, by decide +kernel, by decide +kernel⟩, by decide⟩
theorem ca_RX8_144 : CalS RX8 144 mi_X4_top 1 := ⟨w_552, w_477, w_15, w_478, ⟨by decide +kernel, by decide +kernel, by decide +kernel⟩, by decide⟩
theorem ca_RX8_147 : CalV RX8 147 mi_X5_costOfCopy 0 RX5 := ⟨w_561, w_562, w_563, w_7, w_564, ⟨rfl, by decide +kernel, by decide +kernel, by decide +kernel⟩, by decide⟩
theorem ca_RX8_150 : CalV RX8 150 mi_X7_takeBack 0 RX7 := ⟨w_569, w_570, w_571, w_3, w_572, ⟨rfl, by decide +kernel, by decide +kernel, by decide +kernel⟩, by decide⟩
theorem ca_RX8_154 : CalV RX8 154 mi_X7_known 0 RX7 := ⟨w_573, w_574, w_575, w_3, w_576, ⟨rfl, by decide +kernel, by decide +kernel, by decide +kernel⟩, by decide⟩
theorem ca_RX8_157 : CalV RX8 157 mi_X7_spent 0 RX7 := ⟨w_581, w_582, w_583, w_3, w_584, ⟨rfl, by decide +kernel, by decide +kernel, by decide +kernel⟩, by decide⟩
theorem ca_RX8_160 : CalV RX8 160 mi_X7_humming 1 RX7 := ⟨w_585, w_586, w_587, w_3, w_588, ⟨rfl, by decide +kernel, by decide +kernel, by decide +kernel⟩, by decide⟩
theorem ca_RX8_163 : CalV RX8 163 mi_X7_layers 0 RX7 := ⟨w_591, w_592, w_593, w_3, w_594, ⟨rfl, by decide +kernel, by decide +kernel, by decide +kernel⟩, by decide⟩
theorem ca_RX8_166 : CalS RX8 166 mi_X8_isEffectSet 1 := ⟨w_600, w_601, w_1, w_602, ⟨by decide +kernel, by decide +kernel, by decide +kernel⟩, by decide⟩
theorem ca_RX8_169 : CalV RX8 169 mi_X5_isPupilSet 1 RX5 := ⟨w_603, w_604, w_605, w_7, w_606, ⟨rfl, by decide +kernel, by decide +kernel, by decide +kernel⟩, by decide⟩
theorem ca_RX8_172 : CalS RX8 172 mi_X8_isYesOrNo 1 := ⟨w_607, w_608, w_1, w_609, ⟨by decide +kernel, by decide +kernel, by decide +kernel⟩, by decide⟩
theorem ca_RX8_175 : CalV RX8 175 mi_X5_spellsOfSet 1 RX5 := ⟨w_610, w_611, w_612, w_7, w_613, ⟨rfl, by decide +kernel, by decide +kernel, by decide +kernel⟩, by decide⟩
theorem ca_RX8_178 : CalV RX8 178 mi_X5_hasWay 3 RX5 := ⟨w_615, w_616, w_617, w_7, w_618, ⟨rfl, by decide +kernel, by decide +kernel, by decide +kernel⟩, by decide⟩
theorem ca_RX8_182 : CalV RX8 182 mi_X6_nearest 4 RX6 := ⟨w_632, w_633, w_634, w_4, w_635, ⟨rfl, by decide +kernel, by decide +kernel, by decide +kernel⟩, by decide⟩
theorem ca_RX8_187 : CalS RX8 187 mi_X6_costOf 1 := ⟨w_673, w_674, w_4, w_675, ⟨by decide +kernel, by decide +kernel, by decide +kernel⟩, by decide⟩
theorem ca_RX8_189 : CalS RX8 189 mi_X6_firstOf 1 := ⟨w_676, w_677, w_4, w_678, ⟨by decide +kernel, by decide +kernel, by decide +kernel⟩, by decide⟩
theorem ca_RX8_192 : CalV RX8 192 mi_X5_pupils 0 RX5 := ⟨w_683, w_414, w_415, w_7, w_416, ⟨rfl, by decide +kernel, by decide +kernel, by decide +kernel⟩, by decide⟩
theorem ca_RX8_195 : CalS RX8 195 mi_J6_bitCount_0f7a4 1 := ⟨w_684, w_620, w_16, w_621, ⟨by decide +kernel, by decide +kernel, by decide +kernel⟩, by decide⟩
theorem ca_RX8_200 : CalV RX8 200 mi_X5_fewestFor 1 RX5 := ⟨w_689, w_690, w_691, w_7, w_692, ⟨rfl, by decide +kernel, by decide +kernel, by decide +kernel⟩, by decide⟩
theorem ca_RX8_203 : CalV RX8 203 mi_X1_see 2 RX1 := ⟨w_697, w_698, w_699, w_5, w_700, ⟨rfl, by decide +kernel, by decide +kernel, by decide +kernel⟩, by decide⟩
theorem ca_RX8_206 : CalV RX8 206 mi_X1_seen 0 RX1 := ⟨w_702, w_703, w_704, w_5, w_705, ⟨rfl, by decide +kernel, by decide +kernel, by decide +kernel⟩, by decide⟩
theorem ca_RX8_209 : CalV RX8 209 mi_X1_possible 1 RX1 := ⟨w_714, w_715, w_716, w_5, w_717, ⟨rfl, by decide +kernel, by decide +kernel, by decide +kernel⟩, by decide⟩
theorem ca_RX8_212 : CalV RX8 212 mi_X1_spellAt 2 RX1 := ⟨w_737, w_738, w_739, w_5, w_740, ⟨rfl, by decide +kernel, by decide +kernel, by decide +kernel⟩, by decide⟩
theorem ca_RX8_216 : CalV RX8 216 mi_X1_bestToLift 1 RX1 := ⟨w_746, w_747, w_748, w_5, w_749, ⟨rfl, by decide +kernel, by decide +kernel, by decide +kernel⟩, by decide⟩
theorem ca_RX8_219 : CalN RX8 219 mi_X0_isWon 7 := ⟨by decide +kernel, w_763, w_17, w_764, ⟨by decide +kernel, by decide +kernel, by decide +kernel⟩, by decide⟩
theorem ca_RX8_225 : CalS RX8 225 mi_X0_firstWord 6 := ⟨w_768, w_769, w_17, w_770, ⟨by decide +kernel, by decide +kernel, by decide +kernel⟩, by decide⟩
theorem ca_RX8_231 : CalS RX8 231 mi_X8_power 2 := ⟨w_776, w_777, w_1, w_778, ⟨by decide +kernel, by decide +kernel, by decide +kernel⟩, by decide⟩
theorem ca_RX8_236 : CalV RX8 236 mi_X2_rating 4 RX2 := ⟨w_784, w_785, w_786, w_6, w_787, ⟨rfl, by decide +kernel, by decide +kernel, by decide +kernel⟩, by decide⟩
theorem ca_RX8_240 : CalV RX8 240 mi_X7_keepImage 1 RX7 := ⟨w_833, w_834, w_835, w_3, w_836, ⟨rfl, by decide +kernel, by decide +kernel, by decide +kernel⟩, by decide⟩
theorem ca_RX8_243 : CalV RX8 243 mi_X7_becomeImage 1 RX7 := ⟨w_841, w_842, w_843, w_3, w_844, ⟨rfl, by decide +kernel, by decide +kernel, by decide +kernel⟩, by decide⟩
theorem ca_RX8_246 : CalV RX8 246 mi_X5_spells 0 RX5 := ⟨w_849, w_398, w_399, w_7, w_400, ⟨rfl, by decide +kernel, by decide +kernel, by decide +kernel⟩, by decide⟩
theorem ca_RX8_249 : CalV RX8 249 mi_X5_things 0 RX5 := ⟨w_850, w_410, w_411, w_7, w_412, ⟨rfl, by decide +kernel, by decide +kernel, by decide +kernel⟩, by decide⟩
theorem ca_RX8_252 : CalV RX8 252 mi_X5_costOfSwap 0 RX5 := ⟨w_851, w_852, w_853, w_7, w_854, ⟨rfl, by decide +kernel, by decide +kernel, by decide +kernel⟩, by decide⟩
theorem ca_RX8_255 : CalV RX8 255 mi_X5_humsFrom 0 RX5 := ⟨w_855, w_856, w_857, w_7, w_858, ⟨rfl, by decide +kernel, by decide +kernel, by decide +kernel⟩, by decide⟩
theorem ca_RX8_258 : CalV RX8 258 mi_X2_traced 0 RX2 := ⟨w_863, w_864, w_865, w_6, w_866, ⟨rfl, by decide +kernel, by decide +kernel, by decide +kernel⟩, by decide⟩
theorem ca_RX8_54 : CalV RX8 54 mi_X3_hasRoomFor 1 RX3 := ⟨w_221, w_222, w_223, w_2, w_224, ⟨rfl, by decide +kernel, by decide +kernel, by decide +kernel⟩, by decide⟩
theorem ca_RX8_58 : CalV RX8 58 mi_X3_add 1 RX3 := ⟨w_225, w_226, w_227, w_2, w_228, ⟨rfl, by decide +kernel, by decide +kernel, by decide +kernel⟩, by decide⟩
theorem ca_RX8_62 : CalV RX8 62 mi_X3_length 0 RX3 := ⟨w_232, w_233, w_234, w_2, w_235, ⟨rfl, by decide +kernel, by decide +kernel, by decide +kernel⟩, by decide⟩
theorem ca_RX8_66 : CalV RX8 66 mi_X3_empty 0 RX3 := ⟨w_240, w_241, w_242, w_2, w_243, ⟨rfl, by decide +kernel, by decide +kernel, by decide +kernel⟩, by decide⟩
theorem ca_RX8_69 : CalV RX8 69 mi_X3_read 1 RX3 := ⟨w_248, w_249, w_250, w_2, w_251, ⟨rfl, by decide +kernel, by decide +kernel, by decide +kernel⟩, by decide⟩
theorem ca_RX8_73 : CalV RX8 73 mi_X7_startAs 1 RX7 := ⟨w_417, w_418, w_419, w_3, w_420, ⟨rfl, by decide +kernel, by decide +kernel, by decide +kernel⟩, by decide⟩
theorem ca_RX8_77 : CalV RX8 77 mi_X1_seeNothing 0 RX1 := ⟨w_427, w_428, w_429, w_5, w_430, ⟨rfl, by decide +kernel, by decide +kernel, by decide +kernel⟩, by decide⟩
theorem ca_RX8_80 : CalV RX8 80 mi_X5_isSpell 1 RX5 := ⟨w_436, w_394, w_395, w_7, w_396, ⟨rfl, by decide +kernel, by decide +kernel, by decide +kernel⟩, by decide⟩
theorem ca_RX8_83 : CalV RX8 83 mi_X5_effectOf 1 RX5 := ⟨w_437, w_438, w_439, w_7, w_440, ⟨rfl, by decide +kernel, by decide +kernel, by decide +kernel⟩, by decide⟩
theorem ca_RX8_87 : CalV RX8 87 mi_X5_isGlass 1 RX5 := ⟨w_441, w_442, w_443, w_7, w_444, ⟨rfl, by decide +kernel, by decide +kernel, by decide +kernel⟩, by decide⟩
theorem ca_RX8_90 : CalV RX8 90 mi_X5_layCost 1 RX5 := ⟨w_445, w_446, w_447, w_7, w_448, ⟨rfl, by decide +kernel, by decide +kernel, by decide +kernel⟩, by decide⟩
theorem ca_RX8_93 : CalV RX8 93 mi_X5_liftCost 1 RX5 := ⟨w_449, w_450, w_451, w_7, w_452, ⟨rfl, by decide +kernel, by decide +kernel, by decide +kernel⟩, by decide⟩
theorem ca_RX8_96 : CalV RX8 96 mi_X5_isThing 1 RX5 := ⟨w_457, w_458, w_459, w_7, w_460, ⟨rfl, by decide +kernel, by decide +kernel, by decide +kernel⟩, by decide⟩
theorem ca_RX8_99 : CalV RX8 99 mi_X7_rowOf 1 RX7 := ⟨w_461, w_462, w_463, w_3, w_464, ⟨rfl, by decide +kernel, by decide +kernel, by decide +kernel⟩, by decide⟩
theorem ca_RX9_104 : CalS RX9 104 mi_X9_wordOf 1 := ⟨w_1008, w_1009, w_8, w_1010, ⟨by decide +kernel, by decide +kernel, by decide +kernel⟩, by decide⟩
theorem ca_RX9_114 : CalV RX9 114 mi_X9_isWell 0 RX9 := ⟨w_1014, w_1016, v_30, w_8, w_1017, ⟨rfl, by decide +kernel, by decide +kernel, by decide +kernel⟩, by decide⟩
theorem ca_RX9_118 : CalV RX9 118 mi_X9_advances 0 RX9 := ⟨w_996, w_998, v_28, w_8, w_999, ⟨rfl, by decide +kernel, by decide +kernel, by decide +kernel⟩, by decide⟩
theorem ca_RX9_121 : CalV RX9 121 mi_X9_takes 1 RX9 := ⟨w_1022, w_1024, v_32, w_8, w_1025, ⟨rfl, by decide +kernel, by decide +kernel, by decide +kernel⟩, by decide⟩
theorem ca_RX9_134 : CalV RX9 134 mi_X9_number 2 RX9 := ⟨w_1030, w_1032, v_34, w_8, w_1033, ⟨rfl, by decide +kernel, by decide +kernel, by decide +kernel⟩, by decide⟩
theorem ca_RX9_138 : CalV RX9 138 mi_X9_mayBegin 0 RX9 := ⟨w_1018, w_1020, v_31, w_8, w_1021, ⟨rfl, by decide +kernel, by decide +kernel, by decide +kernel⟩, by decide⟩
theorem ca_RX9_141 : CalV RX9 141 mi_X9_readsItem 1 RX9 := ⟨w_1026, w_1028, v_33, w_8, w_1029, ⟨rfl, by decide +kernel, by decide +kernel, by decide +kernel⟩, by decide⟩
theorem ca_RX9_145 : CalV RX9 145 mi_X9_settles 0 RX9 := ⟨w_1034, w_1036, v_35, w_8, w_1037, ⟨rfl, by decide +kernel, by decide +kernel, by decide +kernel⟩, by decide⟩
theorem ca_RX9_163 : CalV RX9 163 mi_X9_isRow 1 RX9 := ⟨w_1038, w_1040, v_36, w_8, w_1041, ⟨rfl, by decide +kernel, by decide +kernel, by decide +kernel⟩, by decide⟩
theorem ca_RX9_167 : CalV RX9 167 mi_X9_isSpell 1 RX9 := ⟨w_1046, w_1048, v_37, w_8, w_1049, ⟨rfl, by decide +kernel, by decide +kernel, by decide +kernel⟩, by decide⟩
theorem ca_RX9_170 : CalV RX9 170 mi_X9_isThing 1 RX9 := ⟨w_1054, w_1056, v_38, w_8, w_1057, ⟨rfl, by decide +kernel, by decide +kernel, by decide +kernel⟩, by decide⟩
theorem ca_RX9_173 : CalS RX9 173 mi_X9_layersOf 1 := ⟨w_1058, w_1059, w_8, w_1060, ⟨by decide +kernel, by decide +kernel, by decide +kernel⟩, by decide⟩
theorem ca_RX9_176 : CalV RX9 176 mi_X9_worksOf 1 RX9 := ⟨w_1061, w_1063, v_39, w_8, w_1064, ⟨rfl, by decide +kernel, by decide +kernel, by decide +kernel⟩, by decide⟩
theorem ca_RX9_179 : CalS RX9 179 mi_X9_spellAt 2 := ⟨w_1069, w_1070, w_8, w_1071, ⟨by decide +kernel, by decide +kernel, by decide +kernel⟩, by decide⟩
theorem ca_RX9_182 : CalV RX9 182 mi_X9_isPupil 1 RX9 := ⟨w_1076, w_1078, v_40, w_8, w_1079, ⟨rfl, by decide +kernel, by decide +kernel, by decide +kernel⟩, by decide⟩
theorem ca_RX9_185 : CalV RX9 185 mi_X9_may 2 RX9 := ⟨w_1084, w_1086, v_41, w_8, w_1087, ⟨rfl, by decide +kernel, by decide +kernel, by decide +kernel⟩, by decide⟩
theorem ca_RX9_189 : CalV RX9 189 mi_X9_becomes 3 RX9 := ⟨w_1088, w_1090, v_42, w_8, w_1091, ⟨rfl, by decide +kernel, by decide +kernel, by decide +kernel⟩, by decide⟩
theorem ca_RX9_193 : CalS RX9 193 mi_X9_swapped 1 := ⟨w_1100, w_1101, w_8, w_1102, ⟨by decide +kernel, by decide +kernel, by decide +kernel⟩, by decide⟩
theorem ca_RX9_196 : CalV RX9 196 mi_X9_canSay 3 RX9 := ⟨w_1132, w_1134, v_46, w_8, w_1135, ⟨rfl, by decide +kernel, by decide +kernel, by decide +kernel⟩, by decide⟩
theorem ca_RX9_199 : CalV RX9 199 mi_X9_said 3 RX9 := ⟨w_1128, w_1130, v_45, w_8, w_1131, ⟨rfl, by decide +kernel, by decide +kernel, by decide +kernel⟩, by decide⟩
theorem ca_RX9_204 : CalV RX9 204 mi_X9_costOf 2 RX9 := ⟨w_1136, w_1138, v_47, w_8, w_1139, ⟨rfl, by decide +kernel, by decide +kernel, by decide +kernel⟩, by decide⟩
theorem ca_RX9_207 : CalV RX9 207 mi_X9_wayFrom 2 RX9 := ⟨w_1124, w_1126, v_44, w_8, w_1127, ⟨rfl, by decide +kernel, by decide +kernel, by decide +kernel⟩, by decide⟩
theorem ca_RX9_210 : CalV RX9 210 mi_X9_sweeps 2 RX9 := ⟨w_1119, w_1121, v_43, w_8, w_1122, ⟨rfl, by decide +kernel, by decide +kernel, by decide +kernel⟩, by decide⟩
theorem ca_RX9_214 : CalS RX9 214 mi_X9_ones 1 := ⟨w_1144, w_1145, w_8, w_1146, ⟨by decide +kernel, by decide +kernel, by decide +kernel⟩, by decide⟩
theorem ca_RX9_217 : CalV RX9 217 mi_X9_spellsIn 1 RX9 := ⟨w_1151, w_1153, v_48, w_8, w_1154, ⟨rfl, by decide +kernel, by decide +kernel, by decide +kernel⟩, by decide⟩
theorem ca_RX9_220 : CalS RX9 220 mi_X9_withoutTop 2 := ⟨w_1171, w_1172, w_8, w_1173, ⟨by decide +kernel, by decide +kernel, by decide +kernel⟩, by decide⟩
theorem ca_RX9_223 : CalV RX9 223 mi_X9_isHat 1 RX9 := ⟨w_1167, w_1169, v_49, w_8, w_1170, ⟨rfl, by decide +kernel, by decide +kernel, by decide +kernel⟩, by decide⟩
theorem ca_RX9_226 : CalV RX9 226 mi_X9_atWorst 1 RX9 := ⟨w_1182, w_1184, v_50, w_8, w_1185, ⟨rfl, by decide +kernel, by decide +kernel, by decide +kernel⟩, by decide⟩
theorem ca_RX9_229 : CalV RX9 229 mi_X9_folds 2 RX9 := ⟨w_1194, w_1196, v_52, w_8, w_1197, ⟨rfl, by decide +kernel, by decide +kernel, by decide +kernel⟩, by decide⟩
theorem ca_RX9_232 : CalV RX9 232 mi_X9_played 5 RX9 := ⟨w_1190, w_1192, v_51, w_8, w_1193, ⟨rfl, by decide +kernel, by decide +kernel, by decide +kernel⟩, by decide⟩
theorem ca_RX9_240 : CalS RX9 240 mi_X9_gcd 2 := ⟨w_1204, w_1205, w_8, w_1206, ⟨by decide +kernel, by decide +kernel, by decide +kernel⟩, by decide⟩
theorem ca_RX9_72 : CalS RX9 72 mi_X9_in 3 := ⟨w_984, w_985, w_8, w_986, ⟨by decide +kernel, by decide +kernel, by decide +kernel⟩, by decide⟩
theorem ca_RX9_83 : CalS RX9 83 mi_X9_add 2 := ⟨w_1004, w_1005, w_8, w_1006, ⟨by decide +kernel, by decide +kernel, by decide +kernel⟩, by decide⟩
theorem ca_RX9_87 : CalS RX9 87 mi_X9_named 5 := ⟨w_1011, w_1012, w_8, w_1013, ⟨by decide +kernel, by decide +kernel, by decide +kernel⟩, by decide⟩
theorem ca_RX9_94 : CalV RX9 94 mi_X9_byteAt 1 RX9 := ⟨w_1000, w_1002, v_29, w_8, w_1003, ⟨rfl, by decide +kernel, by decide +kernel, by decide +kernel⟩, by decide⟩
def oBad : Op := fun _ => none
theorem ok_bad {p : Program} {l : Launch} {e : Env} {R : Room} {s : State} {m : MethodId} {args : Array Value} {below : List Frame} {meth : Method} {c : Code} {cells slots : Nat} {cc : ByteArray} {nL : Nat} {ad : Nat → Nat} {D : va_G} {cI cZ : ClassId} {A : Nat → Prop} {pc : Nat} : OkI p l e R s m args below meth c cells slots cc nL ad D cI cZ A pc oBad := fun L st w r h => by cases h
