/-! ===== what the tables link, a fact each (printed by a program out of the tables) ===== -/
abbrev YX0_init : Ym := (yX0_init, cX0_init, 1, none)
abbrev YX0_add : Ym := (yX0_add, cX0_add, 4, none)
abbrev YX0_forgetFirst : Ym := (yX0_forgetFirst, cX0_forgetFirst, 2, none)
abbrev YX1_init : Ym := (yX1_init, cX1_init, 1, none)
abbrev YX2_init : Ym := (yX2_init, cX2_init, 1, none)
abbrev YX2_stockUp : Ym := (yX2_stockUp, cX2_stockUp, 4, none)
abbrev YX2_canServe : Ym := (yX2_canServe, cX2_canServe, 4, (some .boolean))
abbrev YX2_takeTried : Ym := (yX2_takeTried, cX2_takeTried, 4, none)
abbrev YX2_unitsBy : Ym := (yX2_unitsBy, cX2_unitsBy, 5, (some .int))
abbrev YX2_smells : Ym := (yX2_smells, cX2_smells, 3, (some .boolean))
abbrev YX3_init : Ym := (yX3_init, cX3_init, 1, none)
abbrev YX3_add : Ym := (yX3_add, cX3_add, 4, (some .boolean))
abbrev YX4_init : Ym := (yX4_init, cX4_init, 1, none)
abbrev YX4_become : Ym := (yX4_become, cX4_become, 3, none)
abbrev YX4_hasField : Ym := (yX4_hasField, cX4_hasField, 2, (some .boolean))
abbrev YX4_hasMaker : Ym := (yX4_hasMaker, cX4_hasMaker, 2, (some .boolean))
abbrev YX4_hasLeague : Ym := (yX4_hasLeague, cX4_hasLeague, 2, (some .boolean))
abbrev YX4_allMakers : Ym := (yX4_allMakers, cX4_allMakers, 1, (some .int))
abbrev YX4_makes : Ym := (yX4_makes, cX4_makes, 3, (some .boolean))
abbrev YX4_couldBeSecondHand : Ym := (yX4_couldBeSecondHand, cX4_couldBeSecondHand, 2, (some .boolean))
abbrev YX4_refusal : Ym := (yX4_refusal, cX4_refusal, 4, (some .int))
abbrev YX4_change : Ym := (yX4_change, cX4_change, 5, (some .int))
abbrev YX5_init : Ym := (yX5_init, cX5_init, 1, none)
abbrev YX5_append : Ym := (yX5_append, cX5_append, 2, (some .boolean))
abbrev YX5_readInto : Ym := (yX5_readInto, cX5_readInto, 4, (some .int))
abbrev YX5_behind : Ym := (yX5_behind, cX5_behind, 3, (some .int))
abbrev YX5_behindHead : Ym := (yX5_behindHead, cX5_behindHead, 2, (some .int))
abbrev YX5_behindFieldWeather : Ym := (yX5_behindFieldWeather, cX5_behindFieldWeather, 3, (some .int))
abbrev YX5_behindFieldUnits : Ym := (yX5_behindFieldUnits, cX5_behindFieldUnits, 3, (some .int))
abbrev YX5_behindMakerWeatherOrStock : Ym := (yX5_behindMakerWeatherOrStock, cX5_behindMakerWeatherOrStock, 4, (some .int))
abbrev YX5_behindMakerPrice : Ym := (yX5_behindMakerPrice, cX5_behindMakerPrice, 2, (some .int))
abbrev YX5_isFigure : Ym := (yX5_isFigure, cX5_isFigure, 1, (some .boolean))
abbrev YX5_weatherOf : Ym := (yX5_weatherOf, cX5_weatherOf, 1, (some .int))
abbrev YX6_init : Ym := (yX6_init, cX6_init, 2, none)
abbrev YX6_write : Ym := (yX6_write, cX6_write, 2, (some .int))
abbrev YX6_wipe : Ym := (yX6_wipe, cX6_wipe, 2, (some .int))
abbrev YX6_fault : Ym := (yX6_fault, cX6_fault, 1, (some .int))
abbrev YX6_tender : Ym := (yX6_tender, cX6_tender, 1, (some .int))
abbrev YX6_about : Ym := (yX6_about, cX6_about, 2, (some .int))
abbrev YX6_field : Ym := (yX6_field, cX6_field, 3, (some .int))
abbrev YX6_maker : Ym := (yX6_maker, cX6_maker, 3, (some .int))
abbrev YX6_reprice : Ym := (yX6_reprice, cX6_reprice, 3, (some .int))
abbrev YX6_restock : Ym := (yX6_restock, cX6_restock, 3, (some .int))
abbrev YX6_want : Ym := (yX6_want, cX6_want, 3, (some .int))
abbrev YX6_bear : Ym := (yX6_bear, cX6_bear, 2, (some .int))
abbrev YX6_undo : Ym := (yX6_undo, cX6_undo, 2, (some .int))
abbrev YX6_doNow : Ym := (yX6_doNow, cX6_doNow, 6, (some .int))
abbrev YX6_best : Ym := (yX6_best, cX6_best, 1, (some .int))
abbrev YX6_cost : Ym := (yX6_cost, cX6_cost, 6, (some .int))
abbrev YX6_gain : Ym := (yX6_gain, cX6_gain, 5, (some .int))
abbrev YX6_ran : Ym := (yX6_ran, cX6_ran, 2, (some .int))
abbrev YX6_least : Ym := (yX6_least, cX6_least, 2, (some .int))
abbrev YX6_most : Ym := (yX6_most, cX6_most, 2, (some .int))
abbrev YX6_holds : Ym := (yX6_holds, cX6_holds, 4, (some .int))
abbrev YX6_judge : Ym := (yX6_judge, cX6_judge, 5, (some .int))
abbrev YX6_share : Ym := (yX6_share, cX6_share, 9, (some .int))
abbrev YX6_see : Ym := (yX6_see, cX6_see, 4, (some .int))
abbrev YX6_unsee : Ym := (yX6_unsee, cX6_unsee, 2, (some .int))
abbrev YX6_which : Ym := (yX6_which, cX6_which, 6, (some .int))
abbrev YX6_gone : Ym := (yX6_gone, cX6_gone, 6, (some .int))
abbrev YX6_seed : Ym := (yX6_seed, cX6_seed, 5, (some .long))
abbrev YX6_drawn : Ym := (yX6_drawn, cX6_drawn, 5, (some .int))
abbrev YX6_keep : Ym := (yX6_keep, cX6_keep, 3, (some .int))
abbrev YX6_again : Ym := (yX6_again, cX6_again, 3, (some .int))
abbrev YX6_roomOf : Ym := (yX6_roomOf, cX6_roomOf, 2, (some (.object "SkyTenders$Tender")))
abbrev YX6_cheapest : Ym := (yX6_cheapest, cX6_cheapest, 3, (some .int))
abbrev YX6_serveFrom : Ym := (yX6_serveFrom, cX6_serveFrom, 7, none)
abbrev YX6_mostServed : Ym := (yX6_mostServed, cX6_mostServed, 3, (some .int))
abbrev YX6_countFrom : Ym := (yX6_countFrom, cX6_countFrom, 7, none)
abbrev YX6_unitsInBest : Ym := (yX6_unitsInBest, cX6_unitsInBest, 3, (some .int))
abbrev YX6_paidTo : Ym := (yX6_paidTo, cX6_paidTo, 7, (some .int))
abbrev YX6_runYears : Ym := (yX6_runYears, cX6_runYears, 5, none)
abbrev YX6_sharesOf : Ym := (yX6_sharesOf, cX6_sharesOf, 4, (some .int))
abbrev YX6_canBe : Ym := (yX6_canBe, cX6_canBe, 7, (some .boolean))
abbrev YX6_changesTrial : Ym := (yX6_changesTrial, cX6_changesTrial, 4, (some .boolean))
abbrev YX6_allSeenIsSo : Ym := (yX6_allSeenIsSo, cX6_allSeenIsSo, 6, (some .boolean))
abbrev YX6_chanceOfLeft : Ym := (yX6_chanceOfLeft, cX6_chanceOfLeft, 5, (some .int))
abbrev YX6_partOfFraction : Ym := (yX6_partOfFraction, cX6_partOfFraction, 7, (some .int))
abbrev YX6_spell : Ym := (yX6_spell, cX6_spell, 7, (some .boolean))
abbrev YX6_asFigures : Ym := (yX6_asFigures, cX6_asFigures, 4, (some .int))
abbrev YX7_init : Ym := (yX7_init, cX7_init, 1, none)
abbrev YX7_in : Ym := (yX7_in, cX7_in, 6, (some .boolean))
abbrev YX7_has : Ym := (yX7_has, cX7_has, 2, (some .boolean))
abbrev YX7_power : Ym := (yX7_power, cX7_power, 4, (some .int))
abbrev YX7_divisor : Ym := (yX7_divisor, cX7_divisor, 5, (some .int))
abbrev YX7_fraction : Ym := (yX7_fraction, cX7_fraction, 4, (some .int))
abbrev YX7_isField : Ym := (yX7_isField, cX7_isField, 2, (some .boolean))
abbrev YX7_isMaker : Ym := (yX7_isMaker, cX7_isMaker, 2, (some .boolean))
abbrev YX7_allMakers : Ym := (yX7_allMakers, cX7_allMakers, 1, (some .int))
abbrev YX7_write : Ym := (yX7_write, cX7_write, 2, (some .int))
abbrev YX7_wipe : Ym := (yX7_wipe, cX7_wipe, 2, (some .int))
abbrev YX7_weatherOf : Ym := (yX7_weatherOf, cX7_weatherOf, 1, (some .int))
abbrev YX7_take : Ym := (yX7_take, cX7_take, 4, (some .boolean))
abbrev YX7_takePart : Ym := (yX7_takePart, cX7_takePart, 2, (some .boolean))
abbrev YX7_takeMore : Ym := (yX7_takeMore, cX7_takeMore, 4, (some .boolean))
abbrev YX7_readText : Ym := (yX7_readText, cX7_readText, 2, (some .int))
abbrev YX7_fault : Ym := (yX7_fault, cX7_fault, 1, (some .int))
abbrev YX7_tender : Ym := (yX7_tender, cX7_tender, 2, (some .int))
abbrev YX7_servedBy : Ym := (yX7_servedBy, cX7_servedBy, 5, (some .int))
abbrev YX7_mayServe : Ym := (yX7_mayServe, cX7_mayServe, 8, (some .boolean))
abbrev YX7_costOf : Ym := (yX7_costOf, cX7_costOf, 10, (some .int))
abbrev YX7_find : Ym := (yX7_find, cX7_find, 5, none)
abbrev YX7_leastBy : Ym := (yX7_leastBy, cX7_leastBy, 3, (some .int))
abbrev YX7_unitsOf : Ym := (yX7_unitsOf, cX7_unitsOf, 5, (some .int))
abbrev YX7_paid : Ym := (yX7_paid, cX7_paid, 5, (some .int))
abbrev YX7_mostOf : Ym := (yX7_mostOf, cX7_mostOf, 7, (some .int))
abbrev YX7_run : Ym := (yX7_run, cX7_run, 4, none)
abbrev YX7_layTrial : Ym := (yX7_layTrial, cX7_layTrial, 2, none)
abbrev YX7_about : Ym := (yX7_about, cX7_about, 2, (some .int))
abbrev YX7_field : Ym := (yX7_field, cX7_field, 3, (some .int))
abbrev YX7_maker : Ym := (yX7_maker, cX7_maker, 3, (some .int))
abbrev YX7_change : Ym := (yX7_change, cX7_change, 4, none)
abbrev YX7_reprice : Ym := (yX7_reprice, cX7_reprice, 4, (some .int))
abbrev YX7_restock : Ym := (yX7_restock, cX7_restock, 4, (some .int))
abbrev YX7_want : Ym := (yX7_want, cX7_want, 4, (some .int))
abbrev YX7_bear : Ym := (yX7_bear, cX7_bear, 3, (some .int))
abbrev YX7_undo : Ym := (yX7_undo, cX7_undo, 2, (some .int))
abbrev YX7_best : Ym := (yX7_best, cX7_best, 3, (some .int))
abbrev YX7_cost : Ym := (yX7_cost, cX7_cost, 6, (some .int))
abbrev YX7_gain : Ym := (yX7_gain, cX7_gain, 4, (some .int))
abbrev YX7_ran : Ym := (yX7_ran, cX7_ran, 4, (some .int))
abbrev YX7_least : Ym := (yX7_least, cX7_least, 2, (some .int))
abbrev YX7_most : Ym := (yX7_most, cX7_most, 2, (some .int))
abbrev YX7_sharesOf : Ym := (yX7_sharesOf, cX7_sharesOf, 5, (some .int))
abbrev YX7_holds : Ym := (yX7_holds, cX7_holds, 3, (some .int))
abbrev YX7_judged : Ym := (yX7_judged, cX7_judged, 5, (some .boolean))
abbrev YX7_tenThousands : Ym := (yX7_tenThousands, cX7_tenThousands, 4, (some .long))
abbrev YX7_judge : Ym := (yX7_judge, cX7_judge, 6, (some .int))
abbrev YX7_makerAt : Ym := (yX7_makerAt, cX7_makerAt, 2, (some .int))
abbrev YX7_isOrder : Ym := (yX7_isOrder, cX7_isOrder, 4, (some .boolean))
abbrev YX7_share : Ym := (yX7_share, cX7_share, 8, (some .int))
abbrev YX7_see : Ym := (yX7_see, cX7_see, 4, (some .int))
abbrev YX7_unsee : Ym := (yX7_unsee, cX7_unsee, 2, (some .int))
abbrev YX7_agrees : Ym := (yX7_agrees, cX7_agrees, 4, (some .boolean))
abbrev YX7_which : Ym := (yX7_which, cX7_which, 6, (some .int))
abbrev YX7_gone : Ym := (yX7_gone, cX7_gone, 7, (some .int))
abbrev YX7_seed : Ym := (yX7_seed, cX7_seed, 5, (some .long))
abbrev YX7_drawn : Ym := (yX7_drawn, cX7_drawn, 5, (some .int))
abbrev YX7_keep : Ym := (yX7_keep, cX7_keep, 3, (some .int))
abbrev YX7_again : Ym := (yX7_again, cX7_again, 3, (some .int))
abbrev YJ6_bitCount_0f7a4 : Ym := (yJ6_bitCount_0f7a4, cJ6_bitCount_0f7a4, 1, (some .int))
abbrev YL_law : Ym := (x, code, maxLocals, ret)
theorem gX0 : ∀ w ∈ u_ws RX0 TX0 4, w ∈ gtbl := fun w h => g_in (iX0 w h) (List.all_eq_true.mp (show (u_ws RX0 TX0 4).all goodWord = true by decide +kernel) w h)
theorem gX1 : ∀ w ∈ u_ws RX1 TX1 3, w ∈ gtbl := fun w h => g_in (iX1 w h) (List.all_eq_true.mp (show (u_ws RX1 TX1 3).all goodWord = true by decide +kernel) w h)
theorem gX2 : ∀ w ∈ u_ws RX2 TX2 4, w ∈ gtbl := fun w h => g_in (iX2 w h) (List.all_eq_true.mp (show (u_ws RX2 TX2 4).all goodWord = true by decide +kernel) w h)
theorem gX3 : ∀ w ∈ u_ws RX3 TX3 4, w ∈ gtbl := fun w h => g_in (iX3 w h) (List.all_eq_true.mp (show (u_ws RX3 TX3 4).all goodWord = true by decide +kernel) w h)
theorem gX4 : ∀ w ∈ u_ws RX4 TX4 8, w ∈ gtbl := fun w h => g_in (iX4 w h) (List.all_eq_true.mp (show (u_ws RX4 TX4 8).all goodWord = true by decide +kernel) w h)
theorem gX5 : ∀ w ∈ u_ws RX5 TX5 2, w ∈ gtbl := fun w h => g_in (iX5 w h) (List.all_eq_true.mp (show (u_ws RX5 TX5 2).all goodWord = true by decide +kernel) w h)
theorem gX6 : ∀ w ∈ u_ws RX6 TX6 11, w ∈ gtbl := fun w h => g_in (iX6 w h) (List.all_eq_true.mp (show (u_ws RX6 TX6 11).all goodWord = true by decide +kernel) w h)
theorem gX7 : ∀ w ∈ u_ws RX7 TX7 31, w ∈ gtbl := fun w h => g_in (iX7 w h) (List.all_eq_true.mp (show (u_ws RX7 TX7 31).all goodWord = true by decide +kernel) w h)
theorem lL_9 (Y : Ym) (h : Y.1.cls = RL) : MtL Y 9 YX6_init := Or.inl (by rw [h]; exact g_in (List.mem_of_getElem? (i := 66) (by decide +kernel)) rfl)
theorem lX6_11 (Y : Ym) (h : Y.1.cls = RX6) : MtL Y 11 YX5_init := Or.inr ⟨"SkyTenders", by rw [h]; exact n_in (List.mem_of_getElem? (i := 74) (by decide +kernel)) rfl⟩
theorem fX5_9 (Y : Ym) (h : Y.1.cls = RX5) : Fld Y 9 5 0 := ⟨RX5, TX5, 2, tyX5, rfl, by decide, gX5, Or.inl (by rw [h]; exact g_in (List.mem_of_getElem? (i := 78) (by decide +kernel)) rfl), tyX5_ok, nmX5⟩
theorem fX6_74 (Y : Ym) (h : Y.1.cls = RX6) : Fld Y 74 5 0 := ⟨RX5, TX5, 2, tyX5, rfl, by decide, gX5, Or.inr ⟨"SkyTenders", by rw [h]; exact n_in (List.mem_of_getElem? (i := 79) (by decide +kernel)) rfl⟩, tyX5_ok, nmX5⟩
theorem fX5_15 (Y : Ym) (h : Y.1.cls = RX5) : Fld Y 15 5 1 := ⟨RX5, TX5, 2, tyX5, rfl, by decide, gX5, Or.inl (by rw [h]; exact g_in (List.mem_of_getElem? (i := 80) (by decide +kernel)) rfl), tyX5_ok, nmX5⟩
theorem lX6_18 (Y : Ym) (h : Y.1.cls = RX6) : MtL Y 18 YX4_init := Or.inr ⟨"SkyTenders", by rw [h]; exact n_in (List.mem_of_getElem? (i := 89) (by decide +kernel)) rfl⟩
theorem fX4_9 (Y : Ym) (h : Y.1.cls = RX4) : Fld Y 9 4 0 := ⟨RX4, TX4, 8, tyX4, rfl, by decide, gX4, Or.inl (by rw [h]; exact g_in (List.mem_of_getElem? (i := 93) (by decide +kernel)) rfl), tyX4_ok, nmX4⟩
theorem fX5_19 (Y : Ym) (h : Y.1.cls = RX5) : Fld Y 19 4 0 := ⟨RX4, TX4, 8, tyX4, rfl, by decide, gX4, Or.inr ⟨"SkyTenders", by rw [h]; exact n_in (List.mem_of_getElem? (i := 94) (by decide +kernel)) rfl⟩, tyX4_ok, nmX4⟩
theorem fX2_40 (Y : Ym) (h : Y.1.cls = RX2) : Fld Y 40 4 0 := ⟨RX4, TX4, 8, tyX4, rfl, by decide, gX4, Or.inr ⟨"SkyTenders", by rw [h]; exact n_in (List.mem_of_getElem? (i := 95) (by decide +kernel)) rfl⟩, tyX4_ok, nmX4⟩
theorem fX6_94 (Y : Ym) (h : Y.1.cls = RX6) : Fld Y 94 4 0 := ⟨RX4, TX4, 8, tyX4, rfl, by decide, gX4, Or.inr ⟨"SkyTenders", by rw [h]; exact n_in (List.mem_of_getElem? (i := 96) (by decide +kernel)) rfl⟩, tyX4_ok, nmX4⟩
theorem fX4_15 (Y : Ym) (h : Y.1.cls = RX4) : Fld Y 15 4 1 := ⟨RX4, TX4, 8, tyX4, rfl, by decide, gX4, Or.inl (by rw [h]; exact g_in (List.mem_of_getElem? (i := 97) (by decide +kernel)) rfl), tyX4_ok, nmX4⟩
theorem fX2_25 (Y : Ym) (h : Y.1.cls = RX2) : Fld Y 25 4 1 := ⟨RX4, TX4, 8, tyX4, rfl, by decide, gX4, Or.inr ⟨"SkyTenders", by rw [h]; exact n_in (List.mem_of_getElem? (i := 98) (by decide +kernel)) rfl⟩, tyX4_ok, nmX4⟩
theorem fX5_24 (Y : Ym) (h : Y.1.cls = RX5) : Fld Y 24 4 1 := ⟨RX4, TX4, 8, tyX4, rfl, by decide, gX4, Or.inr ⟨"SkyTenders", by rw [h]; exact n_in (List.mem_of_getElem? (i := 99) (by decide +kernel)) rfl⟩, tyX4_ok, nmX4⟩
theorem fX6_91 (Y : Ym) (h : Y.1.cls = RX6) : Fld Y 91 4 1 := ⟨RX4, TX4, 8, tyX4, rfl, by decide, gX4, Or.inr ⟨"SkyTenders", by rw [h]; exact n_in (List.mem_of_getElem? (i := 100) (by decide +kernel)) rfl⟩, tyX4_ok, nmX4⟩
theorem fX4_18 (Y : Ym) (h : Y.1.cls = RX4) : Fld Y 18 4 2 := ⟨RX4, TX4, 8, tyX4, rfl, by decide, gX4, Or.inl (by rw [h]; exact g_in (List.mem_of_getElem? (i := 101) (by decide +kernel)) rfl), tyX4_ok, nmX4⟩
theorem fX6_81 (Y : Ym) (h : Y.1.cls = RX6) : Fld Y 81 4 2 := ⟨RX4, TX4, 8, tyX4, rfl, by decide, gX4, Or.inr ⟨"SkyTenders", by rw [h]; exact n_in (List.mem_of_getElem? (i := 102) (by decide +kernel)) rfl⟩, tyX4_ok, nmX4⟩
theorem fX4_21 (Y : Ym) (h : Y.1.cls = RX4) : Fld Y 21 4 3 := ⟨RX4, TX4, 8, tyX4, rfl, by decide, gX4, Or.inl (by rw [h]; exact g_in (List.mem_of_getElem? (i := 103) (by decide +kernel)) rfl), tyX4_ok, nmX4⟩
theorem fX5_54 (Y : Ym) (h : Y.1.cls = RX5) : Fld Y 54 4 3 := ⟨RX4, TX4, 8, tyX4, rfl, by decide, gX4, Or.inr ⟨"SkyTenders", by rw [h]; exact n_in (List.mem_of_getElem? (i := 104) (by decide +kernel)) rfl⟩, tyX4_ok, nmX4⟩
theorem fX6_118 (Y : Ym) (h : Y.1.cls = RX6) : Fld Y 118 4 3 := ⟨RX4, TX4, 8, tyX4, rfl, by decide, gX4, Or.inr ⟨"SkyTenders", by rw [h]; exact n_in (List.mem_of_getElem? (i := 105) (by decide +kernel)) rfl⟩, tyX4_ok, nmX4⟩
theorem fX4_25 (Y : Ym) (h : Y.1.cls = RX4) : Fld Y 25 4 4 := ⟨RX4, TX4, 8, tyX4, rfl, by decide, gX4, Or.inl (by rw [h]; exact g_in (List.mem_of_getElem? (i := 106) (by decide +kernel)) rfl), tyX4_ok, nmX4⟩
theorem fX2_37 (Y : Ym) (h : Y.1.cls = RX2) : Fld Y 37 4 4 := ⟨RX4, TX4, 8, tyX4, rfl, by decide, gX4, Or.inr ⟨"SkyTenders", by rw [h]; exact n_in (List.mem_of_getElem? (i := 107) (by decide +kernel)) rfl⟩, tyX4_ok, nmX4⟩
theorem fX5_57 (Y : Ym) (h : Y.1.cls = RX5) : Fld Y 57 4 4 := ⟨RX4, TX4, 8, tyX4, rfl, by decide, gX4, Or.inr ⟨"SkyTenders", by rw [h]; exact n_in (List.mem_of_getElem? (i := 108) (by decide +kernel)) rfl⟩, tyX4_ok, nmX4⟩
theorem fX6_121 (Y : Ym) (h : Y.1.cls = RX6) : Fld Y 121 4 4 := ⟨RX4, TX4, 8, tyX4, rfl, by decide, gX4, Or.inr ⟨"SkyTenders", by rw [h]; exact n_in (List.mem_of_getElem? (i := 109) (by decide +kernel)) rfl⟩, tyX4_ok, nmX4⟩
theorem fX4_28 (Y : Ym) (h : Y.1.cls = RX4) : Fld Y 28 4 5 := ⟨RX4, TX4, 8, tyX4, rfl, by decide, gX4, Or.inl (by rw [h]; exact g_in (List.mem_of_getElem? (i := 110) (by decide +kernel)) rfl), tyX4_ok, nmX4⟩
theorem fX5_47 (Y : Ym) (h : Y.1.cls = RX5) : Fld Y 47 4 5 := ⟨RX4, TX4, 8, tyX4, rfl, by decide, gX4, Or.inr ⟨"SkyTenders", by rw [h]; exact n_in (List.mem_of_getElem? (i := 111) (by decide +kernel)) rfl⟩, tyX4_ok, nmX4⟩
theorem fX6_130 (Y : Ym) (h : Y.1.cls = RX6) : Fld Y 130 4 5 := ⟨RX4, TX4, 8, tyX4, rfl, by decide, gX4, Or.inr ⟨"SkyTenders", by rw [h]; exact n_in (List.mem_of_getElem? (i := 112) (by decide +kernel)) rfl⟩, tyX4_ok, nmX4⟩
theorem fX4_31 (Y : Ym) (h : Y.1.cls = RX4) : Fld Y 31 4 6 := ⟨RX4, TX4, 8, tyX4, rfl, by decide, gX4, Or.inl (by rw [h]; exact g_in (List.mem_of_getElem? (i := 113) (by decide +kernel)) rfl), tyX4_ok, nmX4⟩
theorem fX2_30 (Y : Ym) (h : Y.1.cls = RX2) : Fld Y 30 4 6 := ⟨RX4, TX4, 8, tyX4, rfl, by decide, gX4, Or.inr ⟨"SkyTenders", by rw [h]; exact n_in (List.mem_of_getElem? (i := 114) (by decide +kernel)) rfl⟩, tyX4_ok, nmX4⟩
theorem fX5_64 (Y : Ym) (h : Y.1.cls = RX5) : Fld Y 64 4 6 := ⟨RX4, TX4, 8, tyX4, rfl, by decide, gX4, Or.inr ⟨"SkyTenders", by rw [h]; exact n_in (List.mem_of_getElem? (i := 115) (by decide +kernel)) rfl⟩, tyX4_ok, nmX4⟩
theorem fX6_133 (Y : Ym) (h : Y.1.cls = RX6) : Fld Y 133 4 6 := ⟨RX4, TX4, 8, tyX4, rfl, by decide, gX4, Or.inr ⟨"SkyTenders", by rw [h]; exact n_in (List.mem_of_getElem? (i := 116) (by decide +kernel)) rfl⟩, tyX4_ok, nmX4⟩
theorem fX4_34 (Y : Ym) (h : Y.1.cls = RX4) : Fld Y 34 4 7 := ⟨RX4, TX4, 8, tyX4, rfl, by decide, gX4, Or.inl (by rw [h]; exact g_in (List.mem_of_getElem? (i := 117) (by decide +kernel)) rfl), tyX4_ok, nmX4⟩
theorem fX6_136 (Y : Ym) (h : Y.1.cls = RX6) : Fld Y 136 4 7 := ⟨RX4, TX4, 8, tyX4, rfl, by decide, gX4, Or.inr ⟨"SkyTenders", by rw [h]; exact n_in (List.mem_of_getElem? (i := 118) (by decide +kernel)) rfl⟩, tyX4_ok, nmX4⟩
theorem fX5_67 (Y : Ym) (h : Y.1.cls = RX5) : Fld Y 67 4 7 := ⟨RX4, TX4, 8, tyX4, rfl, by decide, gX4, Or.inr ⟨"SkyTenders", by rw [h]; exact n_in (List.mem_of_getElem? (i := 119) (by decide +kernel)) rfl⟩, tyX4_ok, nmX4⟩
theorem lX6_28 (Y : Ym) (h : Y.1.cls = RX6) : MtL Y 28 YX2_init := Or.inr ⟨"SkyTenders", by rw [h]; exact n_in (List.mem_of_getElem? (i := 139) (by decide +kernel)) rfl⟩
theorem fX2_9 (Y : Ym) (h : Y.1.cls = RX2) : Fld Y 9 2 0 := ⟨RX2, TX2, 4, tyX2, rfl, by decide, gX2, Or.inl (by rw [h]; exact g_in (List.mem_of_getElem? (i := 143) (by decide +kernel)) rfl), tyX2_ok, nmX2⟩
theorem fX6_239 (Y : Ym) (h : Y.1.cls = RX6) : Fld Y 239 2 0 := ⟨RX2, TX2, 4, tyX2, rfl, by decide, gX2, Or.inr ⟨"SkyTenders", by rw [h]; exact n_in (List.mem_of_getElem? (i := 144) (by decide +kernel)) rfl⟩, tyX2_ok, nmX2⟩
theorem fX2_15 (Y : Ym) (h : Y.1.cls = RX2) : Fld Y 15 2 1 := ⟨RX2, TX2, 4, tyX2, rfl, by decide, gX2, Or.inl (by rw [h]; exact g_in (List.mem_of_getElem? (i := 145) (by decide +kernel)) rfl), tyX2_ok, nmX2⟩
theorem fX6_124 (Y : Ym) (h : Y.1.cls = RX6) : Fld Y 124 2 1 := ⟨RX2, TX2, 4, tyX2, rfl, by decide, gX2, Or.inr ⟨"SkyTenders", by rw [h]; exact n_in (List.mem_of_getElem? (i := 146) (by decide +kernel)) rfl⟩, tyX2_ok, nmX2⟩
theorem fX2_19 (Y : Ym) (h : Y.1.cls = RX2) : Fld Y 19 2 2 := ⟨RX2, TX2, 4, tyX2, rfl, by decide, gX2, Or.inl (by rw [h]; exact g_in (List.mem_of_getElem? (i := 147) (by decide +kernel)) rfl), tyX2_ok, nmX2⟩
theorem fX6_250 (Y : Ym) (h : Y.1.cls = RX6) : Fld Y 250 2 2 := ⟨RX2, TX2, 4, tyX2, rfl, by decide, gX2, Or.inr ⟨"SkyTenders", by rw [h]; exact n_in (List.mem_of_getElem? (i := 148) (by decide +kernel)) rfl⟩, tyX2_ok, nmX2⟩
theorem fX2_22 (Y : Ym) (h : Y.1.cls = RX2) : Fld Y 22 2 3 := ⟨RX2, TX2, 4, tyX2, rfl, by decide, gX2, Or.inl (by rw [h]; exact g_in (List.mem_of_getElem? (i := 149) (by decide +kernel)) rfl), tyX2_ok, nmX2⟩
theorem fX6_187 (Y : Ym) (h : Y.1.cls = RX6) : Fld Y 187 2 3 := ⟨RX2, TX2, 4, tyX2, rfl, by decide, gX2, Or.inr ⟨"SkyTenders", by rw [h]; exact n_in (List.mem_of_getElem? (i := 150) (by decide +kernel)) rfl⟩, tyX2_ok, nmX2⟩
theorem lX6_35 (Y : Ym) (h : Y.1.cls = RX6) : MtL Y 35 YX1_init := Or.inr ⟨"SkyTenders", by rw [h]; exact n_in (List.mem_of_getElem? (i := 162) (by decide +kernel)) rfl⟩
theorem fX1_9 (Y : Ym) (h : Y.1.cls = RX1) : Fld Y 9 1 0 := ⟨RX1, TX1, 3, tyX1, rfl, by decide, gX1, Or.inl (by rw [h]; exact g_in (List.mem_of_getElem? (i := 166) (by decide +kernel)) rfl), tyX1_ok, nmX1⟩
theorem fX6_111 (Y : Ym) (h : Y.1.cls = RX6) : Fld Y 111 1 0 := ⟨RX1, TX1, 3, tyX1, rfl, by decide, gX1, Or.inr ⟨"SkyTenders", by rw [h]; exact n_in (List.mem_of_getElem? (i := 167) (by decide +kernel)) rfl⟩, tyX1_ok, nmX1⟩
theorem fX1_15 (Y : Ym) (h : Y.1.cls = RX1) : Fld Y 15 1 1 := ⟨RX1, TX1, 3, tyX1, rfl, by decide, gX1, Or.inl (by rw [h]; exact g_in (List.mem_of_getElem? (i := 168) (by decide +kernel)) rfl), tyX1_ok, nmX1⟩
theorem fX6_193 (Y : Ym) (h : Y.1.cls = RX6) : Fld Y 193 1 1 := ⟨RX1, TX1, 3, tyX1, rfl, by decide, gX1, Or.inr ⟨"SkyTenders", by rw [h]; exact n_in (List.mem_of_getElem? (i := 169) (by decide +kernel)) rfl⟩, tyX1_ok, nmX1⟩
theorem fX1_18 (Y : Ym) (h : Y.1.cls = RX1) : Fld Y 18 1 2 := ⟨RX1, TX1, 3, tyX1, rfl, by decide, gX1, Or.inl (by rw [h]; exact g_in (List.mem_of_getElem? (i := 170) (by decide +kernel)) rfl), tyX1_ok, nmX1⟩
theorem fX6_190 (Y : Ym) (h : Y.1.cls = RX6) : Fld Y 190 1 2 := ⟨RX1, TX1, 3, tyX1, rfl, by decide, gX1, Or.inr ⟨"SkyTenders", by rw [h]; exact n_in (List.mem_of_getElem? (i := 171) (by decide +kernel)) rfl⟩, tyX1_ok, nmX1⟩
theorem lX6_42 (Y : Ym) (h : Y.1.cls = RX6) : MtL Y 42 YX0_init := Or.inr ⟨"SkyTenders", by rw [h]; exact n_in (List.mem_of_getElem? (i := 181) (by decide +kernel)) rfl⟩
theorem fX0_9 (Y : Ym) (h : Y.1.cls = RX0) : Fld Y 9 0 0 := ⟨RX0, TX0, 4, tyX0, rfl, by decide, gX0, Or.inl (by rw [h]; exact g_in (List.mem_of_getElem? (i := 185) (by decide +kernel)) rfl), tyX0_ok, nmX0⟩
theorem fX6_88 (Y : Ym) (h : Y.1.cls = RX6) : Fld Y 88 0 0 := ⟨RX0, TX0, 4, tyX0, rfl, by decide, gX0, Or.inr ⟨"SkyTenders", by rw [h]; exact n_in (List.mem_of_getElem? (i := 186) (by decide +kernel)) rfl⟩, tyX0_ok, nmX0⟩
theorem fX0_15 (Y : Ym) (h : Y.1.cls = RX0) : Fld Y 15 0 1 := ⟨RX0, TX0, 4, tyX0, rfl, by decide, gX0, Or.inl (by rw [h]; exact g_in (List.mem_of_getElem? (i := 187) (by decide +kernel)) rfl), tyX0_ok, nmX0⟩
theorem fX6_149 (Y : Ym) (h : Y.1.cls = RX6) : Fld Y 149 0 1 := ⟨RX0, TX0, 4, tyX0, rfl, by decide, gX0, Or.inr ⟨"SkyTenders", by rw [h]; exact n_in (List.mem_of_getElem? (i := 188) (by decide +kernel)) rfl⟩, tyX0_ok, nmX0⟩
theorem fX0_19 (Y : Ym) (h : Y.1.cls = RX0) : Fld Y 19 0 2 := ⟨RX0, TX0, 4, tyX0, rfl, by decide, gX0, Or.inl (by rw [h]; exact g_in (List.mem_of_getElem? (i := 189) (by decide +kernel)) rfl), tyX0_ok, nmX0⟩
theorem fX6_152 (Y : Ym) (h : Y.1.cls = RX6) : Fld Y 152 0 2 := ⟨RX0, TX0, 4, tyX0, rfl, by decide, gX0, Or.inr ⟨"SkyTenders", by rw [h]; exact n_in (List.mem_of_getElem? (i := 190) (by decide +kernel)) rfl⟩, tyX0_ok, nmX0⟩
theorem fX0_22 (Y : Ym) (h : Y.1.cls = RX0) : Fld Y 22 0 3 := ⟨RX0, TX0, 4, tyX0, rfl, by decide, gX0, Or.inl (by rw [h]; exact g_in (List.mem_of_getElem? (i := 191) (by decide +kernel)) rfl), tyX0_ok, nmX0⟩
theorem fX6_155 (Y : Ym) (h : Y.1.cls = RX6) : Fld Y 155 0 3 := ⟨RX0, TX0, 4, tyX0, rfl, by decide, gX0, Or.inr ⟨"SkyTenders", by rw [h]; exact n_in (List.mem_of_getElem? (i := 192) (by decide +kernel)) rfl⟩, tyX0_ok, nmX0⟩
theorem lX6_49 (Y : Ym) (h : Y.1.cls = RX6) : MtL Y 49 YX3_init := Or.inr ⟨"SkyTenders", by rw [h]; exact n_in (List.mem_of_getElem? (i := 204) (by decide +kernel)) rfl⟩
theorem fX3_9 (Y : Ym) (h : Y.1.cls = RX3) : Fld Y 9 3 0 := ⟨RX3, TX3, 4, tyX3, rfl, by decide, gX3, Or.inl (by rw [h]; exact g_in (List.mem_of_getElem? (i := 208) (by decide +kernel)) rfl), tyX3_ok, nmX3⟩
theorem fX6_114 (Y : Ym) (h : Y.1.cls = RX6) : Fld Y 114 3 0 := ⟨RX3, TX3, 4, tyX3, rfl, by decide, gX3, Or.inr ⟨"SkyTenders", by rw [h]; exact n_in (List.mem_of_getElem? (i := 209) (by decide +kernel)) rfl⟩, tyX3_ok, nmX3⟩
theorem fX3_15 (Y : Ym) (h : Y.1.cls = RX3) : Fld Y 15 3 1 := ⟨RX3, TX3, 4, tyX3, rfl, by decide, gX3, Or.inl (by rw [h]; exact g_in (List.mem_of_getElem? (i := 210) (by decide +kernel)) rfl), tyX3_ok, nmX3⟩
theorem fX6_266 (Y : Ym) (h : Y.1.cls = RX6) : Fld Y 266 3 1 := ⟨RX3, TX3, 4, tyX3, rfl, by decide, gX3, Or.inr ⟨"SkyTenders", by rw [h]; exact n_in (List.mem_of_getElem? (i := 211) (by decide +kernel)) rfl⟩, tyX3_ok, nmX3⟩
theorem fX3_19 (Y : Ym) (h : Y.1.cls = RX3) : Fld Y 19 3 2 := ⟨RX3, TX3, 4, tyX3, rfl, by decide, gX3, Or.inl (by rw [h]; exact g_in (List.mem_of_getElem? (i := 212) (by decide +kernel)) rfl), tyX3_ok, nmX3⟩
theorem fX6_269 (Y : Ym) (h : Y.1.cls = RX6) : Fld Y 269 3 2 := ⟨RX3, TX3, 4, tyX3, rfl, by decide, gX3, Or.inr ⟨"SkyTenders", by rw [h]; exact n_in (List.mem_of_getElem? (i := 213) (by decide +kernel)) rfl⟩, tyX3_ok, nmX3⟩
theorem fX3_22 (Y : Ym) (h : Y.1.cls = RX3) : Fld Y 22 3 3 := ⟨RX3, TX3, 4, tyX3, rfl, by decide, gX3, Or.inl (by rw [h]; exact g_in (List.mem_of_getElem? (i := 214) (by decide +kernel)) rfl), tyX3_ok, nmX3⟩
theorem fX6_270 (Y : Ym) (h : Y.1.cls = RX6) : Fld Y 270 3 3 := ⟨RX3, TX3, 4, tyX3, rfl, by decide, gX3, Or.inr ⟨"SkyTenders", by rw [h]; exact n_in (List.mem_of_getElem? (i := 215) (by decide +kernel)) rfl⟩, tyX3_ok, nmX3⟩
theorem fX6_12 (Y : Ym) (h : Y.1.cls = RX6) : Fld Y 12 6 0 := ⟨RX6, TX6, 11, tyX6, rfl, by decide, gX6, Or.inl (by rw [h]; exact g_in (List.mem_of_getElem? (i := 227) (by decide +kernel)) rfl), tyX6_ok, nmX6⟩
theorem fX6_19 (Y : Ym) (h : Y.1.cls = RX6) : Fld Y 19 6 1 := ⟨RX6, TX6, 11, tyX6, rfl, by decide, gX6, Or.inl (by rw [h]; exact g_in (List.mem_of_getElem? (i := 228) (by decide +kernel)) rfl), tyX6_ok, nmX6⟩
theorem fX6_23 (Y : Ym) (h : Y.1.cls = RX6) : Fld Y 23 6 2 := ⟨RX6, TX6, 11, tyX6, rfl, by decide, gX6, Or.inl (by rw [h]; exact g_in (List.mem_of_getElem? (i := 229) (by decide +kernel)) rfl), tyX6_ok, nmX6⟩
theorem fX6_29 (Y : Ym) (h : Y.1.cls = RX6) : Fld Y 29 6 3 := ⟨RX6, TX6, 11, tyX6, rfl, by decide, gX6, Or.inl (by rw [h]; exact g_in (List.mem_of_getElem? (i := 230) (by decide +kernel)) rfl), tyX6_ok, nmX6⟩
theorem fX6_36 (Y : Ym) (h : Y.1.cls = RX6) : Fld Y 36 6 4 := ⟨RX6, TX6, 11, tyX6, rfl, by decide, gX6, Or.inl (by rw [h]; exact g_in (List.mem_of_getElem? (i := 231) (by decide +kernel)) rfl), tyX6_ok, nmX6⟩
theorem fX6_43 (Y : Ym) (h : Y.1.cls = RX6) : Fld Y 43 6 5 := ⟨RX6, TX6, 11, tyX6, rfl, by decide, gX6, Or.inl (by rw [h]; exact g_in (List.mem_of_getElem? (i := 232) (by decide +kernel)) rfl), tyX6_ok, nmX6⟩
theorem fX6_50 (Y : Ym) (h : Y.1.cls = RX6) : Fld Y 50 6 6 := ⟨RX6, TX6, 11, tyX6, rfl, by decide, gX6, Or.inl (by rw [h]; exact g_in (List.mem_of_getElem? (i := 233) (by decide +kernel)) rfl), tyX6_ok, nmX6⟩
theorem fX6_54 (Y : Ym) (h : Y.1.cls = RX6) : Fld Y 54 6 7 := ⟨RX6, TX6, 11, tyX6, rfl, by decide, gX6, Or.inl (by rw [h]; exact g_in (List.mem_of_getElem? (i := 234) (by decide +kernel)) rfl), tyX6_ok, nmX6⟩
theorem fX6_58 (Y : Ym) (h : Y.1.cls = RX6) : Fld Y 58 6 8 := ⟨RX6, TX6, 11, tyX6, rfl, by decide, gX6, Or.inl (by rw [h]; exact g_in (List.mem_of_getElem? (i := 235) (by decide +kernel)) rfl), tyX6_ok, nmX6⟩
theorem fX6_62 (Y : Ym) (h : Y.1.cls = RX6) : Fld Y 62 6 9 := ⟨RX6, TX6, 11, tyX6, rfl, by decide, gX6, Or.inl (by rw [h]; exact g_in (List.mem_of_getElem? (i := 236) (by decide +kernel)) rfl), tyX6_ok, nmX6⟩
theorem fX6_66 (Y : Ym) (h : Y.1.cls = RX6) : Fld Y 66 6 10 := ⟨RX6, TX6, 11, tyX6, rfl, by decide, gX6, Or.inl (by rw [h]; exact g_in (List.mem_of_getElem? (i := 237) (by decide +kernel)) rfl), tyX6_ok, nmX6⟩
theorem lL_13 (Y : Ym) (h : Y.1.cls = RL) : MtL Y 13 YX6_write := Or.inl (by rw [h]; exact g_in (List.mem_of_getElem? (i := 261) (by decide +kernel)) rfl)
theorem lX6_70 (Y : Ym) (h : Y.1.cls = RX6) : MtL Y 70 YX5_append := Or.inr ⟨"SkyTenders", by rw [h]; exact n_in (List.mem_of_getElem? (i := 265) (by decide +kernel)) rfl⟩
theorem lL_18 (Y : Ym) (h : Y.1.cls = RL) : MtL Y 18 YX6_wipe := Or.inl (by rw [h]; exact g_in (List.mem_of_getElem? (i := 269) (by decide +kernel)) rfl)
theorem lL_23 (Y : Ym) (h : Y.1.cls = RL) : MtL Y 23 YX6_fault := Or.inl (by rw [h]; exact g_in (List.mem_of_getElem? (i := 273) (by decide +kernel)) rfl)
theorem lX6_77 (Y : Ym) (h : Y.1.cls = RX6) : MtL Y 77 YX5_readInto := Or.inr ⟨"SkyTenders", by rw [h]; exact n_in (List.mem_of_getElem? (i := 277) (by decide +kernel)) rfl⟩
theorem lX5_27 (Y : Ym) (h : Y.1.cls = RX5) : MtL Y 27 YX5_behind := Or.inl (by rw [h]; exact g_in (List.mem_of_getElem? (i := 281) (by decide +kernel)) rfl)
theorem lX5_31 (Y : Ym) (h : Y.1.cls = RX5) : MtL Y 31 YX5_behindHead := Or.inl (by rw [h]; exact g_in (List.mem_of_getElem? (i := 284) (by decide +kernel)) rfl)
theorem lX5_35 (Y : Ym) (h : Y.1.cls = RX5) : MtL Y 35 YX5_behindFieldWeather := Or.inl (by rw [h]; exact g_in (List.mem_of_getElem? (i := 287) (by decide +kernel)) rfl)
theorem lX5_50 (Y : Ym) (h : Y.1.cls = RX5) : MtL Y 50 YX5_weatherOf := Or.inl (by rw [h]; exact g_in (List.mem_of_getElem? (i := 290) (by decide +kernel)) rfl)
theorem lX5_38 (Y : Ym) (h : Y.1.cls = RX5) : MtL Y 38 YX5_behindFieldUnits := Or.inl (by rw [h]; exact g_in (List.mem_of_getElem? (i := 293) (by decide +kernel)) rfl)
theorem lX5_41 (Y : Ym) (h : Y.1.cls = RX5) : MtL Y 41 YX5_behindMakerWeatherOrStock := Or.inl (by rw [h]; exact g_in (List.mem_of_getElem? (i := 296) (by decide +kernel)) rfl)
theorem lX5_60 (Y : Ym) (h : Y.1.cls = RX5) : MtL Y 60 YX5_isFigure := Or.inl (by rw [h]; exact g_in (List.mem_of_getElem? (i := 299) (by decide +kernel)) rfl)
theorem lX5_44 (Y : Ym) (h : Y.1.cls = RX5) : MtL Y 44 YX5_behindMakerPrice := Or.inl (by rw [h]; exact g_in (List.mem_of_getElem? (i := 302) (by decide +kernel)) rfl)
theorem lL_27 (Y : Ym) (h : Y.1.cls = RL) : MtL Y 27 YX6_tender := Or.inl (by rw [h]; exact g_in (List.mem_of_getElem? (i := 305) (by decide +kernel)) rfl)
theorem lX6_84 (Y : Ym) (h : Y.1.cls = RX6) : MtL Y 84 YX4_become := Or.inr ⟨"SkyTenders", by rw [h]; exact n_in (List.mem_of_getElem? (i := 309) (by decide +kernel)) rfl⟩
theorem lL_31 (Y : Ym) (h : Y.1.cls = RL) : MtL Y 31 YX6_about := Or.inl (by rw [h]; exact g_in (List.mem_of_getElem? (i := 313) (by decide +kernel)) rfl)
theorem lX6_97 (Y : Ym) (h : Y.1.cls = RX6) : MtL Y 97 YX4_allMakers := Or.inr ⟨"SkyTenders", by rw [h]; exact n_in (List.mem_of_getElem? (i := 317) (by decide +kernel)) rfl⟩
theorem lX6_101 (Y : Ym) (h : Y.1.cls = RX6) : MtL Y 101 YX6_cheapest := Or.inl (by rw [h]; exact g_in (List.mem_of_getElem? (i := 321) (by decide +kernel)) rfl)
theorem lX6_176 (Y : Ym) (h : Y.1.cls = RX6) : MtL Y 176 YX2_stockUp := Or.inr ⟨"SkyTenders", by rw [h]; exact n_in (List.mem_of_getElem? (i := 325) (by decide +kernel)) rfl⟩
theorem lX6_242 (Y : Ym) (h : Y.1.cls = RX6) : MtL Y 242 YX6_serveFrom := Or.inl (by rw [h]; exact g_in (List.mem_of_getElem? (i := 329) (by decide +kernel)) rfl)
theorem lX6_246 (Y : Ym) (h : Y.1.cls = RX6) : MtL Y 246 YX2_takeTried := Or.inr ⟨"SkyTenders", by rw [h]; exact n_in (List.mem_of_getElem? (i := 332) (by decide +kernel)) rfl⟩
theorem lX6_183 (Y : Ym) (h : Y.1.cls = RX6) : MtL Y 183 YX2_canServe := Or.inr ⟨"SkyTenders", by rw [h]; exact n_in (List.mem_of_getElem? (i := 336) (by decide +kernel)) rfl⟩
theorem lX2_33 (Y : Ym) (h : Y.1.cls = RX2) : MtL Y 33 YX4_makes := Or.inr ⟨"SkyTenders", by rw [h]; exact n_in (List.mem_of_getElem? (i := 340) (by decide +kernel)) rfl⟩
theorem lX6_180 (Y : Ym) (h : Y.1.cls = RX6) : MtL Y 180 YX4_couldBeSecondHand := Or.inr ⟨"SkyTenders", by rw [h]; exact n_in (List.mem_of_getElem? (i := 344) (by decide +kernel)) rfl⟩
theorem lX6_105 (Y : Ym) (h : Y.1.cls = RX6) : MtL Y 105 YX6_mostServed := Or.inl (by rw [h]; exact g_in (List.mem_of_getElem? (i := 348) (by decide +kernel)) rfl)
theorem lX6_253 (Y : Ym) (h : Y.1.cls = RX6) : MtL Y 253 YX6_countFrom := Or.inl (by rw [h]; exact g_in (List.mem_of_getElem? (i := 352) (by decide +kernel)) rfl)
theorem lX6_108 (Y : Ym) (h : Y.1.cls = RX6) : MtL Y 108 YX6_runYears := Or.inl (by rw [h]; exact g_in (List.mem_of_getElem? (i := 355) (by decide +kernel)) rfl)
theorem lX6_259 (Y : Ym) (h : Y.1.cls = RX6) : MtL Y 259 YX2_smells := Or.inr ⟨"SkyTenders", by rw [h]; exact n_in (List.mem_of_getElem? (i := 359) (by decide +kernel)) rfl⟩
theorem lX6_256 (Y : Ym) (h : Y.1.cls = RX6) : MtL Y 256 YX2_unitsBy := Or.inr ⟨"SkyTenders", by rw [h]; exact n_in (List.mem_of_getElem? (i := 363) (by decide +kernel)) rfl⟩
theorem lL_35 (Y : Ym) (h : Y.1.cls = RL) : MtL Y 35 YX6_field := Or.inl (by rw [h]; exact g_in (List.mem_of_getElem? (i := 367) (by decide +kernel)) rfl)
theorem lX6_115 (Y : Ym) (h : Y.1.cls = RX6) : MtL Y 115 YX4_hasField := Or.inr ⟨"SkyTenders", by rw [h]; exact n_in (List.mem_of_getElem? (i := 371) (by decide +kernel)) rfl⟩
theorem lL_40 (Y : Ym) (h : Y.1.cls = RL) : MtL Y 40 YX6_maker := Or.inl (by rw [h]; exact g_in (List.mem_of_getElem? (i := 375) (by decide +kernel)) rfl)
theorem lX6_127 (Y : Ym) (h : Y.1.cls = RX6) : MtL Y 127 YX4_hasMaker := Or.inr ⟨"SkyTenders", by rw [h]; exact n_in (List.mem_of_getElem? (i := 379) (by decide +kernel)) rfl⟩
theorem lX6_139 (Y : Ym) (h : Y.1.cls = RX6) : MtL Y 139 YX6_unitsInBest := Or.inl (by rw [h]; exact g_in (List.mem_of_getElem? (i := 383) (by decide +kernel)) rfl)
theorem lX6_142 (Y : Ym) (h : Y.1.cls = RX6) : MtL Y 142 YX6_paidTo := Or.inl (by rw [h]; exact g_in (List.mem_of_getElem? (i := 387) (by decide +kernel)) rfl)
theorem lL_44 (Y : Ym) (h : Y.1.cls = RL) : MtL Y 44 YX6_reprice := Or.inl (by rw [h]; exact g_in (List.mem_of_getElem? (i := 391) (by decide +kernel)) rfl)
theorem lX6_145 (Y : Ym) (h : Y.1.cls = RX6) : MtL Y 145 YX6_doNow := Or.inl (by rw [h]; exact g_in (List.mem_of_getElem? (i := 395) (by decide +kernel)) rfl)
theorem lX6_161 (Y : Ym) (h : Y.1.cls = RX6) : MtL Y 161 YX4_refusal := Or.inr ⟨"SkyTenders", by rw [h]; exact n_in (List.mem_of_getElem? (i := 399) (by decide +kernel)) rfl⟩
theorem lX4_41 (Y : Ym) (h : Y.1.cls = RX4) : MtL Y 41 YX4_hasMaker := Or.inl (by rw [h]; exact g_in (List.mem_of_getElem? (i := 403) (by decide +kernel)) rfl)
theorem lX4_45 (Y : Ym) (h : Y.1.cls = RX4) : MtL Y 45 YX4_hasField := Or.inl (by rw [h]; exact g_in (List.mem_of_getElem? (i := 404) (by decide +kernel)) rfl)
theorem lX6_158 (Y : Ym) (h : Y.1.cls = RX6) : MtL Y 158 YX4_change := Or.inr ⟨"SkyTenders", by rw [h]; exact n_in (List.mem_of_getElem? (i := 405) (by decide +kernel)) rfl⟩
theorem lX6_164 (Y : Ym) (h : Y.1.cls = RX6) : MtL Y 164 YX0_add := Or.inr ⟨"SkyTenders", by rw [h]; exact n_in (List.mem_of_getElem? (i := 409) (by decide +kernel)) rfl⟩
theorem lX0_25 (Y : Ym) (h : Y.1.cls = RX0) : MtL Y 25 YX0_forgetFirst := Or.inl (by rw [h]; exact g_in (List.mem_of_getElem? (i := 413) (by decide +kernel)) rfl)
theorem lL_48 (Y : Ym) (h : Y.1.cls = RL) : MtL Y 48 YX6_restock := Or.inl (by rw [h]; exact g_in (List.mem_of_getElem? (i := 417) (by decide +kernel)) rfl)
theorem lL_52 (Y : Ym) (h : Y.1.cls = RL) : MtL Y 52 YX6_want := Or.inl (by rw [h]; exact g_in (List.mem_of_getElem? (i := 421) (by decide +kernel)) rfl)
theorem lL_56 (Y : Ym) (h : Y.1.cls = RL) : MtL Y 56 YX6_bear := Or.inl (by rw [h]; exact g_in (List.mem_of_getElem? (i := 425) (by decide +kernel)) rfl)
theorem lL_60 (Y : Ym) (h : Y.1.cls = RL) : MtL Y 60 YX6_undo := Or.inl (by rw [h]; exact g_in (List.mem_of_getElem? (i := 429) (by decide +kernel)) rfl)
theorem lL_64 (Y : Ym) (h : Y.1.cls = RL) : MtL Y 64 YX6_best := Or.inl (by rw [h]; exact g_in (List.mem_of_getElem? (i := 433) (by decide +kernel)) rfl)
theorem lX6_168 (Y : Ym) (h : Y.1.cls = RX6) : MtL Y 168 YX6_asFigures := Or.inl (by rw [h]; exact g_in (List.mem_of_getElem? (i := 437) (by decide +kernel)) rfl)
theorem lL_68 (Y : Ym) (h : Y.1.cls = RL) : MtL Y 68 YX6_cost := Or.inl (by rw [h]; exact g_in (List.mem_of_getElem? (i := 440) (by decide +kernel)) rfl)
theorem lX6_172 (Y : Ym) (h : Y.1.cls = RX6) : MtL Y 172 YX6_spell := Or.inl (by rw [h]; exact g_in (List.mem_of_getElem? (i := 444) (by decide +kernel)) rfl)
theorem kX6_233 (Y : Ym) (h : Y.1.cls = RX6) : Cond.constantLong Y.1.cls 233 10 ∈ gtbl := by rw [h]; exact g_in (List.mem_of_getElem? (i := 448) (by decide +kernel)) rfl
theorem lL_72 (Y : Ym) (h : Y.1.cls = RL) : MtL Y 72 YX6_gain := Or.inl (by rw [h]; exact g_in (List.mem_of_getElem? (i := 449) (by decide +kernel)) rfl)
theorem lL_76 (Y : Ym) (h : Y.1.cls = RL) : MtL Y 76 YX6_ran := Or.inl (by rw [h]; exact g_in (List.mem_of_getElem? (i := 453) (by decide +kernel)) rfl)
theorem lL_80 (Y : Ym) (h : Y.1.cls = RL) : MtL Y 80 YX6_least := Or.inl (by rw [h]; exact g_in (List.mem_of_getElem? (i := 457) (by decide +kernel)) rfl)
theorem lX6_196 (Y : Ym) (h : Y.1.cls = RX6) : MtL Y 196 YX4_hasLeague := Or.inr ⟨"SkyTenders", by rw [h]; exact n_in (List.mem_of_getElem? (i := 461) (by decide +kernel)) rfl⟩
theorem lX4_37 (Y : Ym) (h : Y.1.cls = RX4) : MtL Y 37 YX4_allMakers := Or.inl (by rw [h]; exact g_in (List.mem_of_getElem? (i := 465) (by decide +kernel)) rfl)
theorem lL_84 (Y : Ym) (h : Y.1.cls = RL) : MtL Y 84 YX6_most := Or.inl (by rw [h]; exact g_in (List.mem_of_getElem? (i := 466) (by decide +kernel)) rfl)
theorem lL_88 (Y : Ym) (h : Y.1.cls = RL) : MtL Y 88 YX6_holds := Or.inl (by rw [h]; exact g_in (List.mem_of_getElem? (i := 470) (by decide +kernel)) rfl)
theorem lX6_199 (Y : Ym) (h : Y.1.cls = RX6) : MtL Y 199 YX6_sharesOf := Or.inl (by rw [h]; exact g_in (List.mem_of_getElem? (i := 474) (by decide +kernel)) rfl)
theorem lL_94 (Y : Ym) (h : Y.1.cls = RL) : MtL Y 94 YX6_judge := Or.inl (by rw [h]; exact g_in (List.mem_of_getElem? (i := 478) (by decide +kernel)) rfl)
theorem lX6_203 (Y : Ym) (h : Y.1.cls = RX6) : MtL Y 203 YX6_canBe := Or.inl (by rw [h]; exact g_in (List.mem_of_getElem? (i := 482) (by decide +kernel)) rfl)
theorem lX6_262 (Y : Ym) (h : Y.1.cls = RX6) : MtL Y 262 YX6_changesTrial := Or.inl (by rw [h]; exact g_in (List.mem_of_getElem? (i := 486) (by decide +kernel)) rfl)
theorem lL_99 (Y : Ym) (h : Y.1.cls = RL) : MtL Y 99 YX6_share := Or.inl (by rw [h]; exact g_in (List.mem_of_getElem? (i := 490) (by decide +kernel)) rfl)
theorem lX6_206 (Y : Ym) (h : Y.1.cls = RX6) : MtL Y 206 YJ6_bitCount_0f7a4 := Or.inl (by rw [h]; exact g_in (List.mem_of_getElem? (i := 494) (by decide +kernel)) rfl)
theorem kJ6_265 (Y : Ym) (h : Y.1.cls = RJ6) : Cond.constant Y.1.cls 265 1431655765 ∈ gtbl := by rw [h]; exact g_in (List.mem_of_getElem? (i := 497) (by decide +kernel)) rfl
theorem kJ6_266 (Y : Ym) (h : Y.1.cls = RJ6) : Cond.constant Y.1.cls 266 858993459 ∈ gtbl := by rw [h]; exact g_in (List.mem_of_getElem? (i := 498) (by decide +kernel)) rfl
theorem kJ6_267 (Y : Ym) (h : Y.1.cls = RJ6) : Cond.constant Y.1.cls 267 252645135 ∈ gtbl := by rw [h]; exact g_in (List.mem_of_getElem? (i := 499) (by decide +kernel)) rfl
theorem fX6_211 (Y : Ym) (h : Y.1.cls = RX6) : Cond.fieldLink Y.1.cls 211 "SkyTenders" "ORDERS" "[I" ∈ gtbl := by rw [h]; exact g_in (List.mem_of_getElem? (i := 500) (by decide +kernel)) rfl
theorem lX6_214 (Y : Ym) (h : Y.1.cls = RX6) : MtL Y 214 YX6_partOfFraction := Or.inl (by rw [h]; exact g_in (List.mem_of_getElem? (i := 502) (by decide +kernel)) rfl)
theorem lL_104 (Y : Ym) (h : Y.1.cls = RL) : MtL Y 104 YX6_see := Or.inl (by rw [h]; exact g_in (List.mem_of_getElem? (i := 505) (by decide +kernel)) rfl)
theorem lX6_218 (Y : Ym) (h : Y.1.cls = RX6) : MtL Y 218 YX3_add := Or.inr ⟨"SkyTenders", by rw [h]; exact n_in (List.mem_of_getElem? (i := 509) (by decide +kernel)) rfl⟩
theorem lL_109 (Y : Ym) (h : Y.1.cls = RL) : MtL Y 109 YX6_unsee := Or.inl (by rw [h]; exact g_in (List.mem_of_getElem? (i := 513) (by decide +kernel)) rfl)
theorem lL_113 (Y : Ym) (h : Y.1.cls = RL) : MtL Y 113 YX6_which := Or.inl (by rw [h]; exact g_in (List.mem_of_getElem? (i := 517) (by decide +kernel)) rfl)
theorem lX6_221 (Y : Ym) (h : Y.1.cls = RX6) : MtL Y 221 YX6_allSeenIsSo := Or.inl (by rw [h]; exact g_in (List.mem_of_getElem? (i := 521) (by decide +kernel)) rfl)
theorem lL_117 (Y : Ym) (h : Y.1.cls = RL) : MtL Y 117 YX6_gone := Or.inl (by rw [h]; exact g_in (List.mem_of_getElem? (i := 525) (by decide +kernel)) rfl)
theorem lX6_225 (Y : Ym) (h : Y.1.cls = RX6) : MtL Y 225 YX6_chanceOfLeft := Or.inl (by rw [h]; exact g_in (List.mem_of_getElem? (i := 529) (by decide +kernel)) rfl)
theorem lL_121 (Y : Ym) (h : Y.1.cls = RL) : MtL Y 121 YX6_seed := Or.inl (by rw [h]; exact g_in (List.mem_of_getElem? (i := 533) (by decide +kernel)) rfl)
theorem lL_126 (Y : Ym) (h : Y.1.cls = RL) : MtL Y 126 YX6_drawn := Or.inl (by rw [h]; exact g_in (List.mem_of_getElem? (i := 537) (by decide +kernel)) rfl)
theorem kX6_229 (Y : Ym) (h : Y.1.cls = RX6) : Cond.constantLong Y.1.cls 229 6364136223846793005 ∈ gtbl := by rw [h]; exact g_in (List.mem_of_getElem? (i := 541) (by decide +kernel)) rfl
theorem kX6_231 (Y : Ym) (h : Y.1.cls = RX6) : Cond.constantLong Y.1.cls 231 1442695040888963407 ∈ gtbl := by rw [h]; exact g_in (List.mem_of_getElem? (i := 542) (by decide +kernel)) rfl
theorem lL_130 (Y : Ym) (h : Y.1.cls = RL) : MtL Y 130 YX6_keep := Or.inl (by rw [h]; exact g_in (List.mem_of_getElem? (i := 543) (by decide +kernel)) rfl)
theorem lX6_235 (Y : Ym) (h : Y.1.cls = RX6) : MtL Y 235 YX6_roomOf := Or.inl (by rw [h]; exact g_in (List.mem_of_getElem? (i := 547) (by decide +kernel)) rfl)
theorem lL_134 (Y : Ym) (h : Y.1.cls = RL) : MtL Y 134 YX6_again := Or.inl (by rw [h]; exact g_in (List.mem_of_getElem? (i := 551) (by decide +kernel)) rfl)
theorem lL_12 (Y : Ym) (h : Y.1.cls = RL) : MtL Y 12 YX7_init := Or.inl (by rw [h]; exact g_in (List.mem_of_getElem? (i := 557) (by decide +kernel)) rfl)
theorem fX7_7 (Y : Ym) (h : Y.1.cls = RX7) : Fld Y 7 7 0 := ⟨RX7, TX7, 31, tyX7, rfl, by decide, gX7, Or.inl (by rw [h]; exact g_in (List.mem_of_getElem? (i := 561) (by decide +kernel)) rfl), tyX7_ok, nmX7⟩
theorem fX7_76 (Y : Ym) (h : Y.1.cls = RX7) : Fld Y 76 7 1 := ⟨RX7, TX7, 31, tyX7, rfl, by decide, gX7, Or.inl (by rw [h]; exact g_in (List.mem_of_getElem? (i := 562) (by decide +kernel)) rfl), tyX7_ok, nmX7⟩
theorem fX7_63 (Y : Ym) (h : Y.1.cls = RX7) : Fld Y 63 7 2 := ⟨RX7, TX7, 31, tyX7, rfl, by decide, gX7, Or.inl (by rw [h]; exact g_in (List.mem_of_getElem? (i := 563) (by decide +kernel)) rfl), tyX7_ok, nmX7⟩
theorem fX7_71 (Y : Ym) (h : Y.1.cls = RX7) : Fld Y 71 7 3 := ⟨RX7, TX7, 31, tyX7, rfl, by decide, gX7, Or.inl (by rw [h]; exact g_in (List.mem_of_getElem? (i := 564) (by decide +kernel)) rfl), tyX7_ok, nmX7⟩
theorem fX7_13 (Y : Ym) (h : Y.1.cls = RX7) : Fld Y 13 7 4 := ⟨RX7, TX7, 31, tyX7, rfl, by decide, gX7, Or.inl (by rw [h]; exact g_in (List.mem_of_getElem? (i := 565) (by decide +kernel)) rfl), tyX7_ok, nmX7⟩
theorem fX7_16 (Y : Ym) (h : Y.1.cls = RX7) : Fld Y 16 7 5 := ⟨RX7, TX7, 31, tyX7, rfl, by decide, gX7, Or.inl (by rw [h]; exact g_in (List.mem_of_getElem? (i := 566) (by decide +kernel)) rfl), tyX7_ok, nmX7⟩
theorem fX7_19 (Y : Ym) (h : Y.1.cls = RX7) : Fld Y 19 7 6 := ⟨RX7, TX7, 31, tyX7, rfl, by decide, gX7, Or.inl (by rw [h]; exact g_in (List.mem_of_getElem? (i := 567) (by decide +kernel)) rfl), tyX7_ok, nmX7⟩
theorem fX7_22 (Y : Ym) (h : Y.1.cls = RX7) : Fld Y 22 7 7 := ⟨RX7, TX7, 31, tyX7, rfl, by decide, gX7, Or.inl (by rw [h]; exact g_in (List.mem_of_getElem? (i := 568) (by decide +kernel)) rfl), tyX7_ok, nmX7⟩
theorem fX7_25 (Y : Ym) (h : Y.1.cls = RX7) : Fld Y 25 7 8 := ⟨RX7, TX7, 31, tyX7, rfl, by decide, gX7, Or.inl (by rw [h]; exact g_in (List.mem_of_getElem? (i := 569) (by decide +kernel)) rfl), tyX7_ok, nmX7⟩
theorem fX7_113 (Y : Ym) (h : Y.1.cls = RX7) : Fld Y 113 7 9 := ⟨RX7, TX7, 31, tyX7, rfl, by decide, gX7, Or.inl (by rw [h]; exact g_in (List.mem_of_getElem? (i := 570) (by decide +kernel)) rfl), tyX7_ok, nmX7⟩
theorem fX7_184 (Y : Ym) (h : Y.1.cls = RX7) : Fld Y 184 7 10 := ⟨RX7, TX7, 31, tyX7, rfl, by decide, gX7, Or.inl (by rw [h]; exact g_in (List.mem_of_getElem? (i := 571) (by decide +kernel)) rfl), tyX7_ok, nmX7⟩
theorem fX7_28 (Y : Ym) (h : Y.1.cls = RX7) : Fld Y 28 7 11 := ⟨RX7, TX7, 31, tyX7, rfl, by decide, gX7, Or.inl (by rw [h]; exact g_in (List.mem_of_getElem? (i := 572) (by decide +kernel)) rfl), tyX7_ok, nmX7⟩
theorem fX7_31 (Y : Ym) (h : Y.1.cls = RX7) : Fld Y 31 7 12 := ⟨RX7, TX7, 31, tyX7, rfl, by decide, gX7, Or.inl (by rw [h]; exact g_in (List.mem_of_getElem? (i := 573) (by decide +kernel)) rfl), tyX7_ok, nmX7⟩
theorem fX7_94 (Y : Ym) (h : Y.1.cls = RX7) : Fld Y 94 7 13 := ⟨RX7, TX7, 31, tyX7, rfl, by decide, gX7, Or.inl (by rw [h]; exact g_in (List.mem_of_getElem? (i := 574) (by decide +kernel)) rfl), tyX7_ok, nmX7⟩
theorem fX7_99 (Y : Ym) (h : Y.1.cls = RX7) : Fld Y 99 7 14 := ⟨RX7, TX7, 31, tyX7, rfl, by decide, gX7, Or.inl (by rw [h]; exact g_in (List.mem_of_getElem? (i := 575) (by decide +kernel)) rfl), tyX7_ok, nmX7⟩
theorem fX7_35 (Y : Ym) (h : Y.1.cls = RX7) : Fld Y 35 7 15 := ⟨RX7, TX7, 31, tyX7, rfl, by decide, gX7, Or.inl (by rw [h]; exact g_in (List.mem_of_getElem? (i := 576) (by decide +kernel)) rfl), tyX7_ok, nmX7⟩
theorem fX7_38 (Y : Ym) (h : Y.1.cls = RX7) : Fld Y 38 7 16 := ⟨RX7, TX7, 31, tyX7, rfl, by decide, gX7, Or.inl (by rw [h]; exact g_in (List.mem_of_getElem? (i := 577) (by decide +kernel)) rfl), tyX7_ok, nmX7⟩
theorem fX7_41 (Y : Ym) (h : Y.1.cls = RX7) : Fld Y 41 7 17 := ⟨RX7, TX7, 31, tyX7, rfl, by decide, gX7, Or.inl (by rw [h]; exact g_in (List.mem_of_getElem? (i := 578) (by decide +kernel)) rfl), tyX7_ok, nmX7⟩
theorem fX7_44 (Y : Ym) (h : Y.1.cls = RX7) : Fld Y 44 7 18 := ⟨RX7, TX7, 31, tyX7, rfl, by decide, gX7, Or.inl (by rw [h]; exact g_in (List.mem_of_getElem? (i := 579) (by decide +kernel)) rfl), tyX7_ok, nmX7⟩
theorem fX7_47 (Y : Ym) (h : Y.1.cls = RX7) : Fld Y 47 7 19 := ⟨RX7, TX7, 31, tyX7, rfl, by decide, gX7, Or.inl (by rw [h]; exact g_in (List.mem_of_getElem? (i := 580) (by decide +kernel)) rfl), tyX7_ok, nmX7⟩
theorem fX7_50 (Y : Ym) (h : Y.1.cls = RX7) : Fld Y 50 7 20 := ⟨RX7, TX7, 31, tyX7, rfl, by decide, gX7, Or.inl (by rw [h]; exact g_in (List.mem_of_getElem? (i := 581) (by decide +kernel)) rfl), tyX7_ok, nmX7⟩
theorem fX7_175 (Y : Ym) (h : Y.1.cls = RX7) : Fld Y 175 7 21 := ⟨RX7, TX7, 31, tyX7, rfl, by decide, gX7, Or.inl (by rw [h]; exact g_in (List.mem_of_getElem? (i := 582) (by decide +kernel)) rfl), tyX7_ok, nmX7⟩
theorem fX7_226 (Y : Ym) (h : Y.1.cls = RX7) : Fld Y 226 7 22 := ⟨RX7, TX7, 31, tyX7, rfl, by decide, gX7, Or.inl (by rw [h]; exact g_in (List.mem_of_getElem? (i := 583) (by decide +kernel)) rfl), tyX7_ok, nmX7⟩
theorem fX7_133 (Y : Ym) (h : Y.1.cls = RX7) : Fld Y 133 7 23 := ⟨RX7, TX7, 31, tyX7, rfl, by decide, gX7, Or.inl (by rw [h]; exact g_in (List.mem_of_getElem? (i := 584) (by decide +kernel)) rfl), tyX7_ok, nmX7⟩
theorem fX7_136 (Y : Ym) (h : Y.1.cls = RX7) : Fld Y 136 7 24 := ⟨RX7, TX7, 31, tyX7, rfl, by decide, gX7, Or.inl (by rw [h]; exact g_in (List.mem_of_getElem? (i := 585) (by decide +kernel)) rfl), tyX7_ok, nmX7⟩
theorem fX7_53 (Y : Ym) (h : Y.1.cls = RX7) : Fld Y 53 7 25 := ⟨RX7, TX7, 31, tyX7, rfl, by decide, gX7, Or.inl (by rw [h]; exact g_in (List.mem_of_getElem? (i := 586) (by decide +kernel)) rfl), tyX7_ok, nmX7⟩
theorem fX7_56 (Y : Ym) (h : Y.1.cls = RX7) : Fld Y 56 7 26 := ⟨RX7, TX7, 31, tyX7, rfl, by decide, gX7, Or.inl (by rw [h]; exact g_in (List.mem_of_getElem? (i := 587) (by decide +kernel)) rfl), tyX7_ok, nmX7⟩
theorem fX7_87 (Y : Ym) (h : Y.1.cls = RX7) : Fld Y 87 7 27 := ⟨RX7, TX7, 31, tyX7, rfl, by decide, gX7, Or.inl (by rw [h]; exact g_in (List.mem_of_getElem? (i := 588) (by decide +kernel)) rfl), tyX7_ok, nmX7⟩
theorem fX7_160 (Y : Ym) (h : Y.1.cls = RX7) : Fld Y 160 7 28 := ⟨RX7, TX7, 31, tyX7, rfl, by decide, gX7, Or.inl (by rw [h]; exact g_in (List.mem_of_getElem? (i := 589) (by decide +kernel)) rfl), tyX7_ok, nmX7⟩
theorem fX7_163 (Y : Ym) (h : Y.1.cls = RX7) : Fld Y 163 7 29 := ⟨RX7, TX7, 31, tyX7, rfl, by decide, gX7, Or.inl (by rw [h]; exact g_in (List.mem_of_getElem? (i := 590) (by decide +kernel)) rfl), tyX7_ok, nmX7⟩
theorem fX7_166 (Y : Ym) (h : Y.1.cls = RX7) : Fld Y 166 7 30 := ⟨RX7, TX7, 31, tyX7, rfl, by decide, gX7, Or.inl (by rw [h]; exact g_in (List.mem_of_getElem? (i := 591) (by decide +kernel)) rfl), tyX7_ok, nmX7⟩
theorem lL_17 (Y : Ym) (h : Y.1.cls = RL) : MtL Y 17 YX7_write := Or.inl (by rw [h]; exact g_in (List.mem_of_getElem? (i := 655) (by decide +kernel)) rfl)
theorem kX7_74 (Y : Ym) (h : Y.1.cls = RX7) : Cond.constantLong Y.1.cls 74 255 ∈ gtbl := by rw [h]; exact g_in (List.mem_of_getElem? (i := 659) (by decide +kernel)) rfl
theorem lX7_67 (Y : Ym) (h : Y.1.cls = RX7) : MtL Y 67 YX7_in := Or.inl (by rw [h]; exact g_in (List.mem_of_getElem? (i := 660) (by decide +kernel)) rfl)
theorem lL_22 (Y : Ym) (h : Y.1.cls = RL) : MtL Y 22 YX7_wipe := Or.inl (by rw [h]; exact g_in (List.mem_of_getElem? (i := 663) (by decide +kernel)) rfl)
theorem lL_26 (Y : Ym) (h : Y.1.cls = RL) : MtL Y 26 YX7_fault := Or.inl (by rw [h]; exact g_in (List.mem_of_getElem? (i := 667) (by decide +kernel)) rfl)
theorem lX7_109 (Y : Ym) (h : Y.1.cls = RX7) : MtL Y 109 YX7_readText := Or.inl (by rw [h]; exact g_in (List.mem_of_getElem? (i := 671) (by decide +kernel)) rfl)
theorem lX7_106 (Y : Ym) (h : Y.1.cls = RX7) : MtL Y 106 YX7_take := Or.inl (by rw [h]; exact g_in (List.mem_of_getElem? (i := 675) (by decide +kernel)) rfl)
theorem lX7_79 (Y : Ym) (h : Y.1.cls = RX7) : MtL Y 79 YX7_weatherOf := Or.inl (by rw [h]; exact g_in (List.mem_of_getElem? (i := 679) (by decide +kernel)) rfl)
theorem kX7_83 (Y : Ym) (h : Y.1.cls = RX7) : Cond.constantLong Y.1.cls 83 48 ∈ gtbl := by rw [h]; exact g_in (List.mem_of_getElem? (i := 682) (by decide +kernel)) rfl
theorem kX7_85 (Y : Ym) (h : Y.1.cls = RX7) : Cond.constantLong Y.1.cls 85 57 ∈ gtbl := by rw [h]; exact g_in (List.mem_of_getElem? (i := 683) (by decide +kernel)) rfl
theorem lX7_90 (Y : Ym) (h : Y.1.cls = RX7) : MtL Y 90 YX7_takePart := Or.inl (by rw [h]; exact g_in (List.mem_of_getElem? (i := 684) (by decide +kernel)) rfl)
theorem kX7_97 (Y : Ym) (h : Y.1.cls = RX7) : Cond.constantLong Y.1.cls 97 5 ∈ gtbl := by rw [h]; exact g_in (List.mem_of_getElem? (i := 688) (by decide +kernel)) rfl
theorem lX7_102 (Y : Ym) (h : Y.1.cls = RX7) : MtL Y 102 YX7_takeMore := Or.inl (by rw [h]; exact g_in (List.mem_of_getElem? (i := 689) (by decide +kernel)) rfl)
theorem lL_30 (Y : Ym) (h : Y.1.cls = RL) : MtL Y 30 YX7_tender := Or.inl (by rw [h]; exact g_in (List.mem_of_getElem? (i := 693) (by decide +kernel)) rfl)
theorem lL_34 (Y : Ym) (h : Y.1.cls = RL) : MtL Y 34 YX7_about := Or.inl (by rw [h]; exact g_in (List.mem_of_getElem? (i := 697) (by decide +kernel)) rfl)
theorem lX7_147 (Y : Ym) (h : Y.1.cls = RX7) : MtL Y 147 YX7_allMakers := Or.inl (by rw [h]; exact g_in (List.mem_of_getElem? (i := 701) (by decide +kernel)) rfl)
theorem lX7_150 (Y : Ym) (h : Y.1.cls = RX7) : MtL Y 150 YX7_leastBy := Or.inl (by rw [h]; exact g_in (List.mem_of_getElem? (i := 705) (by decide +kernel)) rfl)
theorem lX7_143 (Y : Ym) (h : Y.1.cls = RX7) : MtL Y 143 YX7_find := Or.inl (by rw [h]; exact g_in (List.mem_of_getElem? (i := 709) (by decide +kernel)) rfl)
theorem lX7_116 (Y : Ym) (h : Y.1.cls = RX7) : MtL Y 116 YX7_power := Or.inl (by rw [h]; exact g_in (List.mem_of_getElem? (i := 713) (by decide +kernel)) rfl)
theorem lX7_139 (Y : Ym) (h : Y.1.cls = RX7) : MtL Y 139 YX7_costOf := Or.inl (by rw [h]; exact g_in (List.mem_of_getElem? (i := 716) (by decide +kernel)) rfl)
theorem lX7_119 (Y : Ym) (h : Y.1.cls = RX7) : MtL Y 119 YX7_servedBy := Or.inl (by rw [h]; exact g_in (List.mem_of_getElem? (i := 720) (by decide +kernel)) rfl)
theorem lX7_129 (Y : Ym) (h : Y.1.cls = RX7) : MtL Y 129 YX7_mayServe := Or.inl (by rw [h]; exact g_in (List.mem_of_getElem? (i := 724) (by decide +kernel)) rfl)
theorem lX7_123 (Y : Ym) (h : Y.1.cls = RX7) : MtL Y 123 YX7_isMaker := Or.inl (by rw [h]; exact g_in (List.mem_of_getElem? (i := 728) (by decide +kernel)) rfl)
theorem lX7_126 (Y : Ym) (h : Y.1.cls = RX7) : MtL Y 126 YX7_has := Or.inl (by rw [h]; exact g_in (List.mem_of_getElem? (i := 732) (by decide +kernel)) rfl)
theorem lX7_169 (Y : Ym) (h : Y.1.cls = RX7) : MtL Y 169 YX7_mostOf := Or.inl (by rw [h]; exact g_in (List.mem_of_getElem? (i := 735) (by decide +kernel)) rfl)
theorem lX7_172 (Y : Ym) (h : Y.1.cls = RX7) : MtL Y 172 YX7_run := Or.inl (by rw [h]; exact g_in (List.mem_of_getElem? (i := 739) (by decide +kernel)) rfl)
theorem lX7_157 (Y : Ym) (h : Y.1.cls = RX7) : MtL Y 157 YX7_layTrial := Or.inl (by rw [h]; exact g_in (List.mem_of_getElem? (i := 743) (by decide +kernel)) rfl)
theorem lX7_154 (Y : Ym) (h : Y.1.cls = RX7) : MtL Y 154 YX7_unitsOf := Or.inl (by rw [h]; exact g_in (List.mem_of_getElem? (i := 747) (by decide +kernel)) rfl)
theorem lL_39 (Y : Ym) (h : Y.1.cls = RL) : MtL Y 39 YX7_field := Or.inl (by rw [h]; exact g_in (List.mem_of_getElem? (i := 751) (by decide +kernel)) rfl)
theorem lX7_178 (Y : Ym) (h : Y.1.cls = RX7) : MtL Y 178 YX7_isField := Or.inl (by rw [h]; exact g_in (List.mem_of_getElem? (i := 755) (by decide +kernel)) rfl)
theorem lL_43 (Y : Ym) (h : Y.1.cls = RL) : MtL Y 43 YX7_maker := Or.inl (by rw [h]; exact g_in (List.mem_of_getElem? (i := 759) (by decide +kernel)) rfl)
theorem lX7_181 (Y : Ym) (h : Y.1.cls = RX7) : MtL Y 181 YX7_paid := Or.inl (by rw [h]; exact g_in (List.mem_of_getElem? (i := 763) (by decide +kernel)) rfl)
theorem lL_47 (Y : Ym) (h : Y.1.cls = RL) : MtL Y 47 YX7_reprice := Or.inl (by rw [h]; exact g_in (List.mem_of_getElem? (i := 767) (by decide +kernel)) rfl)
theorem kX7_187 (Y : Ym) (h : Y.1.cls = RX7) : Cond.constantLong Y.1.cls 187 9 ∈ gtbl := by rw [h]; exact g_in (List.mem_of_getElem? (i := 771) (by decide +kernel)) rfl
theorem lX7_189 (Y : Ym) (h : Y.1.cls = RX7) : MtL Y 189 YX7_change := Or.inl (by rw [h]; exact g_in (List.mem_of_getElem? (i := 772) (by decide +kernel)) rfl)
theorem lL_51 (Y : Ym) (h : Y.1.cls = RL) : MtL Y 51 YX7_restock := Or.inl (by rw [h]; exact g_in (List.mem_of_getElem? (i := 776) (by decide +kernel)) rfl)
theorem lL_55 (Y : Ym) (h : Y.1.cls = RL) : MtL Y 55 YX7_want := Or.inl (by rw [h]; exact g_in (List.mem_of_getElem? (i := 780) (by decide +kernel)) rfl)
theorem lL_59 (Y : Ym) (h : Y.1.cls = RL) : MtL Y 59 YX7_bear := Or.inl (by rw [h]; exact g_in (List.mem_of_getElem? (i := 784) (by decide +kernel)) rfl)
theorem kX7_193 (Y : Ym) (h : Y.1.cls = RX7) : Cond.constantLong Y.1.cls 193 4 ∈ gtbl := by rw [h]; exact g_in (List.mem_of_getElem? (i := 788) (by decide +kernel)) rfl
theorem lL_63 (Y : Ym) (h : Y.1.cls = RL) : MtL Y 63 YX7_undo := Or.inl (by rw [h]; exact g_in (List.mem_of_getElem? (i := 789) (by decide +kernel)) rfl)
theorem lL_67 (Y : Ym) (h : Y.1.cls = RL) : MtL Y 67 YX7_best := Or.inl (by rw [h]; exact g_in (List.mem_of_getElem? (i := 793) (by decide +kernel)) rfl)
theorem lL_71 (Y : Ym) (h : Y.1.cls = RL) : MtL Y 71 YX7_cost := Or.inl (by rw [h]; exact g_in (List.mem_of_getElem? (i := 797) (by decide +kernel)) rfl)
theorem lL_75 (Y : Ym) (h : Y.1.cls = RL) : MtL Y 75 YX7_gain := Or.inl (by rw [h]; exact g_in (List.mem_of_getElem? (i := 801) (by decide +kernel)) rfl)
theorem lL_79 (Y : Ym) (h : Y.1.cls = RL) : MtL Y 79 YX7_ran := Or.inl (by rw [h]; exact g_in (List.mem_of_getElem? (i := 805) (by decide +kernel)) rfl)
theorem kX7_195 (Y : Ym) (h : Y.1.cls = RX7) : Cond.constantLong Y.1.cls 195 2 ∈ gtbl := by rw [h]; exact g_in (List.mem_of_getElem? (i := 809) (by decide +kernel)) rfl
theorem lL_83 (Y : Ym) (h : Y.1.cls = RL) : MtL Y 83 YX7_least := Or.inl (by rw [h]; exact g_in (List.mem_of_getElem? (i := 810) (by decide +kernel)) rfl)
theorem lL_87 (Y : Ym) (h : Y.1.cls = RL) : MtL Y 87 YX7_most := Or.inl (by rw [h]; exact g_in (List.mem_of_getElem? (i := 814) (by decide +kernel)) rfl)
theorem lL_91 (Y : Ym) (h : Y.1.cls = RL) : MtL Y 91 YX7_holds := Or.inl (by rw [h]; exact g_in (List.mem_of_getElem? (i := 818) (by decide +kernel)) rfl)
theorem lX7_197 (Y : Ym) (h : Y.1.cls = RX7) : MtL Y 197 YX7_sharesOf := Or.inl (by rw [h]; exact g_in (List.mem_of_getElem? (i := 822) (by decide +kernel)) rfl)
theorem lL_98 (Y : Ym) (h : Y.1.cls = RL) : MtL Y 98 YX7_judge := Or.inl (by rw [h]; exact g_in (List.mem_of_getElem? (i := 826) (by decide +kernel)) rfl)
theorem lX7_202 (Y : Ym) (h : Y.1.cls = RX7) : MtL Y 202 YX7_tenThousands := Or.inl (by rw [h]; exact g_in (List.mem_of_getElem? (i := 830) (by decide +kernel)) rfl)
theorem kX7_200 (Y : Ym) (h : Y.1.cls = RX7) : Cond.constantLong Y.1.cls 200 10000 ∈ gtbl := by rw [h]; exact g_in (List.mem_of_getElem? (i := 833) (by decide +kernel)) rfl
theorem lX7_206 (Y : Ym) (h : Y.1.cls = RX7) : MtL Y 206 YX7_judged := Or.inl (by rw [h]; exact g_in (List.mem_of_getElem? (i := 834) (by decide +kernel)) rfl)
theorem lL_103 (Y : Ym) (h : Y.1.cls = RL) : MtL Y 103 YX7_share := Or.inl (by rw [h]; exact g_in (List.mem_of_getElem? (i := 838) (by decide +kernel)) rfl)
theorem lX7_213 (Y : Ym) (h : Y.1.cls = RX7) : MtL Y 213 YX7_isOrder := Or.inl (by rw [h]; exact g_in (List.mem_of_getElem? (i := 842) (by decide +kernel)) rfl)
theorem lX7_210 (Y : Ym) (h : Y.1.cls = RX7) : MtL Y 210 YX7_makerAt := Or.inl (by rw [h]; exact g_in (List.mem_of_getElem? (i := 846) (by decide +kernel)) rfl)
theorem lX7_216 (Y : Ym) (h : Y.1.cls = RX7) : MtL Y 216 YX7_fraction := Or.inl (by rw [h]; exact g_in (List.mem_of_getElem? (i := 849) (by decide +kernel)) rfl)
theorem lX7_59 (Y : Ym) (h : Y.1.cls = RX7) : MtL Y 59 YX7_divisor := Or.inl (by rw [h]; exact g_in (List.mem_of_getElem? (i := 852) (by decide +kernel)) rfl)
theorem lL_108 (Y : Ym) (h : Y.1.cls = RL) : MtL Y 108 YX7_see := Or.inl (by rw [h]; exact g_in (List.mem_of_getElem? (i := 855) (by decide +kernel)) rfl)
theorem lL_112 (Y : Ym) (h : Y.1.cls = RL) : MtL Y 112 YX7_unsee := Or.inl (by rw [h]; exact g_in (List.mem_of_getElem? (i := 859) (by decide +kernel)) rfl)
theorem lL_116 (Y : Ym) (h : Y.1.cls = RL) : MtL Y 116 YX7_which := Or.inl (by rw [h]; exact g_in (List.mem_of_getElem? (i := 863) (by decide +kernel)) rfl)
theorem lX7_220 (Y : Ym) (h : Y.1.cls = RX7) : MtL Y 220 YX7_agrees := Or.inl (by rw [h]; exact g_in (List.mem_of_getElem? (i := 867) (by decide +kernel)) rfl)
theorem lL_120 (Y : Ym) (h : Y.1.cls = RL) : MtL Y 120 YX7_gone := Or.inl (by rw [h]; exact g_in (List.mem_of_getElem? (i := 871) (by decide +kernel)) rfl)
theorem kX7_224 (Y : Ym) (h : Y.1.cls = RX7) : Cond.constantLong Y.1.cls 224 10 ∈ gtbl := by rw [h]; exact g_in (List.mem_of_getElem? (i := 875) (by decide +kernel)) rfl
theorem lL_125 (Y : Ym) (h : Y.1.cls = RL) : MtL Y 125 YX7_seed := Or.inl (by rw [h]; exact g_in (List.mem_of_getElem? (i := 876) (by decide +kernel)) rfl)
theorem lL_129 (Y : Ym) (h : Y.1.cls = RL) : MtL Y 129 YX7_drawn := Or.inl (by rw [h]; exact g_in (List.mem_of_getElem? (i := 880) (by decide +kernel)) rfl)
theorem kX7_230 (Y : Ym) (h : Y.1.cls = RX7) : Cond.constantLong Y.1.cls 230 20 ∈ gtbl := by rw [h]; exact g_in (List.mem_of_getElem? (i := 884) (by decide +kernel)) rfl
theorem kX7_232 (Y : Ym) (h : Y.1.cls = RX7) : Cond.constantLong Y.1.cls 232 6364136223846793005 ∈ gtbl := by rw [h]; exact g_in (List.mem_of_getElem? (i := 885) (by decide +kernel)) rfl
theorem kX7_234 (Y : Ym) (h : Y.1.cls = RX7) : Cond.constantLong Y.1.cls 234 1442695040888963407 ∈ gtbl := by rw [h]; exact g_in (List.mem_of_getElem? (i := 886) (by decide +kernel)) rfl
theorem lL_133 (Y : Ym) (h : Y.1.cls = RL) : MtL Y 133 YX7_keep := Or.inl (by rw [h]; exact g_in (List.mem_of_getElem? (i := 887) (by decide +kernel)) rfl)
theorem lL_137 (Y : Ym) (h : Y.1.cls = RL) : MtL Y 137 YX7_again := Or.inl (by rw [h]; exact g_in (List.mem_of_getElem? (i := 891) (by decide +kernel)) rfl)
theorem kL_92 (Y : Ym) (h : Y.1.cls = RL) : Cond.constantLong Y.1.cls 92 4294967295 ∈ gtbl := by rw [h]; exact g_in (List.mem_of_getElem? (i := 895) (by decide +kernel)) rfl
theorem mcX0_add : MtC YX0_add 3 := ⟨g_in (List.mem_of_getElem? (i := 60) (by decide +kernel)) rfl, g_in (List.mem_of_getElem? (i := 412) (by decide +kernel)) rfl, by decide +kernel, by decide⟩
theorem mvX0_add : MtV YX0_add := ⟨g_in (List.mem_of_getElem? (i := 411) (by decide +kernel)) rfl, g_in (List.mem_of_getElem? (i := 21) (by decide +kernel)) rfl⟩
theorem mcX0_forgetFirst : MtC YX0_forgetFirst 0 := ⟨g_in (List.mem_of_getElem? (i := 60) (by decide +kernel)) rfl, g_in (List.mem_of_getElem? (i := 416) (by decide +kernel)) rfl, by decide +kernel, by decide⟩
theorem mvX0_forgetFirst : MtV YX0_forgetFirst := ⟨g_in (List.mem_of_getElem? (i := 415) (by decide +kernel)) rfl, g_in (List.mem_of_getElem? (i := 22) (by decide +kernel)) rfl⟩
theorem mcX2_stockUp : MtC YX2_stockUp 2 := ⟨g_in (List.mem_of_getElem? (i := 58) (by decide +kernel)) rfl, g_in (List.mem_of_getElem? (i := 328) (by decide +kernel)) rfl, by decide +kernel, by decide⟩
theorem mvX2_stockUp : MtV YX2_stockUp := ⟨g_in (List.mem_of_getElem? (i := 327) (by decide +kernel)) rfl, g_in (List.mem_of_getElem? (i := 5) (by decide +kernel)) rfl⟩
theorem mcX2_canServe : MtC YX2_canServe 3 := ⟨g_in (List.mem_of_getElem? (i := 58) (by decide +kernel)) rfl, g_in (List.mem_of_getElem? (i := 339) (by decide +kernel)) rfl, by decide +kernel, by decide⟩
theorem mvX2_canServe : MtV YX2_canServe := ⟨g_in (List.mem_of_getElem? (i := 338) (by decide +kernel)) rfl, g_in (List.mem_of_getElem? (i := 7) (by decide +kernel)) rfl⟩
theorem mcX2_takeTried : MtC YX2_takeTried 2 := ⟨g_in (List.mem_of_getElem? (i := 58) (by decide +kernel)) rfl, g_in (List.mem_of_getElem? (i := 335) (by decide +kernel)) rfl, by decide +kernel, by decide⟩
theorem mvX2_takeTried : MtV YX2_takeTried := ⟨g_in (List.mem_of_getElem? (i := 334) (by decide +kernel)) rfl, g_in (List.mem_of_getElem? (i := 6) (by decide +kernel)) rfl⟩
theorem mcX2_unitsBy : MtC YX2_unitsBy 2 := ⟨g_in (List.mem_of_getElem? (i := 58) (by decide +kernel)) rfl, g_in (List.mem_of_getElem? (i := 366) (by decide +kernel)) rfl, by decide +kernel, by decide⟩
theorem mvX2_unitsBy : MtV YX2_unitsBy := ⟨g_in (List.mem_of_getElem? (i := 365) (by decide +kernel)) rfl, g_in (List.mem_of_getElem? (i := 13) (by decide +kernel)) rfl⟩
theorem mcX2_smells : MtC YX2_smells 1 := ⟨g_in (List.mem_of_getElem? (i := 58) (by decide +kernel)) rfl, g_in (List.mem_of_getElem? (i := 362) (by decide +kernel)) rfl, by decide +kernel, by decide⟩
theorem mvX2_smells : MtV YX2_smells := ⟨g_in (List.mem_of_getElem? (i := 361) (by decide +kernel)) rfl, g_in (List.mem_of_getElem? (i := 12) (by decide +kernel)) rfl⟩
theorem mcX3_add : MtC YX3_add 3 := ⟨g_in (List.mem_of_getElem? (i := 61) (by decide +kernel)) rfl, g_in (List.mem_of_getElem? (i := 512) (by decide +kernel)) rfl, by decide +kernel, by decide⟩
theorem mvX3_add : MtV YX3_add := ⟨g_in (List.mem_of_getElem? (i := 511) (by decide +kernel)) rfl, g_in (List.mem_of_getElem? (i := 28) (by decide +kernel)) rfl⟩
theorem mcX4_become : MtC YX4_become 1 := ⟨g_in (List.mem_of_getElem? (i := 57) (by decide +kernel)) rfl, g_in (List.mem_of_getElem? (i := 312) (by decide +kernel)) rfl, by decide +kernel, by decide⟩
theorem mvX4_become : MtV YX4_become := ⟨g_in (List.mem_of_getElem? (i := 311) (by decide +kernel)) rfl, g_in (List.mem_of_getElem? (i := 2) (by decide +kernel)) rfl⟩
theorem mcX4_hasField : MtC YX4_hasField 1 := ⟨g_in (List.mem_of_getElem? (i := 57) (by decide +kernel)) rfl, g_in (List.mem_of_getElem? (i := 374) (by decide +kernel)) rfl, by decide +kernel, by decide⟩
theorem mvX4_hasField : MtV YX4_hasField := ⟨g_in (List.mem_of_getElem? (i := 373) (by decide +kernel)) rfl, g_in (List.mem_of_getElem? (i := 14) (by decide +kernel)) rfl⟩
theorem mcX4_hasMaker : MtC YX4_hasMaker 1 := ⟨g_in (List.mem_of_getElem? (i := 57) (by decide +kernel)) rfl, g_in (List.mem_of_getElem? (i := 382) (by decide +kernel)) rfl, by decide +kernel, by decide⟩
theorem mvX4_hasMaker : MtV YX4_hasMaker := ⟨g_in (List.mem_of_getElem? (i := 381) (by decide +kernel)) rfl, g_in (List.mem_of_getElem? (i := 15) (by decide +kernel)) rfl⟩
theorem mcX4_hasLeague : MtC YX4_hasLeague 1 := ⟨g_in (List.mem_of_getElem? (i := 57) (by decide +kernel)) rfl, g_in (List.mem_of_getElem? (i := 464) (by decide +kernel)) rfl, by decide +kernel, by decide⟩
theorem mvX4_hasLeague : MtV YX4_hasLeague := ⟨g_in (List.mem_of_getElem? (i := 463) (by decide +kernel)) rfl, g_in (List.mem_of_getElem? (i := 24) (by decide +kernel)) rfl⟩
theorem mcX4_allMakers : MtC YX4_allMakers 0 := ⟨g_in (List.mem_of_getElem? (i := 57) (by decide +kernel)) rfl, g_in (List.mem_of_getElem? (i := 320) (by decide +kernel)) rfl, by decide +kernel, by decide⟩
theorem mvX4_allMakers : MtV YX4_allMakers := ⟨g_in (List.mem_of_getElem? (i := 319) (by decide +kernel)) rfl, g_in (List.mem_of_getElem? (i := 3) (by decide +kernel)) rfl⟩
theorem mcX4_makes : MtC YX4_makes 2 := ⟨g_in (List.mem_of_getElem? (i := 57) (by decide +kernel)) rfl, g_in (List.mem_of_getElem? (i := 343) (by decide +kernel)) rfl, by decide +kernel, by decide⟩
theorem mvX4_makes : MtV YX4_makes := ⟨g_in (List.mem_of_getElem? (i := 342) (by decide +kernel)) rfl, g_in (List.mem_of_getElem? (i := 8) (by decide +kernel)) rfl⟩
theorem mcX4_couldBeSecondHand : MtC YX4_couldBeSecondHand 1 := ⟨g_in (List.mem_of_getElem? (i := 57) (by decide +kernel)) rfl, g_in (List.mem_of_getElem? (i := 347) (by decide +kernel)) rfl, by decide +kernel, by decide⟩
theorem mvX4_couldBeSecondHand : MtV YX4_couldBeSecondHand := ⟨g_in (List.mem_of_getElem? (i := 346) (by decide +kernel)) rfl, g_in (List.mem_of_getElem? (i := 9) (by decide +kernel)) rfl⟩
theorem mcX4_refusal : MtC YX4_refusal 3 := ⟨g_in (List.mem_of_getElem? (i := 57) (by decide +kernel)) rfl, g_in (List.mem_of_getElem? (i := 402) (by decide +kernel)) rfl, by decide +kernel, by decide⟩
theorem mvX4_refusal : MtV YX4_refusal := ⟨g_in (List.mem_of_getElem? (i := 401) (by decide +kernel)) rfl, g_in (List.mem_of_getElem? (i := 19) (by decide +kernel)) rfl⟩
theorem mcX4_change : MtC YX4_change 3 := ⟨g_in (List.mem_of_getElem? (i := 57) (by decide +kernel)) rfl, g_in (List.mem_of_getElem? (i := 408) (by decide +kernel)) rfl, by decide +kernel, by decide⟩
theorem mvX4_change : MtV YX4_change := ⟨g_in (List.mem_of_getElem? (i := 407) (by decide +kernel)) rfl, g_in (List.mem_of_getElem? (i := 20) (by decide +kernel)) rfl⟩
theorem mcX5_append : MtC YX5_append 1 := ⟨g_in (List.mem_of_getElem? (i := 56) (by decide +kernel)) rfl, g_in (List.mem_of_getElem? (i := 268) (by decide +kernel)) rfl, by decide +kernel, by decide⟩
theorem mvX5_append : MtV YX5_append := ⟨g_in (List.mem_of_getElem? (i := 267) (by decide +kernel)) rfl, g_in (List.mem_of_getElem? (i := 0) (by decide +kernel)) rfl⟩
theorem mcX5_readInto : MtC YX5_readInto 1 := ⟨g_in (List.mem_of_getElem? (i := 56) (by decide +kernel)) rfl, g_in (List.mem_of_getElem? (i := 280) (by decide +kernel)) rfl, by decide +kernel, by decide⟩
theorem mvX5_readInto : MtV YX5_readInto := ⟨g_in (List.mem_of_getElem? (i := 279) (by decide +kernel)) rfl, g_in (List.mem_of_getElem? (i := 1) (by decide +kernel)) rfl⟩
theorem mcX5_behind : MtC YX5_behind 3 := ⟨g_in (List.mem_of_getElem? (i := 56) (by decide +kernel)) rfl, g_in (List.mem_of_getElem? (i := 283) (by decide +kernel)) rfl, by decide +kernel, by decide⟩
theorem msX5_behind : Cond.static YX5_behind.1 ∈ gtbl := g_in (List.mem_of_getElem? (i := 282) (by decide +kernel)) rfl
theorem mcX5_behindHead : MtC YX5_behindHead 2 := ⟨g_in (List.mem_of_getElem? (i := 56) (by decide +kernel)) rfl, g_in (List.mem_of_getElem? (i := 286) (by decide +kernel)) rfl, by decide +kernel, by decide⟩
theorem msX5_behindHead : Cond.static YX5_behindHead.1 ∈ gtbl := g_in (List.mem_of_getElem? (i := 285) (by decide +kernel)) rfl
theorem mcX5_behindFieldWeather : MtC YX5_behindFieldWeather 2 := ⟨g_in (List.mem_of_getElem? (i := 56) (by decide +kernel)) rfl, g_in (List.mem_of_getElem? (i := 289) (by decide +kernel)) rfl, by decide +kernel, by decide⟩
theorem msX5_behindFieldWeather : Cond.static YX5_behindFieldWeather.1 ∈ gtbl := g_in (List.mem_of_getElem? (i := 288) (by decide +kernel)) rfl
theorem mcX5_behindFieldUnits : MtC YX5_behindFieldUnits 2 := ⟨g_in (List.mem_of_getElem? (i := 56) (by decide +kernel)) rfl, g_in (List.mem_of_getElem? (i := 295) (by decide +kernel)) rfl, by decide +kernel, by decide⟩
theorem msX5_behindFieldUnits : Cond.static YX5_behindFieldUnits.1 ∈ gtbl := g_in (List.mem_of_getElem? (i := 294) (by decide +kernel)) rfl
theorem mcX5_behindMakerWeatherOrStock : MtC YX5_behindMakerWeatherOrStock 2 := ⟨g_in (List.mem_of_getElem? (i := 56) (by decide +kernel)) rfl, g_in (List.mem_of_getElem? (i := 298) (by decide +kernel)) rfl, by decide +kernel, by decide⟩
theorem msX5_behindMakerWeatherOrStock : Cond.static YX5_behindMakerWeatherOrStock.1 ∈ gtbl := g_in (List.mem_of_getElem? (i := 297) (by decide +kernel)) rfl
theorem mcX5_behindMakerPrice : MtC YX5_behindMakerPrice 2 := ⟨g_in (List.mem_of_getElem? (i := 56) (by decide +kernel)) rfl, g_in (List.mem_of_getElem? (i := 304) (by decide +kernel)) rfl, by decide +kernel, by decide⟩
theorem msX5_behindMakerPrice : Cond.static YX5_behindMakerPrice.1 ∈ gtbl := g_in (List.mem_of_getElem? (i := 303) (by decide +kernel)) rfl
theorem mcX5_isFigure : MtC YX5_isFigure 1 := ⟨g_in (List.mem_of_getElem? (i := 56) (by decide +kernel)) rfl, g_in (List.mem_of_getElem? (i := 301) (by decide +kernel)) rfl, by decide +kernel, by decide⟩
theorem msX5_isFigure : Cond.static YX5_isFigure.1 ∈ gtbl := g_in (List.mem_of_getElem? (i := 300) (by decide +kernel)) rfl
theorem mcX5_weatherOf : MtC YX5_weatherOf 1 := ⟨g_in (List.mem_of_getElem? (i := 56) (by decide +kernel)) rfl, g_in (List.mem_of_getElem? (i := 292) (by decide +kernel)) rfl, by decide +kernel, by decide⟩
theorem msX5_weatherOf : Cond.static YX5_weatherOf.1 ∈ gtbl := g_in (List.mem_of_getElem? (i := 291) (by decide +kernel)) rfl
theorem mcX6_write : MtC YX6_write 1 := ⟨g_in (List.mem_of_getElem? (i := 55) (by decide +kernel)) rfl, g_in (List.mem_of_getElem? (i := 264) (by decide +kernel)) rfl, by decide +kernel, by decide⟩
theorem mvX6_write : MtV YX6_write := ⟨g_in (List.mem_of_getElem? (i := 262) (by decide +kernel)) rfl, g_in (List.mem_of_getElem? (i := 263) (by decide +kernel)) rfl⟩
theorem mcX6_wipe : MtC YX6_wipe 0 := ⟨g_in (List.mem_of_getElem? (i := 55) (by decide +kernel)) rfl, g_in (List.mem_of_getElem? (i := 272) (by decide +kernel)) rfl, by decide +kernel, by decide⟩
theorem mvX6_wipe : MtV YX6_wipe := ⟨g_in (List.mem_of_getElem? (i := 270) (by decide +kernel)) rfl, g_in (List.mem_of_getElem? (i := 271) (by decide +kernel)) rfl⟩
theorem mcX6_fault : MtC YX6_fault 0 := ⟨g_in (List.mem_of_getElem? (i := 55) (by decide +kernel)) rfl, g_in (List.mem_of_getElem? (i := 276) (by decide +kernel)) rfl, by decide +kernel, by decide⟩
theorem mvX6_fault : MtV YX6_fault := ⟨g_in (List.mem_of_getElem? (i := 274) (by decide +kernel)) rfl, g_in (List.mem_of_getElem? (i := 275) (by decide +kernel)) rfl⟩
theorem mcX6_tender : MtC YX6_tender 0 := ⟨g_in (List.mem_of_getElem? (i := 55) (by decide +kernel)) rfl, g_in (List.mem_of_getElem? (i := 308) (by decide +kernel)) rfl, by decide +kernel, by decide⟩
theorem mvX6_tender : MtV YX6_tender := ⟨g_in (List.mem_of_getElem? (i := 306) (by decide +kernel)) rfl, g_in (List.mem_of_getElem? (i := 307) (by decide +kernel)) rfl⟩
theorem mcX6_about : MtC YX6_about 1 := ⟨g_in (List.mem_of_getElem? (i := 55) (by decide +kernel)) rfl, g_in (List.mem_of_getElem? (i := 316) (by decide +kernel)) rfl, by decide +kernel, by decide⟩
theorem mvX6_about : MtV YX6_about := ⟨g_in (List.mem_of_getElem? (i := 314) (by decide +kernel)) rfl, g_in (List.mem_of_getElem? (i := 315) (by decide +kernel)) rfl⟩
theorem mcX6_field : MtC YX6_field 2 := ⟨g_in (List.mem_of_getElem? (i := 55) (by decide +kernel)) rfl, g_in (List.mem_of_getElem? (i := 370) (by decide +kernel)) rfl, by decide +kernel, by decide⟩
theorem mvX6_field : MtV YX6_field := ⟨g_in (List.mem_of_getElem? (i := 368) (by decide +kernel)) rfl, g_in (List.mem_of_getElem? (i := 369) (by decide +kernel)) rfl⟩
theorem mcX6_maker : MtC YX6_maker 2 := ⟨g_in (List.mem_of_getElem? (i := 55) (by decide +kernel)) rfl, g_in (List.mem_of_getElem? (i := 378) (by decide +kernel)) rfl, by decide +kernel, by decide⟩
theorem mvX6_maker : MtV YX6_maker := ⟨g_in (List.mem_of_getElem? (i := 376) (by decide +kernel)) rfl, g_in (List.mem_of_getElem? (i := 377) (by decide +kernel)) rfl⟩
theorem mcX6_reprice : MtC YX6_reprice 2 := ⟨g_in (List.mem_of_getElem? (i := 55) (by decide +kernel)) rfl, g_in (List.mem_of_getElem? (i := 394) (by decide +kernel)) rfl, by decide +kernel, by decide⟩
theorem mvX6_reprice : MtV YX6_reprice := ⟨g_in (List.mem_of_getElem? (i := 392) (by decide +kernel)) rfl, g_in (List.mem_of_getElem? (i := 393) (by decide +kernel)) rfl⟩
theorem mcX6_restock : MtC YX6_restock 2 := ⟨g_in (List.mem_of_getElem? (i := 55) (by decide +kernel)) rfl, g_in (List.mem_of_getElem? (i := 420) (by decide +kernel)) rfl, by decide +kernel, by decide⟩
theorem mvX6_restock : MtV YX6_restock := ⟨g_in (List.mem_of_getElem? (i := 418) (by decide +kernel)) rfl, g_in (List.mem_of_getElem? (i := 419) (by decide +kernel)) rfl⟩
theorem mcX6_want : MtC YX6_want 2 := ⟨g_in (List.mem_of_getElem? (i := 55) (by decide +kernel)) rfl, g_in (List.mem_of_getElem? (i := 424) (by decide +kernel)) rfl, by decide +kernel, by decide⟩
theorem mvX6_want : MtV YX6_want := ⟨g_in (List.mem_of_getElem? (i := 422) (by decide +kernel)) rfl, g_in (List.mem_of_getElem? (i := 423) (by decide +kernel)) rfl⟩
theorem mcX6_bear : MtC YX6_bear 1 := ⟨g_in (List.mem_of_getElem? (i := 55) (by decide +kernel)) rfl, g_in (List.mem_of_getElem? (i := 428) (by decide +kernel)) rfl, by decide +kernel, by decide⟩
theorem mvX6_bear : MtV YX6_bear := ⟨g_in (List.mem_of_getElem? (i := 426) (by decide +kernel)) rfl, g_in (List.mem_of_getElem? (i := 427) (by decide +kernel)) rfl⟩
theorem mcX6_undo : MtC YX6_undo 0 := ⟨g_in (List.mem_of_getElem? (i := 55) (by decide +kernel)) rfl, g_in (List.mem_of_getElem? (i := 432) (by decide +kernel)) rfl, by decide +kernel, by decide⟩
theorem mvX6_undo : MtV YX6_undo := ⟨g_in (List.mem_of_getElem? (i := 430) (by decide +kernel)) rfl, g_in (List.mem_of_getElem? (i := 431) (by decide +kernel)) rfl⟩
theorem mcX6_doNow : MtC YX6_doNow 3 := ⟨g_in (List.mem_of_getElem? (i := 55) (by decide +kernel)) rfl, g_in (List.mem_of_getElem? (i := 398) (by decide +kernel)) rfl, by decide +kernel, by decide⟩
theorem mvX6_doNow : MtV YX6_doNow := ⟨g_in (List.mem_of_getElem? (i := 397) (by decide +kernel)) rfl, g_in (List.mem_of_getElem? (i := 18) (by decide +kernel)) rfl⟩
theorem mcX6_best : MtC YX6_best 0 := ⟨g_in (List.mem_of_getElem? (i := 55) (by decide +kernel)) rfl, g_in (List.mem_of_getElem? (i := 436) (by decide +kernel)) rfl, by decide +kernel, by decide⟩
theorem mvX6_best : MtV YX6_best := ⟨g_in (List.mem_of_getElem? (i := 434) (by decide +kernel)) rfl, g_in (List.mem_of_getElem? (i := 435) (by decide +kernel)) rfl⟩
theorem mcX6_cost : MtC YX6_cost 1 := ⟨g_in (List.mem_of_getElem? (i := 55) (by decide +kernel)) rfl, g_in (List.mem_of_getElem? (i := 443) (by decide +kernel)) rfl, by decide +kernel, by decide⟩
theorem mvX6_cost : MtV YX6_cost := ⟨g_in (List.mem_of_getElem? (i := 441) (by decide +kernel)) rfl, g_in (List.mem_of_getElem? (i := 442) (by decide +kernel)) rfl⟩
theorem mcX6_gain : MtC YX6_gain 2 := ⟨g_in (List.mem_of_getElem? (i := 55) (by decide +kernel)) rfl, g_in (List.mem_of_getElem? (i := 452) (by decide +kernel)) rfl, by decide +kernel, by decide⟩
theorem mvX6_gain : MtV YX6_gain := ⟨g_in (List.mem_of_getElem? (i := 450) (by decide +kernel)) rfl, g_in (List.mem_of_getElem? (i := 451) (by decide +kernel)) rfl⟩
theorem mcX6_ran : MtC YX6_ran 1 := ⟨g_in (List.mem_of_getElem? (i := 55) (by decide +kernel)) rfl, g_in (List.mem_of_getElem? (i := 456) (by decide +kernel)) rfl, by decide +kernel, by decide⟩
theorem mvX6_ran : MtV YX6_ran := ⟨g_in (List.mem_of_getElem? (i := 454) (by decide +kernel)) rfl, g_in (List.mem_of_getElem? (i := 455) (by decide +kernel)) rfl⟩
theorem mcX6_least : MtC YX6_least 1 := ⟨g_in (List.mem_of_getElem? (i := 55) (by decide +kernel)) rfl, g_in (List.mem_of_getElem? (i := 460) (by decide +kernel)) rfl, by decide +kernel, by decide⟩
theorem mvX6_least : MtV YX6_least := ⟨g_in (List.mem_of_getElem? (i := 458) (by decide +kernel)) rfl, g_in (List.mem_of_getElem? (i := 459) (by decide +kernel)) rfl⟩
theorem mcX6_most : MtC YX6_most 1 := ⟨g_in (List.mem_of_getElem? (i := 55) (by decide +kernel)) rfl, g_in (List.mem_of_getElem? (i := 469) (by decide +kernel)) rfl, by decide +kernel, by decide⟩
theorem mvX6_most : MtV YX6_most := ⟨g_in (List.mem_of_getElem? (i := 467) (by decide +kernel)) rfl, g_in (List.mem_of_getElem? (i := 468) (by decide +kernel)) rfl⟩
theorem mcX6_holds : MtC YX6_holds 1 := ⟨g_in (List.mem_of_getElem? (i := 55) (by decide +kernel)) rfl, g_in (List.mem_of_getElem? (i := 473) (by decide +kernel)) rfl, by decide +kernel, by decide⟩
theorem mvX6_holds : MtV YX6_holds := ⟨g_in (List.mem_of_getElem? (i := 471) (by decide +kernel)) rfl, g_in (List.mem_of_getElem? (i := 472) (by decide +kernel)) rfl⟩
theorem mcX6_judge : MtC YX6_judge 2 := ⟨g_in (List.mem_of_getElem? (i := 55) (by decide +kernel)) rfl, g_in (List.mem_of_getElem? (i := 481) (by decide +kernel)) rfl, by decide +kernel, by decide⟩
theorem mvX6_judge : MtV YX6_judge := ⟨g_in (List.mem_of_getElem? (i := 479) (by decide +kernel)) rfl, g_in (List.mem_of_getElem? (i := 480) (by decide +kernel)) rfl⟩
theorem mcX6_share : MtC YX6_share 2 := ⟨g_in (List.mem_of_getElem? (i := 55) (by decide +kernel)) rfl, g_in (List.mem_of_getElem? (i := 493) (by decide +kernel)) rfl, by decide +kernel, by decide⟩
theorem mvX6_share : MtV YX6_share := ⟨g_in (List.mem_of_getElem? (i := 491) (by decide +kernel)) rfl, g_in (List.mem_of_getElem? (i := 492) (by decide +kernel)) rfl⟩
theorem mcX6_see : MtC YX6_see 3 := ⟨g_in (List.mem_of_getElem? (i := 55) (by decide +kernel)) rfl, g_in (List.mem_of_getElem? (i := 508) (by decide +kernel)) rfl, by decide +kernel, by decide⟩
theorem mvX6_see : MtV YX6_see := ⟨g_in (List.mem_of_getElem? (i := 506) (by decide +kernel)) rfl, g_in (List.mem_of_getElem? (i := 507) (by decide +kernel)) rfl⟩
theorem mcX6_unsee : MtC YX6_unsee 0 := ⟨g_in (List.mem_of_getElem? (i := 55) (by decide +kernel)) rfl, g_in (List.mem_of_getElem? (i := 516) (by decide +kernel)) rfl, by decide +kernel, by decide⟩
theorem mvX6_unsee : MtV YX6_unsee := ⟨g_in (List.mem_of_getElem? (i := 514) (by decide +kernel)) rfl, g_in (List.mem_of_getElem? (i := 515) (by decide +kernel)) rfl⟩
theorem mcX6_which : MtC YX6_which 1 := ⟨g_in (List.mem_of_getElem? (i := 55) (by decide +kernel)) rfl, g_in (List.mem_of_getElem? (i := 520) (by decide +kernel)) rfl, by decide +kernel, by decide⟩
theorem mvX6_which : MtV YX6_which := ⟨g_in (List.mem_of_getElem? (i := 518) (by decide +kernel)) rfl, g_in (List.mem_of_getElem? (i := 519) (by decide +kernel)) rfl⟩
theorem mcX6_gone : MtC YX6_gone 2 := ⟨g_in (List.mem_of_getElem? (i := 55) (by decide +kernel)) rfl, g_in (List.mem_of_getElem? (i := 528) (by decide +kernel)) rfl, by decide +kernel, by decide⟩
theorem mvX6_gone : MtV YX6_gone := ⟨g_in (List.mem_of_getElem? (i := 526) (by decide +kernel)) rfl, g_in (List.mem_of_getElem? (i := 527) (by decide +kernel)) rfl⟩
theorem mcX6_seed : MtC YX6_seed 1 := ⟨g_in (List.mem_of_getElem? (i := 55) (by decide +kernel)) rfl, g_in (List.mem_of_getElem? (i := 536) (by decide +kernel)) rfl, by decide +kernel, by decide⟩
theorem mvX6_seed : MtV YX6_seed := ⟨g_in (List.mem_of_getElem? (i := 534) (by decide +kernel)) rfl, g_in (List.mem_of_getElem? (i := 535) (by decide +kernel)) rfl⟩
theorem mcX6_drawn : MtC YX6_drawn 1 := ⟨g_in (List.mem_of_getElem? (i := 55) (by decide +kernel)) rfl, g_in (List.mem_of_getElem? (i := 540) (by decide +kernel)) rfl, by decide +kernel, by decide⟩
theorem mvX6_drawn : MtV YX6_drawn := ⟨g_in (List.mem_of_getElem? (i := 538) (by decide +kernel)) rfl, g_in (List.mem_of_getElem? (i := 539) (by decide +kernel)) rfl⟩
theorem mcX6_keep : MtC YX6_keep 1 := ⟨g_in (List.mem_of_getElem? (i := 55) (by decide +kernel)) rfl, g_in (List.mem_of_getElem? (i := 546) (by decide +kernel)) rfl, by decide +kernel, by decide⟩
theorem mvX6_keep : MtV YX6_keep := ⟨g_in (List.mem_of_getElem? (i := 544) (by decide +kernel)) rfl, g_in (List.mem_of_getElem? (i := 545) (by decide +kernel)) rfl⟩
theorem mcX6_again : MtC YX6_again 1 := ⟨g_in (List.mem_of_getElem? (i := 55) (by decide +kernel)) rfl, g_in (List.mem_of_getElem? (i := 554) (by decide +kernel)) rfl, by decide +kernel, by decide⟩
theorem mvX6_again : MtV YX6_again := ⟨g_in (List.mem_of_getElem? (i := 552) (by decide +kernel)) rfl, g_in (List.mem_of_getElem? (i := 553) (by decide +kernel)) rfl⟩
theorem mcX6_roomOf : MtC YX6_roomOf 1 := ⟨g_in (List.mem_of_getElem? (i := 55) (by decide +kernel)) rfl, g_in (List.mem_of_getElem? (i := 550) (by decide +kernel)) rfl, by decide +kernel, by decide⟩
theorem mvX6_roomOf : MtV YX6_roomOf := ⟨g_in (List.mem_of_getElem? (i := 549) (by decide +kernel)) rfl, g_in (List.mem_of_getElem? (i := 31) (by decide +kernel)) rfl⟩
theorem mcX6_cheapest : MtC YX6_cheapest 2 := ⟨g_in (List.mem_of_getElem? (i := 55) (by decide +kernel)) rfl, g_in (List.mem_of_getElem? (i := 324) (by decide +kernel)) rfl, by decide +kernel, by decide⟩
theorem mvX6_cheapest : MtV YX6_cheapest := ⟨g_in (List.mem_of_getElem? (i := 323) (by decide +kernel)) rfl, g_in (List.mem_of_getElem? (i := 4) (by decide +kernel)) rfl⟩
theorem mcX6_serveFrom : MtC YX6_serveFrom 5 := ⟨g_in (List.mem_of_getElem? (i := 55) (by decide +kernel)) rfl, g_in (List.mem_of_getElem? (i := 331) (by decide +kernel)) rfl, by decide +kernel, by decide⟩
theorem msX6_serveFrom : Cond.static YX6_serveFrom.1 ∈ gtbl := g_in (List.mem_of_getElem? (i := 330) (by decide +kernel)) rfl
theorem mcX6_mostServed : MtC YX6_mostServed 2 := ⟨g_in (List.mem_of_getElem? (i := 55) (by decide +kernel)) rfl, g_in (List.mem_of_getElem? (i := 351) (by decide +kernel)) rfl, by decide +kernel, by decide⟩
theorem mvX6_mostServed : MtV YX6_mostServed := ⟨g_in (List.mem_of_getElem? (i := 350) (by decide +kernel)) rfl, g_in (List.mem_of_getElem? (i := 10) (by decide +kernel)) rfl⟩
theorem mcX6_countFrom : MtC YX6_countFrom 5 := ⟨g_in (List.mem_of_getElem? (i := 55) (by decide +kernel)) rfl, g_in (List.mem_of_getElem? (i := 354) (by decide +kernel)) rfl, by decide +kernel, by decide⟩
theorem msX6_countFrom : Cond.static YX6_countFrom.1 ∈ gtbl := g_in (List.mem_of_getElem? (i := 353) (by decide +kernel)) rfl
theorem mcX6_unitsInBest : MtC YX6_unitsInBest 2 := ⟨g_in (List.mem_of_getElem? (i := 55) (by decide +kernel)) rfl, g_in (List.mem_of_getElem? (i := 386) (by decide +kernel)) rfl, by decide +kernel, by decide⟩
theorem mvX6_unitsInBest : MtV YX6_unitsInBest := ⟨g_in (List.mem_of_getElem? (i := 385) (by decide +kernel)) rfl, g_in (List.mem_of_getElem? (i := 16) (by decide +kernel)) rfl⟩
theorem mcX6_paidTo : MtC YX6_paidTo 2 := ⟨g_in (List.mem_of_getElem? (i := 55) (by decide +kernel)) rfl, g_in (List.mem_of_getElem? (i := 390) (by decide +kernel)) rfl, by decide +kernel, by decide⟩
theorem mvX6_paidTo : MtV YX6_paidTo := ⟨g_in (List.mem_of_getElem? (i := 389) (by decide +kernel)) rfl, g_in (List.mem_of_getElem? (i := 17) (by decide +kernel)) rfl⟩
theorem mcX6_runYears : MtC YX6_runYears 0 := ⟨g_in (List.mem_of_getElem? (i := 55) (by decide +kernel)) rfl, g_in (List.mem_of_getElem? (i := 358) (by decide +kernel)) rfl, by decide +kernel, by decide⟩
theorem mvX6_runYears : MtV YX6_runYears := ⟨g_in (List.mem_of_getElem? (i := 357) (by decide +kernel)) rfl, g_in (List.mem_of_getElem? (i := 11) (by decide +kernel)) rfl⟩
theorem mcX6_sharesOf : MtC YX6_sharesOf 1 := ⟨g_in (List.mem_of_getElem? (i := 55) (by decide +kernel)) rfl, g_in (List.mem_of_getElem? (i := 477) (by decide +kernel)) rfl, by decide +kernel, by decide⟩
theorem mvX6_sharesOf : MtV YX6_sharesOf := ⟨g_in (List.mem_of_getElem? (i := 476) (by decide +kernel)) rfl, g_in (List.mem_of_getElem? (i := 25) (by decide +kernel)) rfl⟩
theorem mcX6_canBe : MtC YX6_canBe 1 := ⟨g_in (List.mem_of_getElem? (i := 55) (by decide +kernel)) rfl, g_in (List.mem_of_getElem? (i := 485) (by decide +kernel)) rfl, by decide +kernel, by decide⟩
theorem mvX6_canBe : MtV YX6_canBe := ⟨g_in (List.mem_of_getElem? (i := 484) (by decide +kernel)) rfl, g_in (List.mem_of_getElem? (i := 26) (by decide +kernel)) rfl⟩
theorem mcX6_changesTrial : MtC YX6_changesTrial 3 := ⟨g_in (List.mem_of_getElem? (i := 55) (by decide +kernel)) rfl, g_in (List.mem_of_getElem? (i := 489) (by decide +kernel)) rfl, by decide +kernel, by decide⟩
theorem mvX6_changesTrial : MtV YX6_changesTrial := ⟨g_in (List.mem_of_getElem? (i := 488) (by decide +kernel)) rfl, g_in (List.mem_of_getElem? (i := 27) (by decide +kernel)) rfl⟩
theorem mcX6_allSeenIsSo : MtC YX6_allSeenIsSo 1 := ⟨g_in (List.mem_of_getElem? (i := 55) (by decide +kernel)) rfl, g_in (List.mem_of_getElem? (i := 524) (by decide +kernel)) rfl, by decide +kernel, by decide⟩
theorem mvX6_allSeenIsSo : MtV YX6_allSeenIsSo := ⟨g_in (List.mem_of_getElem? (i := 523) (by decide +kernel)) rfl, g_in (List.mem_of_getElem? (i := 29) (by decide +kernel)) rfl⟩
theorem mcX6_chanceOfLeft : MtC YX6_chanceOfLeft 2 := ⟨g_in (List.mem_of_getElem? (i := 55) (by decide +kernel)) rfl, g_in (List.mem_of_getElem? (i := 532) (by decide +kernel)) rfl, by decide +kernel, by decide⟩
theorem mvX6_chanceOfLeft : MtV YX6_chanceOfLeft := ⟨g_in (List.mem_of_getElem? (i := 531) (by decide +kernel)) rfl, g_in (List.mem_of_getElem? (i := 30) (by decide +kernel)) rfl⟩
theorem mcX6_partOfFraction : MtC YX6_partOfFraction 3 := ⟨g_in (List.mem_of_getElem? (i := 55) (by decide +kernel)) rfl, g_in (List.mem_of_getElem? (i := 504) (by decide +kernel)) rfl, by decide +kernel, by decide⟩
theorem msX6_partOfFraction : Cond.static YX6_partOfFraction.1 ∈ gtbl := g_in (List.mem_of_getElem? (i := 503) (by decide +kernel)) rfl
theorem mcX6_spell : MtC YX6_spell 2 := ⟨g_in (List.mem_of_getElem? (i := 55) (by decide +kernel)) rfl, g_in (List.mem_of_getElem? (i := 447) (by decide +kernel)) rfl, by decide +kernel, by decide⟩
theorem mvX6_spell : MtV YX6_spell := ⟨g_in (List.mem_of_getElem? (i := 446) (by decide +kernel)) rfl, g_in (List.mem_of_getElem? (i := 23) (by decide +kernel)) rfl⟩
theorem mcX6_asFigures : MtC YX6_asFigures 2 := ⟨g_in (List.mem_of_getElem? (i := 55) (by decide +kernel)) rfl, g_in (List.mem_of_getElem? (i := 439) (by decide +kernel)) rfl, by decide +kernel, by decide⟩
theorem msX6_asFigures : Cond.static YX6_asFigures.1 ∈ gtbl := g_in (List.mem_of_getElem? (i := 438) (by decide +kernel)) rfl
theorem mcX7_in : MtC YX7_in 3 := ⟨g_in (List.mem_of_getElem? (i := 62) (by decide +kernel)) rfl, g_in (List.mem_of_getElem? (i := 662) (by decide +kernel)) rfl, by decide +kernel, by decide⟩
theorem msX7_in : Cond.static YX7_in.1 ∈ gtbl := g_in (List.mem_of_getElem? (i := 661) (by decide +kernel)) rfl
theorem mcX7_has : MtC YX7_has 2 := ⟨g_in (List.mem_of_getElem? (i := 62) (by decide +kernel)) rfl, g_in (List.mem_of_getElem? (i := 734) (by decide +kernel)) rfl, by decide +kernel, by decide⟩
theorem msX7_has : Cond.static YX7_has.1 ∈ gtbl := g_in (List.mem_of_getElem? (i := 733) (by decide +kernel)) rfl
theorem mcX7_power : MtC YX7_power 2 := ⟨g_in (List.mem_of_getElem? (i := 62) (by decide +kernel)) rfl, g_in (List.mem_of_getElem? (i := 715) (by decide +kernel)) rfl, by decide +kernel, by decide⟩
theorem msX7_power : Cond.static YX7_power.1 ∈ gtbl := g_in (List.mem_of_getElem? (i := 714) (by decide +kernel)) rfl
theorem mcX7_divisor : MtC YX7_divisor 2 := ⟨g_in (List.mem_of_getElem? (i := 62) (by decide +kernel)) rfl, g_in (List.mem_of_getElem? (i := 854) (by decide +kernel)) rfl, by decide +kernel, by decide⟩
theorem msX7_divisor : Cond.static YX7_divisor.1 ∈ gtbl := g_in (List.mem_of_getElem? (i := 853) (by decide +kernel)) rfl
theorem mcX7_fraction : MtC YX7_fraction 3 := ⟨g_in (List.mem_of_getElem? (i := 62) (by decide +kernel)) rfl, g_in (List.mem_of_getElem? (i := 851) (by decide +kernel)) rfl, by decide +kernel, by decide⟩
theorem msX7_fraction : Cond.static YX7_fraction.1 ∈ gtbl := g_in (List.mem_of_getElem? (i := 850) (by decide +kernel)) rfl
theorem mcX7_isField : MtC YX7_isField 1 := ⟨g_in (List.mem_of_getElem? (i := 62) (by decide +kernel)) rfl, g_in (List.mem_of_getElem? (i := 758) (by decide +kernel)) rfl, by decide +kernel, by decide⟩
theorem mvX7_isField : MtV YX7_isField := ⟨g_in (List.mem_of_getElem? (i := 757) (by decide +kernel)) rfl, g_in (List.mem_of_getElem? (i := 47) (by decide +kernel)) rfl⟩
theorem mcX7_isMaker : MtC YX7_isMaker 1 := ⟨g_in (List.mem_of_getElem? (i := 62) (by decide +kernel)) rfl, g_in (List.mem_of_getElem? (i := 731) (by decide +kernel)) rfl, by decide +kernel, by decide⟩
theorem mvX7_isMaker : MtV YX7_isMaker := ⟨g_in (List.mem_of_getElem? (i := 730) (by decide +kernel)) rfl, g_in (List.mem_of_getElem? (i := 42) (by decide +kernel)) rfl⟩
theorem mcX7_allMakers : MtC YX7_allMakers 0 := ⟨g_in (List.mem_of_getElem? (i := 62) (by decide +kernel)) rfl, g_in (List.mem_of_getElem? (i := 704) (by decide +kernel)) rfl, by decide +kernel, by decide⟩
theorem mvX7_allMakers : MtV YX7_allMakers := ⟨g_in (List.mem_of_getElem? (i := 703) (by decide +kernel)) rfl, g_in (List.mem_of_getElem? (i := 36) (by decide +kernel)) rfl⟩
theorem mcX7_write : MtC YX7_write 1 := ⟨g_in (List.mem_of_getElem? (i := 62) (by decide +kernel)) rfl, g_in (List.mem_of_getElem? (i := 658) (by decide +kernel)) rfl, by decide +kernel, by decide⟩
theorem mvX7_write : MtV YX7_write := ⟨g_in (List.mem_of_getElem? (i := 656) (by decide +kernel)) rfl, g_in (List.mem_of_getElem? (i := 657) (by decide +kernel)) rfl⟩
theorem mcX7_wipe : MtC YX7_wipe 0 := ⟨g_in (List.mem_of_getElem? (i := 62) (by decide +kernel)) rfl, g_in (List.mem_of_getElem? (i := 666) (by decide +kernel)) rfl, by decide +kernel, by decide⟩
theorem mvX7_wipe : MtV YX7_wipe := ⟨g_in (List.mem_of_getElem? (i := 664) (by decide +kernel)) rfl, g_in (List.mem_of_getElem? (i := 665) (by decide +kernel)) rfl⟩
theorem mcX7_weatherOf : MtC YX7_weatherOf 1 := ⟨g_in (List.mem_of_getElem? (i := 62) (by decide +kernel)) rfl, g_in (List.mem_of_getElem? (i := 681) (by decide +kernel)) rfl, by decide +kernel, by decide⟩
theorem msX7_weatherOf : Cond.static YX7_weatherOf.1 ∈ gtbl := g_in (List.mem_of_getElem? (i := 680) (by decide +kernel)) rfl
theorem mcX7_take : MtC YX7_take 1 := ⟨g_in (List.mem_of_getElem? (i := 62) (by decide +kernel)) rfl, g_in (List.mem_of_getElem? (i := 678) (by decide +kernel)) rfl, by decide +kernel, by decide⟩
theorem mvX7_take : MtV YX7_take := ⟨g_in (List.mem_of_getElem? (i := 677) (by decide +kernel)) rfl, g_in (List.mem_of_getElem? (i := 33) (by decide +kernel)) rfl⟩
theorem mcX7_takePart : MtC YX7_takePart 1 := ⟨g_in (List.mem_of_getElem? (i := 62) (by decide +kernel)) rfl, g_in (List.mem_of_getElem? (i := 687) (by decide +kernel)) rfl, by decide +kernel, by decide⟩
theorem mvX7_takePart : MtV YX7_takePart := ⟨g_in (List.mem_of_getElem? (i := 686) (by decide +kernel)) rfl, g_in (List.mem_of_getElem? (i := 34) (by decide +kernel)) rfl⟩
theorem mcX7_takeMore : MtC YX7_takeMore 2 := ⟨g_in (List.mem_of_getElem? (i := 62) (by decide +kernel)) rfl, g_in (List.mem_of_getElem? (i := 692) (by decide +kernel)) rfl, by decide +kernel, by decide⟩
theorem mvX7_takeMore : MtV YX7_takeMore := ⟨g_in (List.mem_of_getElem? (i := 691) (by decide +kernel)) rfl, g_in (List.mem_of_getElem? (i := 35) (by decide +kernel)) rfl⟩
theorem mcX7_readText : MtC YX7_readText 0 := ⟨g_in (List.mem_of_getElem? (i := 62) (by decide +kernel)) rfl, g_in (List.mem_of_getElem? (i := 674) (by decide +kernel)) rfl, by decide +kernel, by decide⟩
theorem mvX7_readText : MtV YX7_readText := ⟨g_in (List.mem_of_getElem? (i := 673) (by decide +kernel)) rfl, g_in (List.mem_of_getElem? (i := 32) (by decide +kernel)) rfl⟩
theorem mcX7_fault : MtC YX7_fault 0 := ⟨g_in (List.mem_of_getElem? (i := 62) (by decide +kernel)) rfl, g_in (List.mem_of_getElem? (i := 670) (by decide +kernel)) rfl, by decide +kernel, by decide⟩
theorem mvX7_fault : MtV YX7_fault := ⟨g_in (List.mem_of_getElem? (i := 668) (by decide +kernel)) rfl, g_in (List.mem_of_getElem? (i := 669) (by decide +kernel)) rfl⟩
theorem mcX7_tender : MtC YX7_tender 0 := ⟨g_in (List.mem_of_getElem? (i := 62) (by decide +kernel)) rfl, g_in (List.mem_of_getElem? (i := 696) (by decide +kernel)) rfl, by decide +kernel, by decide⟩
theorem mvX7_tender : MtV YX7_tender := ⟨g_in (List.mem_of_getElem? (i := 694) (by decide +kernel)) rfl, g_in (List.mem_of_getElem? (i := 695) (by decide +kernel)) rfl⟩
theorem mcX7_servedBy : MtC YX7_servedBy 3 := ⟨g_in (List.mem_of_getElem? (i := 62) (by decide +kernel)) rfl, g_in (List.mem_of_getElem? (i := 723) (by decide +kernel)) rfl, by decide +kernel, by decide⟩
theorem mvX7_servedBy : MtV YX7_servedBy := ⟨g_in (List.mem_of_getElem? (i := 722) (by decide +kernel)) rfl, g_in (List.mem_of_getElem? (i := 40) (by decide +kernel)) rfl⟩
theorem mcX7_mayServe : MtC YX7_mayServe 5 := ⟨g_in (List.mem_of_getElem? (i := 62) (by decide +kernel)) rfl, g_in (List.mem_of_getElem? (i := 727) (by decide +kernel)) rfl, by decide +kernel, by decide⟩
theorem mvX7_mayServe : MtV YX7_mayServe := ⟨g_in (List.mem_of_getElem? (i := 726) (by decide +kernel)) rfl, g_in (List.mem_of_getElem? (i := 41) (by decide +kernel)) rfl⟩
theorem mcX7_costOf : MtC YX7_costOf 4 := ⟨g_in (List.mem_of_getElem? (i := 62) (by decide +kernel)) rfl, g_in (List.mem_of_getElem? (i := 719) (by decide +kernel)) rfl, by decide +kernel, by decide⟩
theorem mvX7_costOf : MtV YX7_costOf := ⟨g_in (List.mem_of_getElem? (i := 718) (by decide +kernel)) rfl, g_in (List.mem_of_getElem? (i := 39) (by decide +kernel)) rfl⟩
theorem mcX7_find : MtC YX7_find 2 := ⟨g_in (List.mem_of_getElem? (i := 62) (by decide +kernel)) rfl, g_in (List.mem_of_getElem? (i := 712) (by decide +kernel)) rfl, by decide +kernel, by decide⟩
theorem mvX7_find : MtV YX7_find := ⟨g_in (List.mem_of_getElem? (i := 711) (by decide +kernel)) rfl, g_in (List.mem_of_getElem? (i := 38) (by decide +kernel)) rfl⟩
theorem mcX7_leastBy : MtC YX7_leastBy 2 := ⟨g_in (List.mem_of_getElem? (i := 62) (by decide +kernel)) rfl, g_in (List.mem_of_getElem? (i := 708) (by decide +kernel)) rfl, by decide +kernel, by decide⟩
theorem mvX7_leastBy : MtV YX7_leastBy := ⟨g_in (List.mem_of_getElem? (i := 707) (by decide +kernel)) rfl, g_in (List.mem_of_getElem? (i := 37) (by decide +kernel)) rfl⟩
theorem mcX7_unitsOf : MtC YX7_unitsOf 2 := ⟨g_in (List.mem_of_getElem? (i := 62) (by decide +kernel)) rfl, g_in (List.mem_of_getElem? (i := 750) (by decide +kernel)) rfl, by decide +kernel, by decide⟩
theorem mvX7_unitsOf : MtV YX7_unitsOf := ⟨g_in (List.mem_of_getElem? (i := 749) (by decide +kernel)) rfl, g_in (List.mem_of_getElem? (i := 46) (by decide +kernel)) rfl⟩
theorem mcX7_paid : MtC YX7_paid 2 := ⟨g_in (List.mem_of_getElem? (i := 62) (by decide +kernel)) rfl, g_in (List.mem_of_getElem? (i := 766) (by decide +kernel)) rfl, by decide +kernel, by decide⟩
theorem mvX7_paid : MtV YX7_paid := ⟨g_in (List.mem_of_getElem? (i := 765) (by decide +kernel)) rfl, g_in (List.mem_of_getElem? (i := 48) (by decide +kernel)) rfl⟩
theorem mcX7_mostOf : MtC YX7_mostOf 2 := ⟨g_in (List.mem_of_getElem? (i := 62) (by decide +kernel)) rfl, g_in (List.mem_of_getElem? (i := 738) (by decide +kernel)) rfl, by decide +kernel, by decide⟩
theorem mvX7_mostOf : MtV YX7_mostOf := ⟨g_in (List.mem_of_getElem? (i := 737) (by decide +kernel)) rfl, g_in (List.mem_of_getElem? (i := 43) (by decide +kernel)) rfl⟩
theorem mcX7_run : MtC YX7_run 0 := ⟨g_in (List.mem_of_getElem? (i := 62) (by decide +kernel)) rfl, g_in (List.mem_of_getElem? (i := 742) (by decide +kernel)) rfl, by decide +kernel, by decide⟩
theorem mvX7_run : MtV YX7_run := ⟨g_in (List.mem_of_getElem? (i := 741) (by decide +kernel)) rfl, g_in (List.mem_of_getElem? (i := 44) (by decide +kernel)) rfl⟩
theorem mcX7_layTrial : MtC YX7_layTrial 0 := ⟨g_in (List.mem_of_getElem? (i := 62) (by decide +kernel)) rfl, g_in (List.mem_of_getElem? (i := 746) (by decide +kernel)) rfl, by decide +kernel, by decide⟩
theorem mvX7_layTrial : MtV YX7_layTrial := ⟨g_in (List.mem_of_getElem? (i := 745) (by decide +kernel)) rfl, g_in (List.mem_of_getElem? (i := 45) (by decide +kernel)) rfl⟩
theorem mcX7_about : MtC YX7_about 1 := ⟨g_in (List.mem_of_getElem? (i := 62) (by decide +kernel)) rfl, g_in (List.mem_of_getElem? (i := 700) (by decide +kernel)) rfl, by decide +kernel, by decide⟩
theorem mvX7_about : MtV YX7_about := ⟨g_in (List.mem_of_getElem? (i := 698) (by decide +kernel)) rfl, g_in (List.mem_of_getElem? (i := 699) (by decide +kernel)) rfl⟩
theorem mcX7_field : MtC YX7_field 2 := ⟨g_in (List.mem_of_getElem? (i := 62) (by decide +kernel)) rfl, g_in (List.mem_of_getElem? (i := 754) (by decide +kernel)) rfl, by decide +kernel, by decide⟩
theorem mvX7_field : MtV YX7_field := ⟨g_in (List.mem_of_getElem? (i := 752) (by decide +kernel)) rfl, g_in (List.mem_of_getElem? (i := 753) (by decide +kernel)) rfl⟩
theorem mcX7_maker : MtC YX7_maker 2 := ⟨g_in (List.mem_of_getElem? (i := 62) (by decide +kernel)) rfl, g_in (List.mem_of_getElem? (i := 762) (by decide +kernel)) rfl, by decide +kernel, by decide⟩
theorem mvX7_maker : MtV YX7_maker := ⟨g_in (List.mem_of_getElem? (i := 760) (by decide +kernel)) rfl, g_in (List.mem_of_getElem? (i := 761) (by decide +kernel)) rfl⟩
theorem mcX7_change : MtC YX7_change 2 := ⟨g_in (List.mem_of_getElem? (i := 62) (by decide +kernel)) rfl, g_in (List.mem_of_getElem? (i := 775) (by decide +kernel)) rfl, by decide +kernel, by decide⟩
theorem mvX7_change : MtV YX7_change := ⟨g_in (List.mem_of_getElem? (i := 774) (by decide +kernel)) rfl, g_in (List.mem_of_getElem? (i := 49) (by decide +kernel)) rfl⟩
theorem mcX7_reprice : MtC YX7_reprice 2 := ⟨g_in (List.mem_of_getElem? (i := 62) (by decide +kernel)) rfl, g_in (List.mem_of_getElem? (i := 770) (by decide +kernel)) rfl, by decide +kernel, by decide⟩
theorem mvX7_reprice : MtV YX7_reprice := ⟨g_in (List.mem_of_getElem? (i := 768) (by decide +kernel)) rfl, g_in (List.mem_of_getElem? (i := 769) (by decide +kernel)) rfl⟩
theorem mcX7_restock : MtC YX7_restock 2 := ⟨g_in (List.mem_of_getElem? (i := 62) (by decide +kernel)) rfl, g_in (List.mem_of_getElem? (i := 779) (by decide +kernel)) rfl, by decide +kernel, by decide⟩
theorem mvX7_restock : MtV YX7_restock := ⟨g_in (List.mem_of_getElem? (i := 777) (by decide +kernel)) rfl, g_in (List.mem_of_getElem? (i := 778) (by decide +kernel)) rfl⟩
theorem mcX7_want : MtC YX7_want 2 := ⟨g_in (List.mem_of_getElem? (i := 62) (by decide +kernel)) rfl, g_in (List.mem_of_getElem? (i := 783) (by decide +kernel)) rfl, by decide +kernel, by decide⟩
theorem mvX7_want : MtV YX7_want := ⟨g_in (List.mem_of_getElem? (i := 781) (by decide +kernel)) rfl, g_in (List.mem_of_getElem? (i := 782) (by decide +kernel)) rfl⟩
theorem mcX7_bear : MtC YX7_bear 1 := ⟨g_in (List.mem_of_getElem? (i := 62) (by decide +kernel)) rfl, g_in (List.mem_of_getElem? (i := 787) (by decide +kernel)) rfl, by decide +kernel, by decide⟩
theorem mvX7_bear : MtV YX7_bear := ⟨g_in (List.mem_of_getElem? (i := 785) (by decide +kernel)) rfl, g_in (List.mem_of_getElem? (i := 786) (by decide +kernel)) rfl⟩
theorem mcX7_undo : MtC YX7_undo 0 := ⟨g_in (List.mem_of_getElem? (i := 62) (by decide +kernel)) rfl, g_in (List.mem_of_getElem? (i := 792) (by decide +kernel)) rfl, by decide +kernel, by decide⟩
theorem mvX7_undo : MtV YX7_undo := ⟨g_in (List.mem_of_getElem? (i := 790) (by decide +kernel)) rfl, g_in (List.mem_of_getElem? (i := 791) (by decide +kernel)) rfl⟩
theorem mcX7_best : MtC YX7_best 0 := ⟨g_in (List.mem_of_getElem? (i := 62) (by decide +kernel)) rfl, g_in (List.mem_of_getElem? (i := 796) (by decide +kernel)) rfl, by decide +kernel, by decide⟩
theorem mvX7_best : MtV YX7_best := ⟨g_in (List.mem_of_getElem? (i := 794) (by decide +kernel)) rfl, g_in (List.mem_of_getElem? (i := 795) (by decide +kernel)) rfl⟩
theorem mcX7_cost : MtC YX7_cost 1 := ⟨g_in (List.mem_of_getElem? (i := 62) (by decide +kernel)) rfl, g_in (List.mem_of_getElem? (i := 800) (by decide +kernel)) rfl, by decide +kernel, by decide⟩
theorem mvX7_cost : MtV YX7_cost := ⟨g_in (List.mem_of_getElem? (i := 798) (by decide +kernel)) rfl, g_in (List.mem_of_getElem? (i := 799) (by decide +kernel)) rfl⟩
theorem mcX7_gain : MtC YX7_gain 2 := ⟨g_in (List.mem_of_getElem? (i := 62) (by decide +kernel)) rfl, g_in (List.mem_of_getElem? (i := 804) (by decide +kernel)) rfl, by decide +kernel, by decide⟩
theorem mvX7_gain : MtV YX7_gain := ⟨g_in (List.mem_of_getElem? (i := 802) (by decide +kernel)) rfl, g_in (List.mem_of_getElem? (i := 803) (by decide +kernel)) rfl⟩
theorem mcX7_ran : MtC YX7_ran 1 := ⟨g_in (List.mem_of_getElem? (i := 62) (by decide +kernel)) rfl, g_in (List.mem_of_getElem? (i := 808) (by decide +kernel)) rfl, by decide +kernel, by decide⟩
theorem mvX7_ran : MtV YX7_ran := ⟨g_in (List.mem_of_getElem? (i := 806) (by decide +kernel)) rfl, g_in (List.mem_of_getElem? (i := 807) (by decide +kernel)) rfl⟩
theorem mcX7_least : MtC YX7_least 1 := ⟨g_in (List.mem_of_getElem? (i := 62) (by decide +kernel)) rfl, g_in (List.mem_of_getElem? (i := 813) (by decide +kernel)) rfl, by decide +kernel, by decide⟩
theorem mvX7_least : MtV YX7_least := ⟨g_in (List.mem_of_getElem? (i := 811) (by decide +kernel)) rfl, g_in (List.mem_of_getElem? (i := 812) (by decide +kernel)) rfl⟩
theorem mcX7_most : MtC YX7_most 1 := ⟨g_in (List.mem_of_getElem? (i := 62) (by decide +kernel)) rfl, g_in (List.mem_of_getElem? (i := 817) (by decide +kernel)) rfl, by decide +kernel, by decide⟩
theorem mvX7_most : MtV YX7_most := ⟨g_in (List.mem_of_getElem? (i := 815) (by decide +kernel)) rfl, g_in (List.mem_of_getElem? (i := 816) (by decide +kernel)) rfl⟩
theorem mcX7_sharesOf : MtC YX7_sharesOf 2 := ⟨g_in (List.mem_of_getElem? (i := 62) (by decide +kernel)) rfl, g_in (List.mem_of_getElem? (i := 825) (by decide +kernel)) rfl, by decide +kernel, by decide⟩
theorem mvX7_sharesOf : MtV YX7_sharesOf := ⟨g_in (List.mem_of_getElem? (i := 824) (by decide +kernel)) rfl, g_in (List.mem_of_getElem? (i := 50) (by decide +kernel)) rfl⟩
theorem mcX7_holds : MtC YX7_holds 1 := ⟨g_in (List.mem_of_getElem? (i := 62) (by decide +kernel)) rfl, g_in (List.mem_of_getElem? (i := 821) (by decide +kernel)) rfl, by decide +kernel, by decide⟩
theorem mvX7_holds : MtV YX7_holds := ⟨g_in (List.mem_of_getElem? (i := 819) (by decide +kernel)) rfl, g_in (List.mem_of_getElem? (i := 820) (by decide +kernel)) rfl⟩
theorem mcX7_judged : MtC YX7_judged 4 := ⟨g_in (List.mem_of_getElem? (i := 62) (by decide +kernel)) rfl, g_in (List.mem_of_getElem? (i := 837) (by decide +kernel)) rfl, by decide +kernel, by decide⟩
theorem mvX7_judged : MtV YX7_judged := ⟨g_in (List.mem_of_getElem? (i := 836) (by decide +kernel)) rfl, g_in (List.mem_of_getElem? (i := 51) (by decide +kernel)) rfl⟩
theorem mcX7_tenThousands : MtC YX7_tenThousands 1 := ⟨g_in (List.mem_of_getElem? (i := 62) (by decide +kernel)) rfl, g_in (List.mem_of_getElem? (i := 832) (by decide +kernel)) rfl, by decide +kernel, by decide⟩
theorem msX7_tenThousands : Cond.static YX7_tenThousands.1 ∈ gtbl := g_in (List.mem_of_getElem? (i := 831) (by decide +kernel)) rfl
theorem mcX7_judge : MtC YX7_judge 2 := ⟨g_in (List.mem_of_getElem? (i := 62) (by decide +kernel)) rfl, g_in (List.mem_of_getElem? (i := 829) (by decide +kernel)) rfl, by decide +kernel, by decide⟩
theorem mvX7_judge : MtV YX7_judge := ⟨g_in (List.mem_of_getElem? (i := 827) (by decide +kernel)) rfl, g_in (List.mem_of_getElem? (i := 828) (by decide +kernel)) rfl⟩
theorem mcX7_makerAt : MtC YX7_makerAt 2 := ⟨g_in (List.mem_of_getElem? (i := 62) (by decide +kernel)) rfl, g_in (List.mem_of_getElem? (i := 848) (by decide +kernel)) rfl, by decide +kernel, by decide⟩
theorem msX7_makerAt : Cond.static YX7_makerAt.1 ∈ gtbl := g_in (List.mem_of_getElem? (i := 847) (by decide +kernel)) rfl
theorem mcX7_isOrder : MtC YX7_isOrder 1 := ⟨g_in (List.mem_of_getElem? (i := 62) (by decide +kernel)) rfl, g_in (List.mem_of_getElem? (i := 845) (by decide +kernel)) rfl, by decide +kernel, by decide⟩
theorem mvX7_isOrder : MtV YX7_isOrder := ⟨g_in (List.mem_of_getElem? (i := 844) (by decide +kernel)) rfl, g_in (List.mem_of_getElem? (i := 52) (by decide +kernel)) rfl⟩
theorem mcX7_share : MtC YX7_share 2 := ⟨g_in (List.mem_of_getElem? (i := 62) (by decide +kernel)) rfl, g_in (List.mem_of_getElem? (i := 841) (by decide +kernel)) rfl, by decide +kernel, by decide⟩
theorem mvX7_share : MtV YX7_share := ⟨g_in (List.mem_of_getElem? (i := 839) (by decide +kernel)) rfl, g_in (List.mem_of_getElem? (i := 840) (by decide +kernel)) rfl⟩
theorem mcX7_see : MtC YX7_see 3 := ⟨g_in (List.mem_of_getElem? (i := 62) (by decide +kernel)) rfl, g_in (List.mem_of_getElem? (i := 858) (by decide +kernel)) rfl, by decide +kernel, by decide⟩
theorem mvX7_see : MtV YX7_see := ⟨g_in (List.mem_of_getElem? (i := 856) (by decide +kernel)) rfl, g_in (List.mem_of_getElem? (i := 857) (by decide +kernel)) rfl⟩
theorem mcX7_unsee : MtC YX7_unsee 0 := ⟨g_in (List.mem_of_getElem? (i := 62) (by decide +kernel)) rfl, g_in (List.mem_of_getElem? (i := 862) (by decide +kernel)) rfl, by decide +kernel, by decide⟩
theorem mvX7_unsee : MtV YX7_unsee := ⟨g_in (List.mem_of_getElem? (i := 860) (by decide +kernel)) rfl, g_in (List.mem_of_getElem? (i := 861) (by decide +kernel)) rfl⟩
theorem mcX7_agrees : MtC YX7_agrees 0 := ⟨g_in (List.mem_of_getElem? (i := 62) (by decide +kernel)) rfl, g_in (List.mem_of_getElem? (i := 870) (by decide +kernel)) rfl, by decide +kernel, by decide⟩
theorem mvX7_agrees : MtV YX7_agrees := ⟨g_in (List.mem_of_getElem? (i := 869) (by decide +kernel)) rfl, g_in (List.mem_of_getElem? (i := 53) (by decide +kernel)) rfl⟩
theorem mcX7_which : MtC YX7_which 1 := ⟨g_in (List.mem_of_getElem? (i := 62) (by decide +kernel)) rfl, g_in (List.mem_of_getElem? (i := 866) (by decide +kernel)) rfl, by decide +kernel, by decide⟩
theorem mvX7_which : MtV YX7_which := ⟨g_in (List.mem_of_getElem? (i := 864) (by decide +kernel)) rfl, g_in (List.mem_of_getElem? (i := 865) (by decide +kernel)) rfl⟩
theorem mcX7_gone : MtC YX7_gone 2 := ⟨g_in (List.mem_of_getElem? (i := 62) (by decide +kernel)) rfl, g_in (List.mem_of_getElem? (i := 874) (by decide +kernel)) rfl, by decide +kernel, by decide⟩
theorem mvX7_gone : MtV YX7_gone := ⟨g_in (List.mem_of_getElem? (i := 872) (by decide +kernel)) rfl, g_in (List.mem_of_getElem? (i := 873) (by decide +kernel)) rfl⟩
theorem mcX7_seed : MtC YX7_seed 1 := ⟨g_in (List.mem_of_getElem? (i := 62) (by decide +kernel)) rfl, g_in (List.mem_of_getElem? (i := 879) (by decide +kernel)) rfl, by decide +kernel, by decide⟩
theorem mvX7_seed : MtV YX7_seed := ⟨g_in (List.mem_of_getElem? (i := 877) (by decide +kernel)) rfl, g_in (List.mem_of_getElem? (i := 878) (by decide +kernel)) rfl⟩
theorem mcX7_drawn : MtC YX7_drawn 1 := ⟨g_in (List.mem_of_getElem? (i := 62) (by decide +kernel)) rfl, g_in (List.mem_of_getElem? (i := 883) (by decide +kernel)) rfl, by decide +kernel, by decide⟩
theorem mvX7_drawn : MtV YX7_drawn := ⟨g_in (List.mem_of_getElem? (i := 881) (by decide +kernel)) rfl, g_in (List.mem_of_getElem? (i := 882) (by decide +kernel)) rfl⟩
theorem mcX7_keep : MtC YX7_keep 1 := ⟨g_in (List.mem_of_getElem? (i := 62) (by decide +kernel)) rfl, g_in (List.mem_of_getElem? (i := 890) (by decide +kernel)) rfl, by decide +kernel, by decide⟩
theorem mvX7_keep : MtV YX7_keep := ⟨g_in (List.mem_of_getElem? (i := 888) (by decide +kernel)) rfl, g_in (List.mem_of_getElem? (i := 889) (by decide +kernel)) rfl⟩
theorem mcX7_again : MtC YX7_again 1 := ⟨g_in (List.mem_of_getElem? (i := 62) (by decide +kernel)) rfl, g_in (List.mem_of_getElem? (i := 894) (by decide +kernel)) rfl, by decide +kernel, by decide⟩
theorem mvX7_again : MtV YX7_again := ⟨g_in (List.mem_of_getElem? (i := 892) (by decide +kernel)) rfl, g_in (List.mem_of_getElem? (i := 893) (by decide +kernel)) rfl⟩
theorem mcJ6_bitCount_0f7a4 : MtC YJ6_bitCount_0f7a4 1 := ⟨g_in (List.mem_of_getElem? (i := 63) (by decide +kernel)) rfl, g_in (List.mem_of_getElem? (i := 496) (by decide +kernel)) rfl, by decide +kernel, by decide⟩
theorem msJ6_bitCount_0f7a4 : Cond.static YJ6_bitCount_0f7a4.1 ∈ gtbl := g_in (List.mem_of_getElem? (i := 495) (by decide +kernel)) rfl
theorem fp0_0 : Fpt 0 0 .int := fun C T N h => by cases h; exact ⟨rfl, by decide +kernel⟩
theorem fp1_0 : Fpt 1 0 .int := fun C T N h => by cases h; exact ⟨rfl, by decide +kernel⟩
theorem fp1_1 : Fpt 1 1 .int := fun C T N h => by cases h; exact ⟨rfl, by decide +kernel⟩
theorem fp1_2 : Fpt 1 2 .int := fun C T N h => by cases h; exact ⟨rfl, by decide +kernel⟩
theorem fp2_0 : Fpt 2 0 .int := fun C T N h => by cases h; exact ⟨rfl, by decide +kernel⟩
theorem fp3_0 : Fpt 3 0 .int := fun C T N h => by cases h; exact ⟨rfl, by decide +kernel⟩
theorem fp4_0 : Fpt 4 0 .int := fun C T N h => by cases h; exact ⟨rfl, by decide +kernel⟩
theorem fp4_1 : Fpt 4 1 .int := fun C T N h => by cases h; exact ⟨rfl, by decide +kernel⟩
theorem fp4_2 : Fpt 4 2 .int := fun C T N h => by cases h; exact ⟨rfl, by decide +kernel⟩
theorem fp5_0 : Fpt 5 0 .int := fun C T N h => by cases h; exact ⟨rfl, by decide +kernel⟩
theorem fp6_9 : Fpt 6 9 .int := fun C T N h => by cases h; exact ⟨rfl, by decide +kernel⟩
theorem fp6_10 : Fpt 6 10 .long := fun C T N h => by cases h; exact ⟨rfl, by decide +kernel⟩
theorem fp7_1 : Fpt 7 1 .int := fun C T N h => by cases h; exact ⟨rfl, by decide +kernel⟩
theorem fp7_2 : Fpt 7 2 .int := fun C T N h => by cases h; exact ⟨rfl, by decide +kernel⟩
theorem fp7_3 : Fpt 7 3 .int := fun C T N h => by cases h; exact ⟨rfl, by decide +kernel⟩
theorem fp7_9 : Fpt 7 9 .int := fun C T N h => by cases h; exact ⟨rfl, by decide +kernel⟩
theorem fp7_10 : Fpt 7 10 .int := fun C T N h => by cases h; exact ⟨rfl, by decide +kernel⟩
theorem fp7_13 : Fpt 7 13 .int := fun C T N h => by cases h; exact ⟨rfl, by decide +kernel⟩
theorem fp7_14 : Fpt 7 14 .int := fun C T N h => by cases h; exact ⟨rfl, by decide +kernel⟩
theorem fp7_21 : Fpt 7 21 .int := fun C T N h => by cases h; exact ⟨rfl, by decide +kernel⟩
theorem fp7_22 : Fpt 7 22 .long := fun C T N h => by cases h; exact ⟨rfl, by decide +kernel⟩
theorem fp7_23 : Fpt 7 23 .int := fun C T N h => by cases h; exact ⟨rfl, by decide +kernel⟩
theorem fp7_24 : Fpt 7 24 .int := fun C T N h => by cases h; exact ⟨rfl, by decide +kernel⟩
theorem fp7_27 : Fpt 7 27 .int := fun C T N h => by cases h; exact ⟨rfl, by decide +kernel⟩
theorem fp7_28 : Fpt 7 28 .int := fun C T N h => by cases h; exact ⟨rfl, by decide +kernel⟩
theorem fp7_29 : Fpt 7 29 .int := fun C T N h => by cases h; exact ⟨rfl, by decide +kernel⟩
theorem fp7_30 : Fpt 7 30 .int := fun C T N h => by cases h; exact ⟨rfl, by decide +kernel⟩
