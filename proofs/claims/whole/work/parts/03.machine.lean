/-! THE ABSTRACT MACHINE: the decoded bytecode over a flat memory. A cell has a number (its place in the order of making); kinds (c, n): c under 10 an object of vwCl's c-th, 10 int[n], 11 long[n], 12 boolean[n], 13 Republic[n]; the script is .retAddr 0 -/
abbrev am_K : Type := Nat × Nat
abbrev am_H : Type := List am_K × (Nat → Nat → Int32) × (Nat → Nat → Int64) × (Nat → Nat → Option Nat) × (Nat → Int32) × Nat
/-- a method: name, code, locals, what it returns, how many arguments (the object too), rank, the number of its class -/
abbrev am_E : Type := MethodName × ByteArray × Nat × Option FieldType × Nat × Nat × Nat
abbrev am_S : Type := (Nat × List Value × List Value × am_H) ⊕ (Option Value ⊕ (am_E × List Value × List Value))
def am_code (e : am_E) : ByteArray := e.2.1
def am_ml (e : am_E) : Nat := e.2.2.1
def am_rt (e : am_E) : Option FieldType := e.2.2.2.1
def am_na (e : am_E) : Nat := e.2.2.2.2.1
def am_rk (e : am_E) : Nat := e.2.2.2.2.2.1
def am_ow (e : am_E) : Nat := e.2.2.2.2.2.2
def am_cnm : List String := [RX0, RX1, RX2, RX3, RX4, RX6, RX7, RX8, RX9, RX10, RX5, RL, RJ6, RJ9]
/-- the types of a made object's fields: 0 int, 1 long, 2 a reference -/
def am_fty (c : Nat) : List Nat := ([[2, 0, 0, 0, 0], [2, 0, 0, 1, 1], [0, 0], [2, 0], [0, 2, 2, 2, 2, 2, 2, 2, 0, 0, 0, 2, 0, 2, 2, 0], [2, 2, 2, 0, 0, 0, 0, 0, 0, 0], [2], [2, 0], [2, 2, 2, 2, 2, 2, 2, 2, 2, 2], [0, 2, 2, 2, 2, 2, 2, 0, 0, 0, 0, 2, 2, 0, 2, 0, 2, 2, 2, 0, 2, 2, 2, 2, 0, 0, 0, 2, 2, 2]] : List (List Nat)).getD c []
def E_X0_daysSinceLike : am_E := (yX0_daysSinceLike, cX0_daysSinceLike, 3, (some .int), 2, 0, 0)
def E_X0_drawAct : am_E := (yX0_drawAct, cX0_drawAct, 4, none, 4, 2, 0)
def E_X0_drawDays : am_E := (yX0_drawDays, cX0_drawDays, 6, none, 4, 4, 0)
def E_X0_init : am_E := (yX0_init, cX0_init, 1, none, 1, 1, 0)
def E_X0_watchRents : am_E := (yX0_watchRents, cX0_watchRents, 3, none, 2, 3, 0)
def E_X1_canSay : am_E := (yX1_canSay, cX1_canSay, 5, (some .boolean), 5, 1, 1)
def E_X1_init : am_E := (yX1_init, cX1_init, 1, none, 1, 1, 1)
def E_X1_power : am_E := (yX1_power, cX1_power, 5, (some .long), 2, 0, 1)
def E_X1_reckon : am_E := (yX1_reckon, cX1_reckon, 7, none, 5, 2, 1)
def E_X1_reduce : am_E := (yX1_reduce, cX1_reduce, 8, none, 1, 0, 1)
def E_X1_weigh : am_E := (yX1_weigh, cX1_weigh, 3, none, 2, 1, 1)
def E_X1_weightOf : am_E := (yX1_weightOf, cX1_weightOf, 2, (some .long), 2, 0, 1)
def E_X2_init : am_E := (yX2_init, cX2_init, 1, none, 1, 1, 2)
def E_X2_play : am_E := (yX2_play, cX2_play, 5, (some .boolean), 3, 4, 2)
def E_X2_playAct : am_E := (yX2_playAct, cX2_playAct, 5, (some .boolean), 5, 2, 2)
def E_X3_clear : am_E := (yX3_clear, cX3_clear, 1, none, 1, 0, 3)
def E_X3_init : am_E := (yX3_init, cX3_init, 1, none, 1, 1, 3)
def E_X3_leasesFault : am_E := (yX3_leasesFault, cX3_leasesFault, 4, (some .int), 1, 2, 3)
def E_X3_put : am_E := (yX3_put, cX3_put, 2, (some .boolean), 2, 0, 3)
def E_X3_sentenceFault : am_E := (yX3_sentenceFault, cX3_sentenceFault, 3, (some .int), 2, 2, 3)
def E_X3_signAt : am_E := (yX3_signAt, cX3_signAt, 2, (some .int), 2, 0, 3)
def E_X3_size : am_E := (yX3_size, cX3_size, 1, (some .int), 1, 0, 3)
def E_X3_standsInLeases : am_E := (yX3_standsInLeases, cX3_standsInLeases, 2, (some .boolean), 2, 1, 3)
def E_X3_wordAt : am_E := (yX3_wordAt, cX3_wordAt, 2, (some .int), 2, 1, 3)
def E_X3_words : am_E := (yX3_words, cX3_words, 1, (some .int), 1, 3, 3)
def E_X3_wordsBut : am_E := (yX3_wordsBut, cX3_wordsBut, 6, (some .int), 3, 2, 3)
def E_X4_act : am_E := (yX4_act, cX4_act, 4, none, 4, 1, 4)
def E_X4_addSight : am_E := (yX4_addSight, cX4_addSight, 3, (some .boolean), 3, 0, 4)
def E_X4_allRents : am_E := (yX4_allRents, cX4_allRents, 3, (some .int), 1, 2, 4)
def E_X4_areRivals : am_E := (yX4_areRivals, cX4_areRivals, 3, (some .boolean), 3, 2, 4)
def E_X4_between : am_E := (yX4_between, cX4_between, 4, (some .int), 3, 0, 4)
def E_X4_betweenWords : am_E := (yX4_betweenWords, cX4_betweenWords, 3, (some .int), 3, 1, 4)
def E_X4_copy : am_E := (yX4_copy, cX4_copy, 2, none, 2, 1, 4)
def E_X4_costing : am_E := (yX4_costing, cX4_costing, 6, (some .int), 3, 0, 4)
def E_X4_driftWords : am_E := (yX4_driftWords, cX4_driftWords, 2, none, 1, 1, 4)
def E_X4_drop : am_E := (yX4_drop, cX4_drop, 2, none, 2, 1, 4)
def E_X4_enlist : am_E := (yX4_enlist, cX4_enlist, 2, (some .boolean), 2, 0, 4)
def E_X4_firmSeen : am_E := (yX4_firmSeen, cX4_firmSeen, 2, (some .int), 2, 0, 4)
def E_X4_firstOfSort : am_E := (yX4_firstOfSort, cX4_firstOfSort, 4, (some .int), 3, 1, 4)
def E_X4_has : am_E := (yX4_has, cX4_has, 2, (some .boolean), 2, 0, 4)
def E_X4_holderOf : am_E := (yX4_holderOf, cX4_holderOf, 2, (some .int), 2, 1, 4)
def E_X4_init : am_E := (yX4_init, cX4_init, 2, none, 1, 1, 4)
def E_X4_isOfSort : am_E := (yX4_isOfSort, cX4_isOfSort, 3, (some .boolean), 3, 0, 4)
def E_X4_isUndercut : am_E := (yX4_isUndercut, cX4_isUndercut, 4, (some .boolean), 2, 1, 4)
def E_X4_listAllows : am_E := (yX4_listAllows, cX4_listAllows, 3, (some .boolean), 2, 0, 4)
def E_X4_meaningOf : am_E := (yX4_meaningOf, cX4_meaningOf, 2, (some .int), 2, 1, 4)
def E_X4_meetsList : am_E := (yX4_meetsList, cX4_meetsList, 3, (some .boolean), 2, 0, 4)
def E_X4_moveRents : am_E := (yX4_moveRents, cX4_moveRents, 3, none, 1, 2, 4)
def E_X4_part : am_E := (yX4_part, cX4_part, 4, none, 4, 1, 4)
def E_X4_passDay : am_E := (yX4_passDay, cX4_passDay, 1, none, 1, 3, 4)
def E_X4_property : am_E := (yX4_property, cX4_property, 3, (some .int), 3, 2, 4)
def E_X4_put : am_E := (yX4_put, cX4_put, 6, none, 6, 0, 4)
def E_X4_reasonAgainst : am_E := (yX4_reasonAgainst, cX4_reasonAgainst, 5, (some .int), 4, 1, 4)
def E_X4_rentOf : am_E := (yX4_rentOf, cX4_rentOf, 2, (some .int), 2, 1, 4)
def E_X4_rentsAsOne : am_E := (yX4_rentsAsOne, cX4_rentsAsOne, 4, (some .long), 1, 2, 4)
def E_X4_rhymeOf : am_E := (yX4_rhymeOf, cX4_rhymeOf, 2, (some .int), 2, 1, 4)
def E_X4_sentencesWithout : am_E := (yX4_sentencesWithout, cX4_sentencesWithout, 5, (some .int), 2, 2, 4)
def E_X4_sightsAllow : am_E := (yX4_sightsAllow, cX4_sightsAllow, 5, (some .boolean), 3, 0, 4)
def E_X4_sortOf : am_E := (yX4_sortOf, cX4_sortOf, 2, (some .int), 2, 1, 4)
def E_X4_words : am_E := (yX4_words, cX4_words, 1, (some .int), 1, 0, 4)
def E_X4_wordsOfSort : am_E := (yX4_wordsOfSort, cX4_wordsOfSort, 4, (some .int), 2, 1, 4)
def E_X4_wordsSeen : am_E := (yX4_wordsSeen, cX4_wordsSeen, 2, (some .int), 2, 0, 4)
def E_X6_affordable : am_E := (yX6_affordable, cX6_affordable, 6, none, 4, 5, 5)
def E_X6_clear : am_E := (yX6_clear, cX6_clear, 1, none, 1, 0, 5)
def E_X6_countAffordable : am_E := (yX6_countAffordable, cX6_countAffordable, 7, none, 5, 4, 5)
def E_X6_countThis : am_E := (yX6_countThis, cX6_countThis, 1, none, 1, 2, 5)
def E_X6_distanceFrom : am_E := (yX6_distanceFrom, cX6_distanceFrom, 5, (some .int), 3, 2, 5)
def E_X6_init : am_E := (yX6_init, cX6_init, 1, none, 1, 2, 5)
def E_X6_isFound : am_E := (yX6_isFound, cX6_isFound, 1, (some .boolean), 1, 0, 5)
def E_X6_keepWords : am_E := (yX6_keepWords, cX6_keepWords, 2, none, 1, 1, 5)
def E_X6_misprinted : am_E := (yX6_misprinted, cX6_misprinted, 7, none, 4, 4, 5)
def E_X6_nearest : am_E := (yX6_nearest, cX6_nearest, 10, none, 5, 4, 5)
def E_X6_spoken : am_E := (yX6_spoken, cX6_spoken, 7, none, 4, 3, 5)
def E_X6_weighMisprint : am_E := (yX6_weighMisprint, cX6_weighMisprint, 4, none, 4, 0, 5)
def E_X6_wordAt : am_E := (yX6_wordAt, cX6_wordAt, 2, (some .int), 2, 0, 5)
def E_X7_findDearest : am_E := (yX7_findDearest, cX7_findDearest, 5, none, 3, 2, 6)
def E_X7_init : am_E := (yX7_init, cX7_init, 1, none, 1, 1, 6)
def E_X7_paid : am_E := (yX7_paid, cX7_paid, 6, (some .int), 4, 3, 6)
def E_X7_paidFor : am_E := (yX7_paidFor, cX7_paidFor, 5, (some .int), 3, 2, 6)
def E_X8_init : am_E := (yX8_init, cX8_init, 1, none, 1, 1, 7)
def E_X8_length : am_E := (yX8_length, cX8_length, 1, (some .int), 1, 0, 7)
def E_X8_start : am_E := (yX8_start, cX8_start, 4, (some .boolean), 3, 2, 7)
def E_X8_step : am_E := (yX8_step, cX8_step, 4, (some .boolean), 2, 2, 7)
def E_X8_wordAt : am_E := (yX8_wordAt, cX8_wordAt, 2, (some .int), 2, 0, 7)
def E_X8_words : am_E := (yX8_words, cX8_words, 3, (some .int), 1, 0, 7)
def E_X9_after : am_E := (yX9_after, cX9_after, 5, (some .int), 4, 4, 8)
def E_X9_behind : am_E := (yX9_behind, cX9_behind, 3, (some .int), 3, 6, 8)
def E_X9_done : am_E := (yX9_done, cX9_done, 1, (some .int), 1, 6, 8)
def E_X9_far : am_E := (yX9_far, cX9_far, 5, (some .int), 4, 2, 8)
def E_X9_fault : am_E := (yX9_fault, cX9_fault, 2, (some .int), 2, 3, 8)
def E_X9_forget : am_E := (yX9_forget, cX9_forget, 3, (some .int), 2, 0, 8)
def E_X9_gets : am_E := (yX9_gets, cX9_gets, 3, (some .int), 3, 4, 8)
def E_X9_held : am_E := (yX9_held, cX9_held, 4, (some .int), 2, 1, 8)
def E_X9_holdsSentence : am_E := (yX9_holdsSentence, cX9_holdsSentence, 1, (some .boolean), 1, 3, 8)
def E_X9_image : am_E := (yX9_image, cX9_image, 2, (some .int), 2, 2, 8)
def E_X9_init : am_E := (yX9_init, cX9_init, 2, none, 1, 3, 8)
def E_X9_isFirm : am_E := (yX9_isFirm, cX9_isFirm, 1, (some .boolean), 1, 0, 8)
def E_X9_isMeaning : am_E := (yX9_isMeaning, cX9_isMeaning, 1, (some .boolean), 1, 0, 8)
def E_X9_isRhyme : am_E := (yX9_isRhyme, cX9_isRhyme, 1, (some .boolean), 1, 0, 8)
def E_X9_isSpeaker : am_E := (yX9_isSpeaker, cX9_isSpeaker, 1, (some .boolean), 1, 1, 8)
def E_X9_judge : am_E := (yX9_judge, cX9_judge, 2, (some .int), 2, 6, 8)
def E_X9_leasesCanBe : am_E := (yX9_leasesCanBe, cX9_leasesCanBe, 1, (some .boolean), 1, 5, 8)
def E_X9_let : am_E := (yX9_let, cX9_let, 4, (some .long), 4, 4, 8)
def E_X9_list : am_E := (yX9_list, cX9_list, 1, (some .int), 1, 4, 8)
def E_X9_misprints : am_E := (yX9_misprints, cX9_misprints, 3, (some .int), 3, 5, 8)
def E_X9_nearly : am_E := (yX9_nearly, cX9_nearly, 4, (some .int), 4, 5, 8)
def E_X9_price : am_E := (yX9_price, cX9_price, 2, (some .int), 2, 4, 8)
def E_X9_restore : am_E := (yX9_restore, cX9_restore, 2, (some .int), 2, 2, 8)
def E_X9_rests : am_E := (yX9_rests, cX9_rests, 4, (some .int), 4, 4, 8)
def E_X9_round : am_E := (yX9_round, cX9_round, 1, (some .int), 1, 4, 8)
def E_X9_said : am_E := (yX9_said, cX9_said, 4, (some .int), 4, 6, 8)
def E_X9_say : am_E := (yX9_say, cX9_say, 2, (some .int), 2, 1, 8)
def E_X9_seen : am_E := (yX9_seen, cX9_seen, 3, (some .int), 3, 1, 8)
def E_X9_set : am_E := (yX9_set, cX9_set, 4, (some .int), 3, 1, 8)
def E_X9_settles : am_E := (yX9_settles, cX9_settles, 1, (some .int), 1, 4, 8)
def E_X9_sortAt : am_E := (yX9_sortAt, cX9_sortAt, 1, (some .int), 1, 0, 8)
def E_X9_spoke : am_E := (yX9_spoke, cX9_spoke, 3, (some .int), 3, 4, 8)
def E_X9_state : am_E := (yX9_state, cX9_state, 3, (some .int), 3, 3, 8)
def E_X9_strike : am_E := (yX9_strike, cX9_strike, 2, (some .int), 2, 3, 8)
def E_X9_strikeOut : am_E := (yX9_strikeOut, cX9_strikeOut, 2, (some .int), 2, 2, 8)
def E_X9_told : am_E := (yX9_told, cX9_told, 2, (some .int), 2, 3, 8)
def E_X9_toldOfFar : am_E := (yX9_toldOfFar, cX9_toldOfFar, 4, (some .int), 2, 1, 8)
def E_X9_toldOfWord : am_E := (yX9_toldOfWord, cX9_toldOfWord, 3, (some .int), 3, 2, 8)
def E_X9_who : am_E := (yX9_who, cX9_who, 3, (some .int), 1, 4, 8)
def E_X9_wipe : am_E := (yX9_wipe, cX9_wipe, 2, (some .int), 1, 1, 8)
def E_X9_within : am_E := (yX9_within, cX9_within, 3, (some .boolean), 3, 0, 8)
def E_X9_word : am_E := (yX9_word, cX9_word, 6, (some .int), 6, 1, 8)
def E_X9_worst : am_E := (yX9_worst, cX9_worst, 5, (some .int), 1, 3, 8)
def E_X9_year : am_E := (yX9_year, cX9_year, 4, (some .int), 4, 5, 8)
def E_X10_act : am_E := (yX10_act, cX10_act, 4, none, 4, 0, 9)
def E_X10_after : am_E := (yX10_after, cX10_after, 5, (some .int), 4, 3, 9)
def E_X10_areAlike : am_E := (yX10_areAlike, cX10_areAlike, 5, (some .boolean), 3, 0, 9)
def E_X10_asNow : am_E := (yX10_asNow, cX10_asNow, 2, none, 1, 0, 9)
def E_X10_barOfLeases : am_E := (yX10_barOfLeases, cX10_barOfLeases, 1, (some .int), 1, 4, 9)
def E_X10_behind : am_E := (yX10_behind, cX10_behind, 3, (some .int), 3, 5, 9)
def E_X10_bits : am_E := (yX10_bits, cX10_bits, 3, (some .int), 1, 0, 9)
def E_X10_canSay : am_E := (yX10_canSay, cX10_canSay, 7, (some .boolean), 3, 1, 9)
def E_X10_codes : am_E := (yX10_codes, cX10_codes, 1, (some .int), 1, 0, 9)
def E_X10_costing : am_E := (yX10_costing, cX10_costing, 4, (some .int), 2, 1, 9)
def E_X10_costs : am_E := (yX10_costs, cX10_costs, 3, (some .boolean), 3, 0, 9)
def E_X10_done : am_E := (yX10_done, cX10_done, 2, (some .int), 1, 5, 9)
def E_X10_far : am_E := (yX10_far, cX10_far, 5, (some .int), 4, 1, 9)
def E_X10_fault : am_E := (yX10_fault, cX10_fault, 2, (some .int), 2, 3, 9)
def E_X10_forget : am_E := (yX10_forget, cX10_forget, 3, (some .int), 2, 1, 9)
def E_X10_gets : am_E := (yX10_gets, cX10_gets, 3, (some .int), 3, 3, 9)
def E_X10_goLeases : am_E := (yX10_goLeases, cX10_goLeases, 2, (some .int), 1, 3, 9)
def E_X10_has : am_E := (yX10_has, cX10_has, 2, (some .boolean), 2, 0, 9)
def E_X10_held : am_E := (yX10_held, cX10_held, 6, (some .int), 2, 1, 9)
def E_X10_image : am_E := (yX10_image, cX10_image, 4, (some .int), 2, 1, 9)
def E_X10_in : am_E := (yX10_in, cX10_in, 3, (some .boolean), 3, 0, 9)
def E_X10_inRow : am_E := (yX10_inRow, cX10_inRow, 3, (some .int), 1, 0, 9)
def E_X10_income : am_E := (yX10_income, cX10_income, 7, (some .int), 3, 0, 9)
def E_X10_init : am_E := (yX10_init, cX10_init, 2, none, 1, 1, 9)
def E_X10_isUndercut : am_E := (yX10_isUndercut, cX10_isUndercut, 6, (some .boolean), 2, 1, 9)
def E_X10_isWord : am_E := (yX10_isWord, cX10_isWord, 2, (some .boolean), 2, 1, 9)
def E_X10_judge : am_E := (yX10_judge, cX10_judge, 3, (some .int), 2, 4, 9)
def E_X10_lay : am_E := (yX10_lay, cX10_lay, 2, none, 1, 0, 9)
def E_X10_layRow : am_E := (yX10_layRow, cX10_layRow, 6, (some .boolean), 3, 2, 9)
def E_X10_leaseFault : am_E := (yX10_leaseFault, cX10_leaseFault, 6, (some .int), 1, 1, 9)
def E_X10_let : am_E := (yX10_let, cX10_let, 12, (some .long), 4, 3, 9)
def E_X10_list : am_E := (yX10_list, cX10_list, 2, (some .int), 1, 3, 9)
def E_X10_misprints : am_E := (yX10_misprints, cX10_misprints, 9, (some .int), 3, 3, 9)
def E_X10_nearly : am_E := (yX10_nearly, cX10_nearly, 9, (some .int), 4, 3, 9)
def E_X10_note : am_E := (yX10_note, cX10_note, 3, none, 2, 1, 9)
def E_X10_off : am_E := (yX10_off, cX10_off, 3, (some .int), 1, 0, 9)
def E_X10_paid : am_E := (yX10_paid, cX10_paid, 7, (some .int), 4, 1, 9)
def E_X10_pass : am_E := (yX10_pass, cX10_pass, 4, (some .int), 2, 2, 9)
def E_X10_price : am_E := (yX10_price, cX10_price, 2, (some .int), 2, 3, 9)
def E_X10_priceOf : am_E := (yX10_priceOf, cX10_priceOf, 6, (some .int), 3, 2, 9)
def E_X10_rest : am_E := (yX10_rest, cX10_rest, 4, (some .boolean), 2, 1, 9)
def E_X10_restore : am_E := (yX10_restore, cX10_restore, 4, (some .int), 2, 1, 9)
def E_X10_rests : am_E := (yX10_rests, cX10_rests, 6, (some .int), 4, 2, 9)
def E_X10_round : am_E := (yX10_round, cX10_round, 3, (some .int), 1, 4, 9)
def E_X10_said : am_E := (yX10_said, cX10_said, 9, (some .int), 4, 3, 9)
def E_X10_say : am_E := (yX10_say, cX10_say, 2, (some .int), 2, 1, 9)
def E_X10_seen : am_E := (yX10_seen, cX10_seen, 3, (some .int), 3, 1, 9)
def E_X10_sentenceFault : am_E := (yX10_sentenceFault, cX10_sentenceFault, 3, (some .int), 1, 2, 9)
def E_X10_set : am_E := (yX10_set, cX10_set, 5, (some .int), 3, 1, 9)
def E_X10_settles : am_E := (yX10_settles, cX10_settles, 1, (some .int), 1, 4, 9)
def E_X10_settlesOn : am_E := (yX10_settlesOn, cX10_settlesOn, 2, (some .int), 1, 3, 9)
def E_X10_sortAt : am_E := (yX10_sortAt, cX10_sortAt, 1, (some .int), 1, 0, 9)
def E_X10_spoke : am_E := (yX10_spoke, cX10_spoke, 6, (some .int), 3, 3, 9)
def E_X10_state : am_E := (yX10_state, cX10_state, 3, (some .int), 3, 2, 9)
def E_X10_stateNow : am_E := (yX10_stateNow, cX10_stateNow, 3, (some .int), 3, 0, 9)
def E_X10_strike : am_E := (yX10_strike, cX10_strike, 2, (some .int), 2, 2, 9)
def E_X10_strikeOut : am_E := (yX10_strikeOut, cX10_strikeOut, 2, (some .int), 2, 2, 9)
def E_X10_told : am_E := (yX10_told, cX10_told, 4, (some .int), 2, 2, 9)
def E_X10_who : am_E := (yX10_who, cX10_who, 6, (some .int), 1, 3, 9)
def E_X10_whyNot : am_E := (yX10_whyNot, cX10_whyNot, 5, (some .int), 4, 2, 9)
def E_X10_wipe : am_E := (yX10_wipe, cX10_wipe, 2, (some .int), 1, 0, 9)
def E_X10_withoutThese : am_E := (yX10_withoutThese, cX10_withoutThese, 7, (some .int), 2, 1, 9)
def E_X10_word : am_E := (yX10_word, cX10_word, 6, (some .int), 6, 1, 9)
def E_X10_wordsOf : am_E := (yX10_wordsOf, cX10_wordsOf, 4, (some .int), 2, 0, 9)
def E_X10_worst : am_E := (yX10_worst, cX10_worst, 5, (some .int), 1, 2, 9)
def E_X10_year : am_E := (yX10_year, cX10_year, 10, (some .int), 4, 3, 9)
def E_X5_isAtRest : am_E := (yX5_isAtRest, cX5_isAtRest, 5, (some .boolean), 2, 2, 10)
def E_X5_restOrCount : am_E := (yX5_restOrCount, cX5_restOrCount, 3, (some .int), 1, 3, 10)
def E_X5_takings : am_E := (yX5_takings, cX5_takings, 4, (some .int), 3, 1, 10)
def E_J6_bitCount_0f7a4 : am_E := (yJ6_bitCount_0f7a4, cJ6_bitCount_0f7a4, 1, (some .int), 1, 0, 12)
def E_L_law : am_E := (⟨RL, "law", "([I)Z"⟩, cL_law, 4, some .boolean, 1, 7, 11)
/-- calls: the class that calls, its entry, the kind of call (0 static, 1 virtual, 2 special, 3 static of a nest mate, 5 special of a nest mate, 6 Object.<init>, 7 arraycopy, 8 Math.max), the method, where its words stand in wsL_law -/
def am_mlk_0 : List (Nat × Nat × Nat × am_E) := [(0, 3, 6, E_X0_daysSinceLike), (0, 22, 1, E_X4_rentsAsOne), (0, 28, 1, E_X4_moveRents), (0, 31, 1, E_X0_daysSinceLike), (0, 42, 1, E_X0_drawAct), (0, 46, 1, E_X4_passDay), (0, 49, 1, E_X4_reasonAgainst), (0, 53, 1, E_X4_act), (1, 3, 6, E_X0_daysSinceLike), (1, 15, 1, E_X1_weigh), (1, 23, 0, E_X1_power), (1, 30, 1, E_X4_wordsOfSort), (1, 43, 1, E_X4_words), (1, 47, 1, E_X1_canSay), (1, 51, 0, E_J6_bitCount_0f7a4), (1, 56, 1, E_X1_weightOf), (1, 60, 1, E_X1_reduce), (1, 63, 1, E_X4_listAllows), (2, 3, 6, E_X0_daysSinceLike), (2, 18, 1, E_X3_size), (2, 24, 1, E_X3_signAt), (2, 28, 1, E_X4_passDay), (2, 33, 1, E_X3_wordAt), (2, 36, 1, E_X2_playAct), (2, 40, 1, E_X4_reasonAgainst), (2, 44, 1, E_X4_act), (3, 3, 6, E_X0_daysSinceLike), (3, 19, 1, E_X3_signAt), (3, 23, 1, E_X3_wordsBut), (3, 27, 1, E_X3_wordAt), (3, 30, 3, E_X9_within), (3, 34, 3, E_X9_sortAt), (3, 37, 1, E_X4_isOfSort), (3, 43, 0, E_X3_standsInLeases), (4, 3, 6, E_X0_daysSinceLike), (4, 52, 7, E_X0_daysSinceLike), (4, 67, 1, E_X4_has), (4, 71, 1, E_X4_rentOf), (4, 75, 1, E_X4_holderOf), (4, 78, 1, E_X4_meaningOf), (4, 81, 1, E_X4_isOfSort), (4, 85, 1, E_X4_wordsOfSort), (4, 88, 0, E_J6_bitCount_0f7a4), (4, 93, 1, E_X4_sortOf), (4, 96, 3, E_X9_isFirm), (4, 99, 3, E_X9_isMeaning), (4, 102, 1, E_X4_between), (4, 108, 1, E_X4_moveRents), (4, 111, 1, E_X4_driftWords), (4, 114, 1, E_X4_isUndercut), (5, 3, 6, E_X0_daysSinceLike), (5, 11, 5, E_X8_init), (5, 20, 5, E_X7_init), (5, 39, 1, E_X8_length), (5, 42, 1, E_X8_wordAt), (5, 46, 1, E_X6_clear), (5, 49, 1, E_X4_costing), (5, 55, 1, E_X3_size), (5, 60, 1, E_X8_start), (5, 65, 1, E_X6_distanceFrom)]
def am_mlk_1 : List (Nat × Nat × Nat × am_E) := [(5, 69, 1, E_X8_words), (5, 71, 1, E_X7_paid), (5, 75, 1, E_X6_isFound), (5, 82, 1, E_X6_keepWords), (5, 88, 1, E_X8_step), (5, 92, 1, E_X3_wordAt), (5, 93, 1, E_X4_betweenWords), (5, 96, 1, E_X6_countAffordable), (5, 100, 1, E_X6_countThis), (5, 103, 3, E_X9_sortAt), (5, 106, 1, E_X4_isOfSort), (5, 110, 1, E_X3_wordsBut), (5, 113, 1, E_X6_weighMisprint), (6, 3, 6, E_X0_daysSinceLike), (6, 15, 1, E_X7_findDearest), (6, 19, 1, E_X4_holderOf), (6, 25, 1, E_X7_paidFor), (6, 29, 1, E_X4_rhymeOf), (6, 32, 3, E_X9_isRhyme), (6, 36, 1, E_X4_rentOf), (7, 3, 6, E_X0_daysSinceLike), (7, 19, 3, E_X9_sortAt), (7, 23, 1, E_X4_firstOfSort), (8, 1, 6, E_X0_daysSinceLike), (8, 9, 5, E_X3_init), (8, 18, 2, E_X4_init), (8, 36, 5, E_X7_init), (8, 43, 5, E_X6_init), (8, 50, 5, E_X2_init), (8, 57, 5, E_X0_init), (8, 64, 5, E_X1_init), (8, 69, 0, E_X9_within), (8, 73, 0, E_X9_isMeaning), (8, 77, 0, E_X9_isRhyme), (8, 80, 1, E_X4_put), (8, 84, 1, E_X4_words), (8, 88, 0, E_J6_bitCount_0f7a4), (8, 94, 1, E_X4_has), (8, 97, 1, E_X4_drop), (8, 101, 1, E_X4_between), (8, 105, 1, E_X4_part), (8, 116, 1, E_X3_put), (8, 118, 1, E_X3_size), (8, 121, 1, E_X3_clear), (8, 124, 1, E_X3_sentenceFault), (8, 128, 1, E_X3_leasesFault), (8, 131, 0, E_X9_isSpeaker), (8, 134, 1, E_X9_holdsSentence), (8, 138, 1, E_X3_words), (8, 139, 1, E_X4_costing), (8, 142, 1, E_X7_paid), (8, 146, 0, E_X9_isFirm), (8, 149, 1, E_X6_nearest), (8, 159, 1, E_X6_wordAt), (8, 162, 1, E_X6_affordable), (8, 172, 1, E_X6_misprinted), (8, 182, 1, E_X9_leasesCanBe), (8, 191, 1, E_X4_copy), (8, 195, 1, E_X4_property), (8, 198, 1, E_X4_passDay)]
def am_mlk_2 : List (Nat × Nat × Nat × am_E) := [(8, 201, 1, E_X0_watchRents), (8, 209, 1, E_X4_enlist), (8, 215, 1, E_X4_meetsList), (8, 218, 1, E_X4_sentencesWithout), (8, 221, 1, E_X4_addSight), (8, 228, 1, E_X4_firmSeen), (8, 231, 1, E_X4_wordsSeen), (8, 234, 1, E_X6_spoken), (8, 237, 1, E_X4_sightsAllow), (8, 244, 1, E_X1_reckon), (8, 255, 1, E_X4_areRivals), (8, 258, 0, E_X5_restOrCount), (8, 263, 1, E_X0_drawDays), (8, 272, 1, E_X4_allRents), (8, 278, 1, E_X9_toldOfWord), (8, 281, 1, E_X9_toldOfFar), (8, 284, 1, E_X4_sortOf), (8, 287, 1, E_X4_rhymeOf), (8, 290, 1, E_X2_play), (9, 1, 6, E_X0_daysSinceLike), (9, 75, 0, E_X10_in), (9, 82, 0, E_X10_has), (9, 86, 0, E_X10_bits), (9, 90, 1, E_X10_isWord), (9, 97, 0, E_X10_sortAt), (9, 100, 1, E_X10_sentenceFault), (9, 104, 1, E_X10_leaseFault), (9, 110, 1, E_X10_costs), (9, 113, 1, E_X10_inRow), (9, 116, 1, E_X10_paid), (9, 120, 1, E_X10_lay), (9, 123, 1, E_X10_priceOf), (9, 129, 0, E_X10_codes), (9, 132, 1, E_X10_layRow), (9, 135, 1, E_X10_off), (9, 144, 1, E_X10_isUndercut), (9, 147, 1, E_X10_asNow), (9, 156, 1, E_X10_pass), (9, 160, 1, E_X10_whyNot), (9, 163, 1, E_X10_act), (9, 167, 1, E_X10_goLeases), (9, 170, 1, E_X10_barOfLeases), (9, 173, 1, E_X10_stateNow), (9, 176, 1, E_X10_settlesOn), (9, 179, 1, E_X10_note), (9, 183, 1, E_X10_areAlike), (9, 189, 1, E_X10_wordsOf), (9, 192, 1, E_X10_withoutThese), (9, 198, 1, E_X10_costing), (9, 207, 1, E_X10_canSay), (9, 212, 0, E_X10_income), (9, 216, 0, E_X10_rest), (10, 9, 0, E_X5_isAtRest), (10, 15, 0, E_X5_takings), (10, 19, 8, E_X0_daysSinceLike), (11, 9, 2, E_X9_init), (11, 12, 2, E_X10_init), (11, 13, 1, E_X9_word), (11, 17, 1, E_X10_word), (11, 18, 1, E_X9_strikeOut)]
def am_mlk_3 : List (Nat × Nat × Nat × am_E) := [(11, 22, 1, E_X10_strikeOut), (11, 23, 1, E_X9_far), (11, 27, 1, E_X10_far), (11, 28, 1, E_X9_set), (11, 32, 1, E_X10_set), (11, 33, 1, E_X9_say), (11, 36, 1, E_X10_say), (11, 37, 1, E_X9_wipe), (11, 41, 1, E_X10_wipe), (11, 42, 1, E_X9_fault), (11, 45, 1, E_X10_fault), (11, 46, 1, E_X9_price), (11, 49, 1, E_X10_price), (11, 50, 1, E_X9_gets), (11, 53, 1, E_X10_gets), (11, 54, 1, E_X9_nearly), (11, 57, 1, E_X10_nearly), (11, 58, 1, E_X9_said), (11, 61, 1, E_X10_said), (11, 62, 1, E_X9_misprints), (11, 65, 1, E_X10_misprints), (11, 66, 1, E_X9_judge), (11, 69, 1, E_X10_judge), (11, 70, 1, E_X9_done), (11, 73, 1, E_X10_done), (11, 74, 1, E_X9_state), (11, 77, 1, E_X10_state), (11, 78, 1, E_X9_behind), (11, 81, 1, E_X10_behind), (11, 82, 1, E_X9_after), (11, 85, 1, E_X10_after), (11, 86, 1, E_X9_settles), (11, 89, 1, E_X10_settles), (11, 90, 1, E_X9_round), (11, 93, 1, E_X10_round), (11, 94, 1, E_X9_list), (11, 97, 1, E_X10_list), (11, 98, 1, E_X9_held), (11, 101, 1, E_X10_held), (11, 102, 1, E_X9_strike), (11, 105, 1, E_X10_strike), (11, 106, 1, E_X9_worst), (11, 109, 1, E_X10_worst), (11, 110, 1, E_X9_seen), (11, 113, 1, E_X10_seen), (11, 114, 1, E_X9_forget), (11, 117, 1, E_X10_forget), (11, 118, 1, E_X9_spoke), (11, 121, 1, E_X10_spoke), (11, 122, 1, E_X9_who), (11, 125, 1, E_X10_who), (11, 126, 1, E_X9_let), (11, 130, 1, E_X10_let), (11, 131, 1, E_X9_rests), (11, 134, 1, E_X10_rests), (11, 135, 1, E_X9_year), (11, 138, 1, E_X10_year), (11, 139, 1, E_X9_image), (11, 142, 1, E_X10_image), (11, 143, 1, E_X9_restore)]
def am_mlk_4 : List (Nat × Nat × Nat × am_E) := [(11, 146, 1, E_X10_restore), (11, 147, 1, E_X9_told), (11, 150, 1, E_X10_told)]
def am_mlkL : List (Nat × Nat × Nat × am_E) := am_mlk_0 ++ am_mlk_1 ++ am_mlk_2 ++ am_mlk_3 ++ am_mlk_4
/-- fields: the class whose code asks, its entry, the class that has it, its place, its type, 0 own or 1 of a nest mate, final, where its word stands -/
def am_flkL : List (Nat × Nat × Nat × Nat × Nat × Nat × Bool × Nat) := [(3, 9, 3, 0, 2, 0, true, 76), (3, 15, 3, 1, 0, 0, false, 77), (4, 49, 4, 0, 0, 0, false, 90), (4, 9, 4, 1, 2, 0, true, 91), (4, 15, 4, 2, 2, 0, true, 92), (4, 18, 4, 3, 2, 0, true, 93), (4, 21, 4, 4, 2, 0, true, 94), (4, 24, 4, 5, 2, 0, true, 95), (4, 27, 4, 6, 2, 0, true, 96), (4, 30, 4, 7, 2, 0, true, 97), (4, 33, 4, 8, 0, 0, false, 98), (4, 37, 4, 9, 0, 0, false, 100), (4, 58, 4, 10, 0, 0, false, 102), (4, 40, 4, 11, 2, 0, true, 104), (4, 61, 4, 12, 0, 0, false, 105), (4, 43, 4, 13, 2, 0, true, 107), (4, 46, 4, 14, 2, 0, true, 108), (4, 64, 4, 15, 0, 0, false, 109), (6, 9, 6, 0, 2, 0, true, 151), (7, 9, 7, 0, 2, 0, true, 168), (7, 15, 7, 1, 0, 0, false, 169), (5, 12, 5, 0, 2, 0, true, 177), (5, 21, 5, 1, 2, 0, true, 178), (5, 25, 5, 2, 2, 0, true, 179), (5, 29, 5, 3, 0, 0, false, 180), (5, 33, 5, 4, 0, 0, false, 181), (5, 36, 5, 5, 0, 0, false, 183), (5, 79, 5, 6, 0, 0, false, 185), (5, 85, 5, 7, 0, 0, false, 187), (5, 117, 5, 8, 0, 0, false, 189), (5, 120, 5, 9, 0, 0, false, 191), (2, 9, 2, 0, 0, 0, false, 220), (2, 15, 2, 1, 0, 0, false, 222), (0, 9, 0, 0, 2, 0, true, 235), (0, 15, 0, 1, 0, 0, false, 236), (0, 19, 0, 2, 0, 0, false, 238), (0, 35, 0, 3, 0, 0, false, 240), (0, 38, 0, 4, 0, 0, false, 242), (1, 9, 1, 0, 2, 0, true, 262), (1, 36, 1, 1, 0, 0, false, 263), (1, 40, 1, 2, 0, 0, false, 264), (1, 19, 1, 3, 1, 0, false, 265), (1, 27, 1, 4, 1, 0, false, 267), (8, 10, 8, 0, 2, 0, true, 280), (8, 19, 8, 1, 2, 0, true, 281), (8, 23, 8, 2, 2, 0, true, 282), (8, 26, 8, 3, 2, 0, true, 283), (8, 30, 8, 4, 2, 0, true, 284), (8, 37, 8, 5, 2, 0, true, 285), (8, 44, 8, 6, 2, 0, true, 286), (8, 51, 8, 7, 2, 0, true, 287), (8, 58, 8, 8, 2, 0, true, 288), (8, 65, 8, 9, 2, 0, true, 289), (9, 79, 9, 0, 0, 0, false, 846), (9, 7, 9, 1, 2, 0, true, 847), (9, 13, 9, 2, 2, 0, true, 848), (9, 16, 9, 3, 2, 0, true, 849), (9, 19, 9, 4, 2, 0, true, 850), (9, 22, 9, 5, 2, 0, true, 851), (9, 25, 9, 6, 2, 0, true, 852), (9, 28, 9, 7, 0, 0, false, 853), (9, 32, 9, 8, 0, 0, false, 854), (9, 138, 9, 9, 0, 0, false, 855), (9, 186, 9, 10, 0, 0, false, 856), (9, 35, 9, 11, 2, 0, true, 857), (9, 38, 9, 12, 2, 0, true, 858), (9, 195, 9, 13, 0, 0, false, 859), (9, 41, 9, 14, 2, 0, true, 860), (9, 94, 9, 15, 0, 0, false, 861), (9, 44, 9, 16, 2, 0, true, 862), (9, 47, 9, 17, 2, 0, true, 863), (9, 50, 9, 18, 2, 0, true, 864), (9, 107, 9, 19, 0, 0, false, 865), (9, 53, 9, 20, 2, 0, true, 866), (9, 56, 9, 21, 2, 0, true, 867), (9, 59, 9, 22, 2, 0, true, 868), (9, 62, 9, 23, 2, 0, true, 869), (9, 141, 9, 24, 0, 0, false, 870), (9, 153, 9, 25, 0, 0, false, 871), (9, 150, 9, 26, 0, 0, false, 872), (9, 65, 9, 27, 2, 0, true, 873), (9, 68, 9, 28, 2, 0, true, 874), (9, 71, 9, 29, 2, 0, true, 875), (8, 109, 4, 8, 0, 1, false, 0), (8, 113, 4, 9, 0, 1, false, 1), (8, 275, 4, 10, 0, 1, false, 2), (8, 212, 4, 12, 0, 1, false, 3), (8, 225, 4, 15, 0, 1, false, 4), (8, 166, 5, 4, 0, 1, false, 5), (8, 169, 5, 5, 0, 1, false, 6), (8, 153, 5, 6, 0, 1, false, 7), (8, 156, 5, 7, 0, 1, false, 8), (8, 176, 5, 8, 0, 1, false, 9), (8, 179, 5, 9, 0, 1, false, 10), (8, 185, 2, 0, 0, 1, false, 11), (8, 188, 2, 1, 0, 1, false, 12), (8, 206, 0, 1, 0, 1, false, 13), (8, 204, 0, 2, 0, 1, false, 14), (8, 266, 0, 3, 0, 1, false, 15), (8, 269, 0, 4, 0, 1, false, 16), (8, 248, 1, 3, 1, 1, false, 17), (8, 252, 1, 4, 1, 1, false, 18)]
def am_clkL : List (Nat × Nat × Nat × Nat × Nat × Nat × Nat) := [(11, 7, 8, 10, 62, 63, 48), (8, 7, 3, 2, 70, 71, 49), (8, 16, 4, 16, 84, 85, 50), (8, 34, 6, 1, 145, 146, 51), (8, 41, 5, 10, 156, 157, 52), (5, 9, 7, 2, 162, 163, 53), (5, 18, 6, 1, 175, 146, 51), (8, 48, 2, 2, 214, 215, 54), (8, 55, 0, 5, 229, 230, 55), (8, 62, 1, 5, 256, 257, 56), (11, 10, 9, 30, 840, 841, 57)]
def am_cstL : List (Nat × Nat × Int32 × Nat) := [(12, 265, 1431655765, 335), (12, 266, 858993459, 336), (12, 267, 252645135, 337), (5, 64, 32768, 498), (0, 41, 65537, 806), (9, 128, 1000000, 1021), (9, 127, 32768, 1025), (9, 219, 65537, 1184)]
def am_cstJ : List (Nat × Nat × Int64 × Nat) := [(4, 106, 128, 658), (8, 240, -1000000000000000002, 741), (8, 242, -1000000000000000005, 742), (9, 201, -1000000000000000002, 1162), (9, 203, -1000000000000000005, 1163), (9, 205, 10, 1164), (9, 210, 100000000, 1169)]
/-- the words on private members of nest mates -/
def am_nstF : List (String × Nat × String × String × String × String) := [("WordRents", 109, "WordRents$Republic", "cap", "I", "WordRents"), ("WordRents", 113, "WordRents$Republic", "drift", "I", "WordRents"), ("WordRents", 275, "WordRents$Republic", "days", "I", "WordRents"), ("WordRents", 212, "WordRents$Republic", "listed", "I", "WordRents"), ("WordRents", 225, "WordRents$Republic", "sights", "I", "WordRents"), ("WordRents", 166, "WordRents$Search", "count", "I", "WordRents"), ("WordRents", 169, "WordRents$Search", "longOnes", "I", "WordRents"), ("WordRents", 153, "WordRents$Search", "price", "I", "WordRents"), ("WordRents", 156, "WordRents$Search", "distance", "I", "WordRents"), ("WordRents", 176, "WordRents$Search", "place", "I", "WordRents"), ("WordRents", 179, "WordRents$Search", "letter", "I", "WordRents"), ("WordRents", 185, "WordRents$Clerk", "acts", "I", "WordRents"), ("WordRents", 188, "WordRents$Clerk", "why", "I", "WordRents"), ("WordRents", 206, "WordRents$Calendar", "until", "I", "WordRents"), ("WordRents", 204, "WordRents$Calendar", "between", "I", "WordRents"), ("WordRents", 266, "WordRents$Calendar", "taken", "I", "WordRents"), ("WordRents", 269, "WordRents$Calendar", "givenUp", "I", "WordRents"), ("WordRents", 248, "WordRents$Chance", "upper", "J", "WordRents"), ("WordRents", 252, "WordRents$Chance", "lower", "J", "WordRents")]
def am_nstM : List (String × Nat × MethodName × String) := [("WordRents", 9, ⟨"WordRents$Pad", "<init>", "()V"⟩, "WordRents"), ("WordRents", 36, ⟨"WordRents$Till", "<init>", "()V"⟩, "WordRents"), ("WordRents", 43, ⟨"WordRents$Search", "<init>", "()V"⟩, "WordRents"), ("WordRents$Search", 11, ⟨"WordRents$Walk", "<init>", "()V"⟩, "WordRents"), ("WordRents$Search", 20, ⟨"WordRents$Till", "<init>", "()V"⟩, "WordRents"), ("WordRents", 50, ⟨"WordRents$Clerk", "<init>", "()V"⟩, "WordRents"), ("WordRents", 57, ⟨"WordRents$Calendar", "<init>", "()V"⟩, "WordRents"), ("WordRents", 64, ⟨"WordRents$Chance", "<init>", "()V"⟩, "WordRents"), ("WordRents$Republic", 99, ⟨"WordRents", "isMeaning", "(I)Z"⟩, "WordRents"), ("WordRents$Pad", 34, ⟨"WordRents", "sortAt", "(I)I"⟩, "WordRents"), ("WordRents$Pad", 30, ⟨"WordRents", "within", "(III)Z"⟩, "WordRents"), ("WordRents$Till", 32, ⟨"WordRents", "isRhyme", "(I)Z"⟩, "WordRents"), ("WordRents$Walk", 19, ⟨"WordRents", "sortAt", "(I)I"⟩, "WordRents"), ("WordRents$Search", 103, ⟨"WordRents", "sortAt", "(I)I"⟩, "WordRents"), ("WordRents$Republic", 96, ⟨"WordRents", "isFirm", "(I)Z"⟩, "WordRents")]
def am_mlk (o i : Nat) : Option (Nat × am_E) := (am_mlkL.find? (fun q => q.1 == o && q.2.1 == i)).map (fun q => q.2.2)
def am_flk (o i : Nat) : Option (Nat × Nat × Nat × Bool) := (am_flkL.find? (fun q => q.1 == o && q.2.1 == i)).map (fun q => (q.2.2.1, q.2.2.2.1, q.2.2.2.2.1, q.2.2.2.2.2.2.1))
def am_clk (o i : Nat) : Option (Nat × Nat) := (am_clkL.find? (fun q => q.1 == o && q.2.1 == i)).map (fun q => (q.2.2.1, q.2.2.2.1))
def am_cst (o i : Nat) : Option Int32 := (am_cstL.find? (fun q => q.1 == o && q.2.1 == i)).map (fun q => q.2.2.1)
def am_csl (o i : Nat) : Option Int64 := (am_cstJ.find? (fun q => q.1 == o && q.2.1 == i)).map (fun q => q.2.2.1)
abbrev am_in (j : Int32) (n : Nat) : Prop := ¬ (j < 0 ∨ n ≤ j.toNatClampNeg)
def am_kd (h : am_H) (a : Nat) : am_K := h.1.getD a (99, 0)
def am_nx (pc : Nat) (ls st : List Value) (h : am_H) : Option am_S := some (.inl (pc, ls, st, h))
def am_jp (pc : Nat) (off : Int) (ls st : List Value) (h : am_H) : Option am_S := if 0 ≤ (pc : Int) + off then am_nx ((pc : Int) + off).toNat ls st h else none
def am_l1 (ls : List Value) (i : Nat) (v : Value) : Option (List Value) := if i < ls.length then (if i ≠ 0 ∧ (ls.getD (i - 1) .null).category = 2 then none else some (ls.set i v)) else none
def am_l2 (ls : List Value) (i : Nat) (v : Value) : Option (List Value) := if i + 1 < ls.length then (if i ≠ 0 ∧ (ls.getD (i - 1) .null).category = 2 then none else some ((ls.set i v).set (i + 1) .null)) else none
def am_c1 : Value → Bool
  | .int _ => true
  | .ref _ => true
  | .retAddr _ => true
  | _ => false
def am_iload (pc len : Nat) (ls st : List Value) (h : am_H) (i : Nat) : Option am_S := match ls[i]? with
  | some (.int x) => am_nx (pc + len) ls (.int x :: st) h
  | _ => none
def am_lload (pc len : Nat) (ls st : List Value) (h : am_H) (i : Nat) : Option am_S := match ls[i]? with
  | some (.long x) => am_nx (pc + len) ls (.long x :: st) h
  | _ => none
def am_aload (pc len : Nat) (ls st : List Value) (h : am_H) (i : Nat) : Option am_S := match ls[i]? with
  | some (.ref x) => am_nx (pc + len) ls (.ref x :: st) h
  | some (.retAddr x) => am_nx (pc + len) ls (.retAddr x :: st) h
  | _ => none
def am_istore (pc len : Nat) (ls st : List Value) (h : am_H) (i : Nat) : Option am_S := match st with
  | .int x :: r => (am_l1 ls i (.int x)).bind (fun ls' => am_nx (pc + len) ls' r h)
  | _ => none
def am_astore (pc len : Nat) (ls st : List Value) (h : am_H) (i : Nat) : Option am_S := match st with
  | .ref x :: r => (am_l1 ls i (.ref x)).bind (fun ls' => am_nx (pc + len) ls' r h)
  | _ => none
def am_lstore (pc len : Nat) (ls st : List Value) (h : am_H) (i : Nat) : Option am_S := match st with
  | .long x :: r => (am_l2 ls i (.long x)).bind (fun ls' => am_nx (pc + len) ls' r h)
  | _ => none
def am_iinc (pc : Nat) (ls st : List Value) (h : am_H) (i : Nat) (n : Int) : Option am_S := match ls[i]? with
  | some (.int x) => (am_l1 ls i (.int (x + Int32.ofInt n))).bind (fun ls' => am_nx (pc + 3) ls' st h)
  | _ => none
def am_bin (f : Int32 → Int32 → Int32) (pc : Nat) (ls st : List Value) (h : am_H) : Option am_S := match st with
  | .int y :: .int x :: r => am_nx (pc + 1) ls (.int (f x y) :: r) h
  | _ => none
def am_dvd (f : Int32 → Int32 → Int32) (pc : Nat) (ls st : List Value) (h : am_H) : Option am_S := match st with
  | .int y :: .int x :: r => if y = 0 then none else am_nx (pc + 1) ls (.int (f x y) :: r) h
  | _ => none
def am_binL (f : Int64 → Int64 → Int64) (pc : Nat) (ls st : List Value) (h : am_H) : Option am_S := match st with
  | .long y :: .long x :: r => am_nx (pc + 1) ls (.long (f x y) :: r) h
  | _ => none
def am_dvdL (f : Int64 → Int64 → Int64) (pc : Nat) (ls st : List Value) (h : am_H) : Option am_S := match st with
  | .long y :: .long x :: r => if y = 0 then none else am_nx (pc + 1) ls (.long (f x y) :: r) h
  | _ => none
/-- a branch: both its ends are places -/
def am_br (c : Prop) [Decidable c] (pc : Nat) (off : Int) (ls st : List Value) (h : am_H) : Option am_S := if 0 ≤ (pc : Int) + off then (if c then am_nx ((pc : Int) + off).toNat ls st h else am_nx (pc + 3) ls st h) else none
def am_eq (pc : Nat) (ls st : List Value) (h : am_H) (off : Int) : Option am_S := match st with
  | .int x :: r => am_br (x = 0) pc off ls r h
  | _ => none
def am_ne (pc : Nat) (ls st : List Value) (h : am_H) (off : Int) : Option am_S := match st with
  | .int x :: r => am_br (¬ x = 0) pc off ls r h
  | _ => none
def am_lt (pc : Nat) (ls st : List Value) (h : am_H) (off : Int) : Option am_S := match st with
  | .int x :: r => am_br (x < 0) pc off ls r h
  | _ => none
def am_ge (pc : Nat) (ls st : List Value) (h : am_H) (off : Int) : Option am_S := match st with
  | .int x :: r => am_br (0 ≤ x) pc off ls r h
  | _ => none
def am_gt (pc : Nat) (ls st : List Value) (h : am_H) (off : Int) : Option am_S := match st with
  | .int x :: r => am_br (0 < x) pc off ls r h
  | _ => none
def am_le (pc : Nat) (ls st : List Value) (h : am_H) (off : Int) : Option am_S := match st with
  | .int x :: r => am_br (x ≤ 0) pc off ls r h
  | _ => none
def am_ieq (pc : Nat) (ls st : List Value) (h : am_H) (off : Int) : Option am_S := match st with
  | .int y :: .int x :: r => am_br (x = y) pc off ls r h
  | _ => none
def am_ine (pc : Nat) (ls st : List Value) (h : am_H) (off : Int) : Option am_S := match st with
  | .int y :: .int x :: r => am_br (¬ x = y) pc off ls r h
  | _ => none
def am_ilt (pc : Nat) (ls st : List Value) (h : am_H) (off : Int) : Option am_S := match st with
  | .int y :: .int x :: r => am_br (x < y) pc off ls r h
  | _ => none
def am_ige (pc : Nat) (ls st : List Value) (h : am_H) (off : Int) : Option am_S := match st with
  | .int y :: .int x :: r => am_br (y ≤ x) pc off ls r h
  | _ => none
def am_igt (pc : Nat) (ls st : List Value) (h : am_H) (off : Int) : Option am_S := match st with
  | .int y :: .int x :: r => am_br (y < x) pc off ls r h
  | _ => none
def am_ile (pc : Nat) (ls st : List Value) (h : am_H) (off : Int) : Option am_S := match st with
  | .int y :: .int x :: r => am_br (x ≤ y) pc off ls r h
  | _ => none
def am_tsw (pc : Nat) (ls st : List Value) (h : am_H) (d lo hi : Int) (offs : Array Int) : Option am_S := match st with
  | .int x :: r => if x.toInt < lo ∨ hi < x.toInt then am_jp pc d ls r h else (offs[(x.toInt - lo).toNat]?).bind (fun o => am_jp pc o ls r h)
  | _ => none
def am_gfx (q : Option (Nat × Nat × Nat × Bool)) (pc : Nat) (ls st : List Value) (h : am_H) : Option am_S := match q, st with
  | some (ci, k, ty, _), .ref a :: r => if (am_kd h a).1 = ci then (if ty = 0 then am_nx (pc + 3) ls (.int (h.2.1 a k) :: r) h else if ty = 1 then am_nx (pc + 3) ls (.long (h.2.2.1 a k) :: r) h else match h.2.2.2.1 a k with
      | some x => am_nx (pc + 3) ls (.ref x :: r) h
      | none => none) else none
  | _, _ => none
def am_sI (h : am_H) (a k : Nat) (x : Int32) : am_H := (h.1, va_up h.2.1 a (upd (h.2.1 a) k x), h.2.2)
def am_sJ (h : am_H) (a k : Nat) (x : Int64) : am_H := (h.1, h.2.1, va_up h.2.2.1 a (vp_updL (h.2.2.1 a) k x), h.2.2.2)
def am_sR (h : am_H) (a k : Nat) (x : Nat) : am_H := (h.1, h.2.1, h.2.2.1, va_up h.2.2.2.1 a (va_up (h.2.2.2.1 a) k (some x)), h.2.2.2.2)
def am_cp (h : am_H) (a a0 : Nat) : am_H := (h.1, va_up h.2.1 a (h.2.1 a0), h.2.2)
def am_mk (h : am_H) (q : am_K) : am_H := (h.1 ++ [q], va_up h.2.1 h.1.length (fun _ => 0), va_up h.2.2.1 h.1.length (fun _ => 0), va_up h.2.2.2.1 h.1.length (fun _ => none), h.2.2.2.2)
def am_pfx (q : Option (Nat × Nat × Nat × Bool)) (e : am_E) (pc : Nat) (ls st : List Value) (h : am_H) : Option am_S := match q, st with
  | some (ci, k, ty, fin), .int x :: .ref a :: r => if (am_kd h a).1 = ci ∧ ty = 0 ∧ fin = false then am_nx (pc + 3) ls r (am_sI h a k x) else none
  | some (ci, k, ty, fin), .long x :: .ref a :: r => if (am_kd h a).1 = ci ∧ ty = 1 ∧ fin = false then am_nx (pc + 3) ls r (am_sJ h a k x) else none
  | some (ci, k, ty, fin), .ref x :: .ref a :: r => if (am_kd h a).1 = ci ∧ ty = 2 ∧ fin = true ∧ e.1.name = "<init>" then am_nx (pc + 3) ls r (am_sR h a k x) else none
  | _, _ => none
def am_ald (pc : Nat) (ls st : List Value) (h : am_H) (t : Nat) : Option am_S := match st with
  | .int j :: .ref a :: r => if (am_kd h a).1 = t ∧ am_in j (am_kd h a).2 then am_nx (pc + 1) ls (.int (h.2.1 a j.toNatClampNeg) :: r) h else none
  | .int j :: .retAddr _ :: r => if t = 10 ∧ am_in j h.2.2.2.2.2 ∧ h.2.2.2.2.2 ≤ 384 then am_nx (pc + 1) ls (.int (h.2.2.2.2.1 j.toNatClampNeg) :: r) h else none
  | _ => none
def am_aldJ (pc : Nat) (ls st : List Value) (h : am_H) : Option am_S := match st with
  | .int j :: .ref a :: r => if (am_kd h a).1 = 11 ∧ am_in j (am_kd h a).2 then am_nx (pc + 1) ls (.long (h.2.2.1 a j.toNatClampNeg) :: r) h else none
  | _ => none
def am_aldR (pc : Nat) (ls st : List Value) (h : am_H) : Option am_S := match st with
  | .int j :: .ref a :: r => if (am_kd h a).1 = 13 ∧ am_in j (am_kd h a).2 then (h.2.2.2.1 a j.toNatClampNeg).bind (fun x => am_nx (pc + 1) ls (.ref x :: r) h) else none
  | _ => none
def am_ast (pc : Nat) (ls st : List Value) (h : am_H) : Option am_S := match st with
  | .int x :: .int j :: .ref a :: r => if (am_kd h a).1 = 10 ∧ am_in j (am_kd h a).2 then am_nx (pc + 1) ls r (am_sI h a j.toNatClampNeg x) else none
  | _ => none
def am_astZ (pc : Nat) (ls st : List Value) (h : am_H) : Option am_S := match st with
  | .int x :: .int j :: .ref a :: r => if (am_kd h a).1 = 12 ∧ am_in j (am_kd h a).2 ∧ x = 1 then am_nx (pc + 1) ls r (am_sI h a j.toNatClampNeg 1) else none
  | _ => none
def am_astJ (pc : Nat) (ls st : List Value) (h : am_H) : Option am_S := match st with
  | .long x :: .int j :: .ref a :: r => if (am_kd h a).1 = 11 ∧ am_in j (am_kd h a).2 then am_nx (pc + 1) ls r (am_sJ h a j.toNatClampNeg x) else none
  | _ => none
def am_astR (pc : Nat) (ls st : List Value) (h : am_H) : Option am_S := match st with
  | .ref x :: .int j :: .ref a :: r => if (am_kd h a).1 = 13 ∧ am_in j (am_kd h a).2 ∧ (am_kd h x).1 = 4 then am_nx (pc + 1) ls r (am_sR h a j.toNatClampNeg x) else none
  | _ => none
def am_aln (pc : Nat) (ls st : List Value) (h : am_H) : Option am_S := match st with
  | .retAddr _ :: r => if h.2.2.2.2.2 ≤ 384 then am_nx (pc + 1) ls (.int (Int32.ofNat h.2.2.2.2.2) :: r) h else none
  | _ => none
def am_nwa (pc len : Nat) (ls st : List Value) (h : am_H) (t : Nat) : Option am_S := match st with
  | .int n :: r => if ¬ n < 0 ∧ n.toNatClampNeg ≤ 1000 then am_nx (pc + len) ls (.ref h.1.length :: r) (am_mk h (t, n.toNatClampNeg)) else none
  | _ => none
def am_recv (h : am_H) (o : Nat) (as : List Value) : Bool := match as with
  | .ref a :: _ => (am_kd h a).1 == o
  | _ => false
/-- room below a call: 4 values of any kind, or 8 that take one place each -/
def am_dp (n : Nat) (st : List Value) : Bool := decide (st.length ≤ n + 4) || (decide (st.length ≤ n + 8) && (st.drop n).all am_c1)
theorem am_dp_of {n : Nat} {st : List Value} (h : st.length ≤ n + 4) : am_dp n st = true := by simp [am_dp, h]
theorem am_dp_of8 {n : Nat} {st : List Value} (h : st.length ≤ n + 8) (h1 : (st.drop n).all am_c1 = true) : am_dp n st = true := by
  unfold am_dp; rw [h1]; simp [h]
def am_cok (e e2 : am_E) (k : Nat) (st : List Value) (h : am_H) : Bool :=
  decide (am_na e2 ≤ st.length) && am_dp (am_na e2) st && decide (am_rk e2 < am_rk e) && (st.take (am_na e2)).all am_c1 && (k == 0 || k == 3 || am_recv h (am_ow e2) (st.take (am_na e2)).reverse)
def am_call (q : Option (Nat × am_E)) (ok : Nat → Bool) (e : am_E) (pc : Nat) (ls st : List Value) (h : am_H) : Option am_S := match q with
  | some (k, e2) => if ok k = true then (if am_cok e e2 k st h = true then some (.inr (.inr (e2, (st.take (am_na e2)).reverse, st.drop (am_na e2)))) else none) else none
  | none => none
/-- Object.<init> -/
def am_obj (q : Option (Nat × am_E)) (e : am_E) (pc : Nat) (ls st : List Value) (h : am_H) : Option am_S := match q, st with
  | some (6, _), .ref _ :: r => if r.length ≤ 4 ∧ 0 < am_rk e then am_nx (pc + 3) ls r h else none
  | _, _ => none
/-- System.arraycopy of a whole int array over another as long -/
def am_acp (q : Option (Nat × am_E)) (e : am_E) (pc : Nat) (ls st : List Value) (h : am_H) : Option am_S := match q, st with
  | some (7, _), .int n :: .int dp :: .ref a :: .int sp :: .ref a0 :: r => if r.length ≤ 4 ∧ 0 < am_rk e ∧ dp = 0 ∧ sp = 0 ∧ ¬ n < 0 ∧ am_kd h a0 = (10, n.toNatClampNeg) ∧ am_kd h a = (10, n.toNatClampNeg) then am_nx (pc + 3) ls r (am_cp h a a0) else none
  | _, _ => none
/-- Math.max -/
def am_mx (q : Option (Nat × am_E)) (e : am_E) (pc : Nat) (ls st : List Value) (h : am_H) : Option am_S := match q, st with
  | some (8, _), .int y :: .int x :: r => if r.length ≤ 4 ∧ 0 < am_rk e then am_nx (pc + 3) ls (.int (if x < y then y else x) :: r) h else none
  | _, _ => none
def am_stp (e : am_E) (pc : Nat) (ls st : List Value) (h : am_H) (i : Instr) (len : Nat) : Option am_S := match i with
  | .iconst n => if len = 1 then am_nx (pc + 1) ls (.int (Int32.ofInt n) :: st) h else none
  | .bipush n => if len = 2 then am_nx (pc + 2) ls (.int (Int8.ofInt n).toInt32 :: st) h else none
  | .sipush n => if len = 3 then am_nx (pc + 3) ls (.int (Int16.ofInt n).toInt32 :: st) h else none
  | .lconst n => if len = 1 then am_nx (pc + 1) ls (.long (Int64.ofNat (n : Nat)) :: st) h else none
  | .ldc k => if len = 2 then (am_cst (am_ow e) k).bind (fun v => am_nx (pc + 2) ls (.int v :: st) h) else none
  | .ldc_w k => if len = 3 then (am_cst (am_ow e) k).bind (fun v => am_nx (pc + 3) ls (.int v :: st) h) else none
  | .ldc2_w k => if len = 3 then (am_csl (am_ow e) k).bind (fun v => am_nx (pc + 3) ls (.long v :: st) h) else none
  | .iload_n k => if len = 1 then am_iload pc 1 ls st h (k : Nat) else none
  | .iload k => if len = 2 then am_iload pc 2 ls st h k else none
  | .lload_n k => if len = 1 then am_lload pc 1 ls st h (k : Nat) else none
  | .lload k => if len = 2 then am_lload pc 2 ls st h k else none
  | .aload_n k => if len = 1 then am_aload pc 1 ls st h (k : Nat) else none
  | .aload k => if len = 2 then am_aload pc 2 ls st h k else none
  | .istore_n k => if len = 1 then am_istore pc 1 ls st h (k : Nat) else none
  | .istore k => if len = 2 then am_istore pc 2 ls st h k else none
  | .lstore_n k => if len = 1 then am_lstore pc 1 ls st h (k : Nat) else none
  | .lstore k => if len = 2 then am_lstore pc 2 ls st h k else none
  | .astore_n k => if len = 1 then am_astore pc 1 ls st h (k : Nat) else none
  | .iinc k n => if len = 3 then am_iinc pc ls st h k n else none
  | .iadd => if len = 1 then am_bin (fun x y => x + y) pc ls st h else none
  | .isub => if len = 1 then am_bin (fun x y => x - y) pc ls st h else none
  | .imul => if len = 1 then am_bin (fun x y => x * y) pc ls st h else none
  | .iand => if len = 1 then am_bin (fun x y => x &&& y) pc ls st h else none
  | .ior => if len = 1 then am_bin (fun x y => x ||| y) pc ls st h else none
  | .ixor => if len = 1 then am_bin (fun x y => x ^^^ y) pc ls st h else none
  | .ishl => if len = 1 then am_bin (fun x y => x <<< (y &&& 31)) pc ls st h else none
  | .ishr => if len = 1 then am_bin (fun x y => x >>> (y &&& 31)) pc ls st h else none
  | .iushr => if len = 1 then am_bin (fun x y => (x.toUInt32 >>> (y.toUInt32 &&& Int32.toUInt32 31)).toInt32) pc ls st h else none
  | .idiv => if len = 1 then am_dvd (fun x y => x / y) pc ls st h else none
  | .irem => if len = 1 then am_dvd (fun x y => x - x / y * y) pc ls st h else none
  | .ladd => if len = 1 then am_binL (fun x y => x + y) pc ls st h else none
  | .lmul => if len = 1 then am_binL (fun x y => x * y) pc ls st h else none
  | .ldiv => if len = 1 then am_dvdL (fun x y => x / y) pc ls st h else none
  | .lrem => if len = 1 then am_dvdL (fun x y => x - x / y * y) pc ls st h else none
  | .lcmp => if len = 1 then (match st with
      | .long y :: .long x :: r => am_nx (pc + 1) ls (.int (lg_cmp x y) :: r) h
      | _ => none) else none
  | .i2l => if len = 1 then (match st with
      | .int x :: r => am_nx (pc + 1) ls (.long x.toInt64 :: r) h
      | _ => none) else none
  | .dup => if len = 1 then (match st with
      | v :: r => if am_c1 v = true then am_nx (pc + 1) ls (v :: v :: r) h else none
      | _ => none) else none
  | .dup2 => if len = 1 then (match st with
      | v :: w :: r => if am_c1 v = true ∧ am_c1 w = true then am_nx (pc + 1) ls (v :: w :: v :: w :: r) h else none
      | _ => none) else none
  | .pop => if len = 1 then (match st with
      | v :: r => if am_c1 v = true then am_nx (pc + 1) ls r h else none
      | _ => none) else none
  | .goto o => if len = 3 then am_jp pc o ls st h else none
  | .ifCond .eq o => if len = 3 then am_eq pc ls st h o else none
  | .ifCond .ne o => if len = 3 then am_ne pc ls st h o else none
  | .ifCond .lt o => if len = 3 then am_lt pc ls st h o else none
  | .ifCond .ge o => if len = 3 then am_ge pc ls st h o else none
  | .ifCond .gt o => if len = 3 then am_gt pc ls st h o else none
  | .ifCond .le o => if len = 3 then am_le pc ls st h o else none
  | .if_icmp .eq o => if len = 3 then am_ieq pc ls st h o else none
  | .if_icmp .ne o => if len = 3 then am_ine pc ls st h o else none
  | .if_icmp .lt o => if len = 3 then am_ilt pc ls st h o else none
  | .if_icmp .ge o => if len = 3 then am_ige pc ls st h o else none
  | .if_icmp .gt o => if len = 3 then am_igt pc ls st h o else none
  | .if_icmp .le o => if len = 3 then am_ile pc ls st h o else none
  | .tableswitch d lo hi offs => am_tsw pc ls st h d lo hi offs
  | .getfield k => if len = 3 then am_gfx (am_flk (am_ow e) k) pc ls st h else none
  | .putfield k => if len = 3 then am_pfx (am_flk (am_ow e) k) e pc ls st h else none
  | .iaload => if len = 1 then am_ald pc ls st h 10 else none
  | .baload => if len = 1 then am_ald pc ls st h 12 else none
  | .laload => if len = 1 then am_aldJ pc ls st h else none
  | .aaload => if len = 1 then am_aldR pc ls st h else none
  | .iastore => if len = 1 then am_ast pc ls st h else none
  | .bastore => if len = 1 then am_astZ pc ls st h else none
  | .lastore => if len = 1 then am_astJ pc ls st h else none
  | .aastore => if len = 1 then am_astR pc ls st h else none
  | .arraylength => if len = 1 then am_aln pc ls st h else none
  | .new k => if len = 3 then (am_clk (am_ow e) k).bind (fun q => am_nx (pc + 3) ls (.ref h.1.length :: st) (am_mk h (q.1, q.2))) else none
  | .newarray .int => if len = 2 then am_nwa pc 2 ls st h 10 else none
  | .newarray .long => if len = 2 then am_nwa pc 2 ls st h 11 else none
  | .newarray .boolean => if len = 2 then am_nwa pc 2 ls st h 12 else none
  | .anewarray k => if len = 3 then (am_clk (am_ow e) k).bind (fun q => if q.1 = 4 then am_nwa pc 3 ls st h 13 else none) else none
  | .invokevirtual k => if len = 3 then am_call (am_mlk (am_ow e) k) (fun k => k == 1) e pc ls st h else none
  | .invokestatic k => if len = 3 then (am_acp (am_mlk (am_ow e) k) e pc ls st h).or ((am_mx (am_mlk (am_ow e) k) e pc ls st h).or (am_call (am_mlk (am_ow e) k) (fun k => k == 0 || k == 3) e pc ls st h)) else none
  | .invokespecial k => if len = 3 then (am_obj (am_mlk (am_ow e) k) e pc ls st h).or (am_call (am_mlk (am_ow e) k) (fun k => k == 2 || k == 5) e pc ls st h) else none
  | .ireturn => if len = 1 then (match st with
      | [.int x] => if am_rt e = some .int ∨ (am_rt e = some .boolean ∧ (x = 0 ∨ x = 1)) then some (.inr (.inl (some (.int x)))) else none
      | _ => none) else none
  | .lreturn => if len = 1 then (match st with
      | [.long x] => if am_rt e = some .long then some (.inr (.inl (some (.long x)))) else none
      | _ => none) else none
  | .return_ => if len = 1 then (match st with
      | [] => if am_rt e = none then some (.inr (.inl none)) else none
      | _ => none) else none
  | _ => none
def am_loc (e : am_E) (as : List Value) : List Value := as ++ List.replicate (am_ml e - as.length) .null
def am_at (e : am_E) (pc : Nat) (ls st : List Value) (h : am_H) : Option am_S := match decode (am_code e) pc with
  | .ok q => am_stp e pc ls st h q.1 q.2
  | .error _ => none
def am_run : Nat → am_E → Nat → List Value → List Value → am_H → Option (Option Value × am_H)
  | 0, _, _, _, _, _ => none
  | n + 1, e, pc, ls, st, h => match am_at e pc ls st h with
    | none => none
    | some (.inl q) => am_run n e q.1 q.2.1 q.2.2.1 q.2.2.2
    | some (.inr (.inl v)) => some (v, h)
    | some (.inr (.inr q)) => match am_run n q.1 0 (am_loc q.1 q.2.1) [] h with
      | none => none
      | some r => am_run n e (pc + 3) ls (r.1.toList ++ q.2.2) r.2
