/-! printed by own program dec.py: the methods, and the functions that their bytecode computes -/
def FU : Nat := 60000
def mX0_forget : MT := (yX0_forget, cX0_forget, 1, none, 0, 0)
def mX0_keep : MT := (yX0_keep, cX0_keep, 3, none, 1, 21)
def mX0_takeBack : MT := (yX0_takeBack, cX0_takeBack, 3, none, 0, 0)
def mX1_left : MT := (yX1_left, cX1_left, 2, some .int, 0, 0)
def mX2_isOfKind : MT := (yX2_isOfKind, cX2_isOfKind, 2, some .boolean, 0, 0)
def mX1_leave : MT := (yX1_leave, cX1_leave, 2, none, 0, 0)
def mJ6_bitCount_0f7a4 : MT := (yJ6_bitCount_0f7a4, cJ6_bitCount_0f7a4, 1, some .int, 0, 0)
def mX1_sizeOfAll : MT := (yX1_sizeOfAll, cX1_sizeOfAll, 3, some .int, 1, 21)
def mX1_markOfAll : MT := (yX1_markOfAll, cX1_markOfAll, 2, some .int, 1, 21)
def mX1_markOfPlain : MT := (yX1_markOfPlain, cX1_markOfPlain, 6, some .int, 2, 42)
def mX1_sizeOfPlain : MT := (yX1_sizeOfPlain, cX1_sizeOfPlain, 6, some .int, 3, 67)
def mX1_sizeOfLying : MT := (yX1_sizeOfLying, cX1_sizeOfLying, 5, some .int, 2, 43)
def mX1_markOfLying : MT := (yX1_markOfLying, cX1_markOfLying, 4, some .int, 3, 67)
def mX1_begin : MT := (yX1_begin, cX1_begin, 5, some .int, 4, 92)
def mX2_sortOf : MT := (yX2_sortOf, cX2_sortOf, 1, some .int, 0, 0)
def mX2_isSort : MT := (yX2_isSort, cX2_isSort, 1, some .boolean, 0, 0)
def mX2_fits : MT := (yX2_fits, cX2_fits, 6, some .boolean, 1, 20)
def mX2_least : MT := (yX2_least, cX2_least, 2, some .int, 1, 20)
def mJ7_fill_53178 : MT := (yJ7_fill_53178, cJ7_fill_53178, 4, none, 0, 0)
def mX2_clear : MT := (yX2_clear, cX2_clear, 1, none, 1, 23)
def mX2_become : MT := (yX2_become, cX2_become, 2, none, 1, 26)
def mX2_allThings : MT := (yX2_allThings, cX2_allThings, 1, some .int, 0, 0)
def mX2_thingsFitting : MT := (yX2_thingsFitting, cX2_thingsFitting, 6, some .int, 2, 45)
def mX2_answer : MT := (yX2_answer, cX2_answer, 2, some .int, 2, 41)
def mX2_heSays : MT := (yX2_heSays, cX2_heSays, 3, some .int, 2, 41)
def mX2_sheSays : MT := (yX2_sheSays, cX2_sheSays, 2, some .int, 2, 41)
def mX2_isKnown : MT := (yX2_isKnown, cX2_isKnown, 3, some .boolean, 0, 0)
def mX2_wasUsed : MT := (yX2_wasUsed, cX2_wasUsed, 2, some .boolean, 0, 0)
def mX2_comes : MT := (yX2_comes, cX2_comes, 2, some .boolean, 0, 0)
def mX2_countOfFate : MT := (yX2_countOfFate, cX2_countOfFate, 4, some .int, 0, 0)
def mX2_isOneWed : MT := (yX2_isOneWed, cX2_isOneWed, 1, some .boolean, 1, 23)
def mX2_answerHer : MT := (yX2_answerHer, cX2_answerHer, 4, some .int, 3, 63)
def mX2_askHer : MT := (yX2_askHer, cX2_askHer, 4, some .int, 3, 62)
def mX2_cost : MT := (yX2_cost, cX2_cost, 4, some .int, 3, 62)
def mX2_sell : MT := (yX2_sell, cX2_sell, 4, some .int, 4, 85)
def mX2_costOfAll : MT := (yX2_costOfAll, cX2_costOfAll, 4, some .int, 4, 85)
def mX3_onlyThing : MT := (yX3_onlyThing, cX3_onlyThing, 6, some .int, 3, 70)
def mX3_riddleAgainst : MT := (yX3_riddleAgainst, cX3_riddleAgainst, 9, some .int, 4, 95)
def mX3_comingWithout : MT := (yX3_comingWithout, cX3_comingWithout, 4, some .int, 1, 22)
def mX3_hardest : MT := (yX3_hardest, cX3_hardest, 9, some .int, 4, 95)
def mX3_rowsOfUnlike : MT := (yX3_rowsOfUnlike, cX3_rowsOfUnlike, 4, some .int, 1, 21)
def mX3_likelihood : MT := (yX3_likelihood, cX3_likelihood, 10, some .int, 3, 63)
def mX3_wanted : MT := (yX3_wanted, cX3_wanted, 6, some .int, 3, 62)
def mX3_beating : MT := (yX3_beating, cX3_beating, 4, some .int, 3, 62)
def mX3_areTwoAlike : MT := (yX3_areTwoAlike, cX3_areTwoAlike, 5, some .boolean, 0, 0)
def mX3_gatherByTraits : MT := (yX3_gatherByTraits, cX3_gatherByTraits, 4, none, 1, 23)
def mX3_splits : MT := (yX3_splits, cX3_splits, 3, some .boolean, 0, 0)
def mX3_questionsBy : MT := (yX3_questionsBy, cX3_questionsBy, 3, some .int, 1, 21)
def mX3_fewestOfAll : MT := (yX3_fewestOfAll, cX3_fewestOfAll, 4, some .int, 2, 43)
def mX3_firstTrait : MT := (yX3_firstTrait, cX3_firstTrait, 3, some .int, 2, 43)
def mX3_fewestQuestions : MT := (yX3_fewestQuestions, cX3_fewestQuestions, 5, some .int, 3, 66)
def mX3_riddlesSaid : MT := (yX3_riddlesSaid, cX3_riddlesSaid, 6, some .int, 3, 63)
def mX3_timesBefore : MT := (yX3_timesBefore, cX3_timesBefore, 4, some .int, 0, 0)
def mX3_riddlesHeard : MT := (yX3_riddlesHeard, cX3_riddlesHeard, 11, some .int, 4, 88)
def mX4_isMissing : MT := (yX4_isMissing, cX4_isMissing, 2, some .boolean, 0, 0)
def mX4_areAlike : MT := (yX4_areAlike, cX4_areAlike, 3, some .boolean, 0, 0)
def mX4_hasPlaces : MT := (yX4_hasPlaces, cX4_hasPlaces, 4, some .boolean, 0, 0)
def mJ7_rangeCheck_23922 : MT := (yJ7_rangeCheck_23922, cJ7_rangeCheck_23922, 3, none, 0, 0)
def mJ7_fill_fda19 : MT := (yJ7_fill_fda19, cJ7_fill_fda19, 5, none, 1, 22)
def mX4_lay : MT := (yX4_lay, cX4_lay, 4, none, 2, 46)
def mX4_put : MT := (yX4_put, cX4_put, 5, some .int, 0, 0)
def mX4_at : MT := (yX4_at, cX4_at, 3, some .int, 0, 0)
def mX4_move : MT := (yX4_move, cX4_move, 6, none, 1, 26)
def mX4_lose : MT := (yX4_lose, cX4_lose, 2, some .int, 0, 0)
def mX4_present : MT := (yX4_present, cX4_present, 3, some .int, 0, 0)
def mX5_add : MT := (yX5_add, cX5_add, 2, some .int, 0, 0)
def mX5_clear : MT := (yX5_clear, cX5_clear, 1, none, 0, 0)
def mX5_next : MT := (yX5_next, cX5_next, 1, some .int, 0, 0)
def mX5_faulty : MT := (yX5_faulty, cX5_faulty, 2, some .boolean, 0, 0)
def mX5_takes : MT := (yX5_takes, cX5_takes, 2, some .boolean, 1, 21)
def mX5_takesNumber : MT := (yX5_takesNumber, cX5_takesNumber, 5, some .boolean, 1, 21)
def mX5_tellsLaw : MT := (yX5_tellsLaw, cX5_tellsLaw, 2, some .boolean, 2, 45)
def mX5_tellsThings : MT := (yX5_tellsThings, cX5_tellsThings, 2, some .boolean, 2, 45)
def mX5_tellsRiddle : MT := (yX5_tellsRiddle, cX5_tellsRiddle, 3, some .boolean, 3, 70)
def mX5_tellsRiddles : MT := (yX5_tellsRiddles, cX5_tellsRiddles, 2, some .boolean, 4, 92)
def mX5_tellsSuitors : MT := (yX5_tellsSuitors, cX5_tellsSuitors, 2, some .boolean, 2, 45)
def mX5_tells : MT := (yX5_tells, cX5_tells, 2, some .boolean, 5, 113)
def mX6_below : MT := (yX6_below, cX6_below, 2, some .boolean, 0, 0)
def mX6_found : MT := (yX6_found, cX6_found, 2, some .int, 0, 0)
def mX6_clean : MT := (yX6_clean, cX6_clean, 2, some .int, 0, 0)
def mX6_row : MT := (yX6_row, cX6_row, 4, some .int, 3, 69)
def mX6_set : MT := (yX6_set, cX6_set, 4, some .int, 1, 24)
def mX6_copy : MT := (yX6_copy, cX6_copy, 6, some .int, 2, 51)
def mX6_drop : MT := (yX6_drop, cX6_drop, 2, some .int, 1, 21)
def mX6_feed : MT := (yX6_feed, cX6_feed, 2, some .int, 1, 21)
def mX6_court : MT := (yX6_court, cX6_court, 2, some .int, 6, 134)
def mX6_fault : MT := (yX6_fault, cX6_fault, 1, some .int, 0, 0)
def mX6_asked : MT := (yX6_asked, cX6_asked, 3, some .int, 4, 86)
def mX6_inTurn : MT := (yX6_inTurn, cX6_inTurn, 3, some .int, 4, 85)
def mX6_buy : MT := (yX6_buy, cX6_buy, 3, some .int, 5, 108)
def mX6_undo : MT := (yX6_undo, cX6_undo, 1, some .int, 1, 22)
def mX6_thing : MT := (yX6_thing, cX6_thing, 2, some .int, 1, 21)
def mX6_riddle : MT := (yX6_riddle, cX6_riddle, 3, some .int, 3, 62)
def mX6_suitor : MT := (yX6_suitor, cX6_suitor, 3, some .int, 1, 21)
def mX6_says : MT := (yX6_says, cX6_says, 3, some .int, 3, 63)
def mX6_riddleFor : MT := (yX6_riddleFor, cX6_riddleFor, 4, some .int, 5, 123)
def mX6_hard : MT := (yX6_hard, cX6_hard, 3, some .int, 5, 123)
def mX6_chance : MT := (yX6_chance, cX6_chance, 3, some .int, 4, 92)
def mX6_toBuy : MT := (yX6_toBuy, cX6_toBuy, 4, some .int, 5, 108)
def mX6_beats : MT := (yX6_beats, cX6_beats, 1, some .int, 4, 85)
def mX6_tree : MT := (yX6_tree, cX6_tree, 3, some .int, 4, 90)
def mX6_said : MT := (yX6_said, cX6_said, 7, some .int, 5, 118)
def mX6_image : MT := (yX6_image, cX6_image, 2, some .int, 2, 47)
def mX6_restore : MT := (yX6_restore, cX6_restore, 2, some .int, 2, 47)
def mX6_kind : MT := (yX6_kind, cX6_kind, 2, some .int, 1, 21)
def mX6_as : MT := (yX6_as, cX6_as, 3, some .int, 1, 21)
def mX6_ask : MT := (yX6_ask, cX6_ask, 3, some .int, 5, 116)
def mX6_trace : MT := (yX6_trace, cX6_trace, 2, some .int, 1, 21)
def mX6_count : MT := (yX6_count, cX6_count, 2, some .int, 1, 23)
def mX6_status : MT := (yX6_status, cX6_status, 1, some .int, 0, 0)
def mX7_in : MT := (yX7_in, cX7_in, 3, some .boolean, 0, 0)
def mX7_has : MT := (yX7_has, cX7_has, 2, some .boolean, 0, 0)
def mX7_bits : MT := (yX7_bits, cX7_bits, 3, some .int, 0, 0)
def mX7_finds : MT := (yX7_finds, cX7_finds, 2, some .int, 0, 0)
def mX7_done : MT := (yX7_done, cX7_done, 2, some .int, 0, 0)
def mX7_isRow : MT := (yX7_isRow, cX7_isRow, 1, some .boolean, 1, 22)
def mX7_row : MT := (yX7_row, cX7_row, 5, some .int, 2, 42)
def mX7_set : MT := (yX7_set, cX7_set, 4, some .int, 2, 42)
def mX7_isPart : MT := (yX7_isPart, cX7_isPart, 3, some .boolean, 0, 0)
def mX7_copy : MT := (yX7_copy, cX7_copy, 9, some .int, 2, 42)
def mX7_drop : MT := (yX7_drop, cX7_drop, 2, some .int, 2, 42)
def mX7_feed : MT := (yX7_feed, cX7_feed, 2, some .int, 1, 22)
def mX7_nextToken : MT := (yX7_nextToken, cX7_nextToken, 2, none, 1, 22)
def mX7_fails : MT := (yX7_fails, cX7_fails, 2, some .boolean, 0, 0)
def mX7_isNumber : MT := (yX7_isNumber, cX7_isNumber, 2, some .boolean, 2, 43)
def mX7_isSign : MT := (yX7_isSign, cX7_isSign, 2, some .boolean, 2, 43)
def mX7_sortOf : MT := (yX7_sortOf, cX7_sortOf, 1, some .int, 0, 0)
def mX7_isLaw : MT := (yX7_isLaw, cX7_isLaw, 1, some .boolean, 3, 64)
def mX7_isThing : MT := (yX7_isThing, cX7_isThing, 1, some .boolean, 3, 64)
def mX7_isRiddle : MT := (yX7_isRiddle, cX7_isRiddle, 2, some .boolean, 3, 64)
def mX7_isSuitor : MT := (yX7_isSuitor, cX7_isSuitor, 1, some .boolean, 3, 64)
def mX7_isRead : MT := (yX7_isRead, cX7_isRead, 3, some .boolean, 4, 85)
def mX7_lay : MT := (yX7_lay, cX7_lay, 5, none, 0, 0)
def mX7_everything : MT := (yX7_everything, cX7_everything, 1, some .int, 0, 0)
def mX7_court : MT := (yX7_court, cX7_court, 2, some .int, 5, 107)
def mX7_fault : MT := (yX7_fault, cX7_fault, 1, some .int, 0, 0)
def mX7_isCourt : MT := (yX7_isCourt, cX7_isCourt, 1, some .boolean, 0, 0)
def mX7_isThingAt : MT := (yX7_isThingAt, cX7_isThingAt, 2, some .boolean, 1, 22)
def mX7_isRiddleAt : MT := (yX7_isRiddleAt, cX7_isRiddleAt, 2, some .boolean, 1, 22)
def mX7_isSuitorAt : MT := (yX7_isSuitorAt, cX7_isSuitorAt, 2, some .boolean, 1, 22)
def mX7_fits : MT := (yX7_fits, cX7_fits, 6, some .boolean, 1, 22)
def mX7_fittersOf : MT := (yX7_fittersOf, cX7_fittersOf, 6, some .int, 2, 47)
def mX7_fittersAt : MT := (yX7_fittersAt, cX7_fittersAt, 2, some .int, 3, 72)
def mX7_leastOf : MT := (yX7_leastOf, cX7_leastOf, 2, some .int, 1, 21)
def mX7_answerAt : MT := (yX7_answerAt, cX7_answerAt, 2, some .int, 4, 93)
def mX7_saysAt : MT := (yX7_saysAt, cX7_saysAt, 3, some .int, 4, 93)
def mX7_sheSaysAt : MT := (yX7_sheSaysAt, cX7_sheSaysAt, 2, some .int, 4, 93)
def mX7_isOpen : MT := (yX7_isOpen, cX7_isOpen, 2, some .boolean, 1, 21)
def mX7_isAnyWed : MT := (yX7_isAnyWed, cX7_isAnyWed, 3, some .boolean, 0, 0)
def mX7_act : MT := (yX7_act, cX7_act, 2, none, 1, 24)
def mX7_asked : MT := (yX7_asked, cX7_asked, 4, some .int, 5, 115)
def mX7_inTurn : MT := (yX7_inTurn, cX7_inTurn, 4, some .int, 5, 114)
def mX7_costOf : MT := (yX7_costOf, cX7_costOf, 4, some .int, 5, 114)
def mX7_buy : MT := (yX7_buy, cX7_buy, 4, some .int, 6, 137)
def mX7_undo : MT := (yX7_undo, cX7_undo, 1, some .int, 1, 24)
def mX7_thing : MT := (yX7_thing, cX7_thing, 2, some .int, 2, 43)
def mX7_riddle : MT := (yX7_riddle, cX7_riddle, 3, some .int, 5, 114)
def mX7_suitor : MT := (yX7_suitor, cX7_suitor, 3, some .int, 2, 43)
def mX7_says : MT := (yX7_says, cX7_says, 3, some .int, 5, 115)
def mX7_riddleFor : MT := (yX7_riddleFor, cX7_riddleFor, 11, some .int, 3, 72)
def mX7_hard : MT := (yX7_hard, cX7_hard, 11, some .int, 3, 72)
def mX7_over : MT := (yX7_over, cX7_over, 4, some .int, 0, 0)
def mX7_chance : MT := (yX7_chance, cX7_chance, 11, some .int, 5, 115)
def mX7_toBuy : MT := (yX7_toBuy, cX7_toBuy, 8, some .int, 6, 137)
def mX7_beats : MT := (yX7_beats, cX7_beats, 3, some .int, 5, 114)
def mX7_havers : MT := (yX7_havers, cX7_havers, 5, some .int, 1, 21)
def mX7_deepBy : MT := (yX7_deepBy, cX7_deepBy, 5, some .int, 2, 45)
def mX7_tree : MT := (yX7_tree, cX7_tree, 7, some .int, 3, 69)
def mX7_said : MT := (yX7_said, cX7_said, 16, some .int, 5, 115)
def mX7_image : MT := (yX7_image, cX7_image, 2, some .int, 1, 24)
def mX7_restore : MT := (yX7_restore, cX7_restore, 2, some .int, 1, 24)
def mX7_kindAt : MT := (yX7_kindAt, cX7_kindAt, 2, some .int, 0, 0)
def mX7_kind : MT := (yX7_kind, cX7_kind, 2, some .int, 2, 43)
def mX7_parentOf : MT := (yX7_parentOf, cX7_parentOf, 1, some .int, 0, 0)
def mX7_as : MT := (yX7_as, cX7_as, 5, some .int, 2, 43)
def mX7_begins : MT := (yX7_begins, cX7_begins, 2, none, 0, 0)
def mX7_markPlain : MT := (yX7_markPlain, cX7_markPlain, 2, some .int, 1, 21)
def mX7_markByKind : MT := (yX7_markByKind, cX7_markByKind, 3, some .int, 2, 42)
def mX7_sizeLying : MT := (yX7_sizeLying, cX7_sizeLying, 2, some .int, 4, 93)
def mX7_sizeOf : MT := (yX7_sizeOf, cX7_sizeOf, 4, some .int, 5, 114)
def mX7_markOf : MT := (yX7_markOf, cX7_markOf, 2, some .int, 6, 137)
def mX7_ask : MT := (yX7_ask, cX7_ask, 3, some .int, 7, 158)
def mX7_trace : MT := (yX7_trace, cX7_trace, 2, some .int, 1, 22)
def mX7_count : MT := (yX7_count, cX7_count, 5, some .int, 0, 0)
def mX7_status : MT := (yX7_status, cX7_status, 1, some .int, 0, 0)
def fX0_forget (g : Mem) : Option (Int32 × Mem) :=
  pf g 48 7 (0 : Int32) fun g1 => (some (0, g1))
def fX0_keep (a1 : Int32) (g : Mem) : Option (Int32 × Mem) :=
  as_ g 49 24 (g 48 6) a1 fun g1 => (al g1 13 4 a1 fun v2 => (as_ g1 50 24 (g1 48 6) v2 fun g3 => (al g3 15 4 a1 fun v4 => (as_ g3 51 24 (g3 48 6) v4 fun g5 => (al g5 16 4 a1 fun v6 => (as_ g5 52 24 (g5 48 6) v6 fun g7 => (as_ g7 53 24 (g7 48 6) (g7 7 15) fun g8 => (as_ g8 54 24 (g8 48 6) (g8 7 16) fun g9 => (if (24 : Int32) ≤ ((g9 48 6) + (1 : Int32)) then (pf g9 48 6 (0 : Int32) fun g10 => (pf g10 48 7 (mn ((g10 48 7) + (1 : Int32)) (24 : Int32)) fun g11 => (some (0, g11)))) else (pf g9 48 6 ((g9 48 6) + (1 : Int32)) fun g12 => (pf g12 48 7 (mn ((g12 48 7) + (1 : Int32)) (24 : Int32)) fun g13 => (some (0, g13)))))))))))))
def fX0_takeBack (g : Mem) : Option (Int32 × Mem) :=
  if (g 48 6) ≤ 0 then (pf g 48 6 (23 : Int32) fun g1 => (pf g1 48 7 ((g1 48 7) - (1 : Int32)) fun g2 => (al g2 49 24 (g2 48 6) fun v3 => (al g2 50 24 (g2 48 6) fun v4 => (as_ g2 13 4 v3 v4 fun g5 => (as_ g5 14 4 v3 (0 : Int32) fun g6 => (al g6 51 24 (g6 48 6) fun v7 => (as_ g6 15 4 v3 v7 fun g8 => (al g8 52 24 (g8 48 6) fun v9 => (as_ g8 16 4 v3 v9 fun g10 => (al g10 53 24 (g10 48 6) fun v11 => (pf g10 7 15 v11 fun g12 => (al g12 54 24 (g12 48 6) fun v13 => (pf g12 7 16 v13 fun g14 => (some (0, g14)))))))))))))))) else (pf g 48 6 ((g 48 6) - (1 : Int32)) fun g15 => (pf g15 48 7 ((g15 48 7) - (1 : Int32)) fun g16 => (al g16 49 24 (g16 48 6) fun v17 => (al g16 50 24 (g16 48 6) fun v18 => (as_ g16 13 4 v17 v18 fun g19 => (as_ g19 14 4 v17 (0 : Int32) fun g20 => (al g20 51 24 (g20 48 6) fun v21 => (as_ g20 15 4 v17 v21 fun g22 => (al g22 52 24 (g22 48 6) fun v23 => (as_ g22 16 4 v17 v23 fun g24 => (al g24 53 24 (g24 48 6) fun v25 => (pf g24 7 15 v25 fun g26 => (al g26 54 24 (g26 48 6) fun v27 => (pf g26 7 16 v27 fun g28 => (some (0, g28))))))))))))))))
def fX1_left (a0 : Int32) (g : Mem) : Option (Int32 × Mem) :=
  if a0 < 0 then (some ((-1000000 : Int32), g)) else (if (g 58 1) ≤ a0 then (some ((-1000000 : Int32), g)) else (al g 59 16 a0 fun v1 => (some (v1, g))))
def fX2_isOfKind (a0 : Int32) (a1 : Int32) (g : Mem) : Option (Int32 × Mem) :=
  if a1 = (0 : Int32) then (some ((1 : Int32), g)) else (if a1 = (1 : Int32) then (if a0 = (1 : Int32) then (some ((1 : Int32), g)) else (if a0 = (2 : Int32) then (some ((1 : Int32), g)) else (if a0 = (3 : Int32) then (some ((1 : Int32), g)) else (some ((0 : Int32), g))))) else (if a1 = (2 : Int32) then (if a0 = a1 then (some ((1 : Int32), g)) else (some ((0 : Int32), g))) else (if a1 = (3 : Int32) then (if a0 = a1 then (some ((1 : Int32), g)) else (some ((0 : Int32), g))) else (if a1 = (4 : Int32) then (if a0 = (4 : Int32) then (some ((1 : Int32), g)) else (if a0 = (5 : Int32) then (some ((1 : Int32), g)) else (some ((0 : Int32), g)))) else (if a0 = a1 then (some ((1 : Int32), g)) else (some ((0 : Int32), g)))))))
def fX1_leave (a0 : Int32) (g : Mem) : Option (Int32 × Mem) :=
  if (16 : Int32) ≤ (g 58 1) then (some (0, g)) else (as_ g 59 16 (g 58 1) a0 fun g1 => (pf g1 58 1 ((g1 58 1) + (1 : Int32)) fun g2 => (some (0, g2))))
def fJ6_bitCount_0f7a4 (a0 : Int32) (g : Mem) : Option (Int32 × Mem) :=
  lt ((a0 - ((ushr a0 (1 : Int32)) &&& (1431655765 : Int32)))) fun x1 => (lt (((x1 &&& (858993459 : Int32)) + ((ushr x1 (2 : Int32)) &&& (858993459 : Int32)))) fun x2 => (lt (((x2 + (ushr x2 (4 : Int32))) &&& (252645135 : Int32))) fun x3 => (lt ((x3 + (ushr x3 (8 : Int32)))) fun x4 => (lt ((x4 + (ushr x4 (16 : Int32)))) fun x5 => (some ((x5 &&& (63 : Int32)), g))))))
def fX1_sizeOfAll (a1 : Int32) (g : Mem) : Option (Int32 × Mem) :=
  cl (fX1_leave (10 : Int32) g) fun r1 g2 => (al g2 12 6 a1 fun v3 => (cl (fJ6_bitCount_0f7a4 v3 g2) fun r4 g5 => (some (r4, g5))))
def fX1_markOfAll (a0 : Int32) (g : Mem) : Option (Int32 × Mem) :=
  cl (fX1_leave (20 : Int32) g) fun r1 g2 => (some (a0, g2))
def fX1_markOfPlain (a1 : Int32) (g : Mem) : Option (Int32 × Mem) :=
  al g 9 6 a1 fun v1 => (if v1 = (2 : Int32) then (al g 9 6 a1 fun v2 => (if v2 = (3 : Int32) then (cl (fX1_leave (24 : Int32) g) fun r3 g4 => (cl (fX1_leave (22 : Int32) g4) fun r5 g6 => (cl (fX1_leave (21 : Int32) g6) fun r7 g8 => (cl (fX1_markOfAll a1 g8) fun r9 g10 => (al g10 10 6 a1 fun v11 => (lt ((r9 + v11)) fun x12 => (some (((2 : Int32) * x12), g10)))))))) else (cl (fX1_leave (24 : Int32) g) fun r13 g14 => (cl (fX1_leave (21 : Int32) g14) fun r15 g16 => (cl (fX1_markOfAll a1 g16) fun r17 g18 => (al g18 10 6 a1 fun v19 => (lt ((r17 + v19)) fun x20 => (some (((2 : Int32) * x20), g18))))))))) else (al g 9 6 a1 fun v21 => (if v21 = (3 : Int32) then (cl (fX1_leave (22 : Int32) g) fun r22 g23 => (cl (fX1_leave (21 : Int32) g23) fun r24 g25 => (cl (fX1_markOfAll a1 g25) fun r26 g27 => (al g27 10 6 a1 fun v28 => (lt ((r26 + v28)) fun x29 => (some ((x29 - (1000 : Int32)), g27))))))) else (cl (fX1_leave (21 : Int32) g) fun r30 g31 => (cl (fX1_markOfAll a1 g31) fun r32 g33 => (al g33 10 6 a1 fun v34 => (lt ((r32 + v34)) fun x35 => (some (x35, g33)))))))))
def fX1_sizeOfPlain (a1 : Int32) (g : Mem) : Option (Int32 × Mem) :=
  al g 9 6 a1 fun v1 => (if v1 = (2 : Int32) then (cl (fX1_leave (12 : Int32) g) fun r2 g3 => (cl (fX1_leave (11 : Int32) g3) fun r4 g5 => (cl (fX1_sizeOfAll a1 g5) fun r6 g7 => (cl (fX1_markOfPlain a1 g7) fun r8 g9 => (lt ((r6 + r8)) fun x10 => (some ((-x10), g9))))))) else (cl (fX1_leave (11 : Int32) g) fun r11 g12 => (cl (fX1_sizeOfAll a1 g12) fun r13 g14 => (cl (fX1_markOfPlain a1 g14) fun r15 g16 => (lt ((r13 + r15)) fun x17 => (some (x17, g16)))))))
def fX1_sizeOfLying (a1 : Int32) (g : Mem) : Option (Int32 × Mem) :=
  al g 9 6 a1 fun v1 => (if v1 = (5 : Int32) then (cl (fX1_leave (14 : Int32) g) fun r2 g3 => (cl (fX1_leave (13 : Int32) g3) fun r4 g5 => (cl (fX1_sizeOfAll a1 g5) fun r6 g7 => (lt ((r6 - (100 : Int32))) fun x8 => (some (((2 : Int32) * x8), g7)))))) else (cl (fX1_leave (13 : Int32) g) fun r9 g10 => (cl (fX1_sizeOfAll a1 g10) fun r11 g12 => (lt ((r11 - (100 : Int32))) fun x13 => (some (x13, g12))))))
def fX1_markOfLying (a1 : Int32) (g : Mem) : Option (Int32 × Mem) :=
  cl (fX1_leave (23 : Int32) g) fun r1 g2 => (cl (fX1_markOfAll a1 g2) fun r3 g4 => (cl (fX1_sizeOfLying a1 g4) fun r5 g6 => (some ((r3 - r5), g6))))
def fX1_begin (a1 : Int32) (a2 : Int32) (g : Mem) : Option (Int32 × Mem) :=
  pf g 58 1 (0 : Int32) fun g1 => (al g1 9 6 a1 fun v2 => (cl (fX2_isOfKind v2 (1 : Int32) g1) fun r3 g4 => (if a2 = 0 then (if r3 = 0 then (cl (fX1_sizeOfLying a1 g4) fun r5 g6 => (some (r5, g6))) else (cl (fX1_sizeOfPlain a1 g4) fun r7 g8 => (some (r7, g8)))) else (if r3 = 0 then (cl (fX1_markOfLying a1 g4) fun r9 g10 => (some (r9, g10))) else (cl (fX1_markOfPlain a1 g4) fun r11 g12 => (some (r11, g12)))))))
def fX2_sortOf (a0 : Int32) (g : Mem) : Option (Int32 × Mem) :=
  if a0 = (100 : Int32) then (some ((2 : Int32), g)) else (if a0 = (103 : Int32) then (some ((3 : Int32), g)) else (if a0 = (108 : Int32) then (some ((4 : Int32), g)) else (if a0 = (112 : Int32) then (some ((1 : Int32), g)) else (if a0 = (117 : Int32) then (some ((5 : Int32), g)) else (some ((0 : Int32), g))))))
def fX2_isSort (a0 : Int32) (g : Mem) : Option (Int32 × Mem) :=
  if a0 ≤ 0 then (some ((0 : Int32), g)) else (if (6 : Int32) ≤ a0 then (some ((0 : Int32), g)) else (some ((1 : Int32), g)))
def fX2_fits (a0 : Int32) (a1 : Int32) (a2 : Int32) (a3 : Int32) (g : Mem) : Option (Int32 × Mem) :=
  if (a3 &&& a2) = 0 then (if (a3 &&& a1) = a1 then (if a0 = (2 : Int32) then (some ((1 : Int32), g)) else (if a0 = (3 : Int32) then (cl (fJ6_bitCount_0f7a4 (a1 &&& (a3 ^^^ (-1 : Int32))) g) fun r3 g4 => (if (1 : Int32) < r3 then (some ((0 : Int32), g4)) else (some ((1 : Int32), g4)))) else (if a0 = (4 : Int32) then (some ((0 : Int32), g)) else (if a0 = (5 : Int32) then (some ((0 : Int32), g)) else (some ((1 : Int32), g)))))) else (if a0 = (2 : Int32) then (if (a3 &&& a2) = a2 then (if (a3 &&& a1) = 0 then (some ((1 : Int32), g)) else (some ((0 : Int32), g))) else (some ((0 : Int32), g))) else (if a0 = (3 : Int32) then (cl (fJ6_bitCount_0f7a4 (a1 &&& (a3 ^^^ (-1 : Int32))) g) fun r9 g10 => (if (1 : Int32) < r9 then (some ((0 : Int32), g10)) else (some ((1 : Int32), g10)))) else (if a0 = (4 : Int32) then (some ((1 : Int32), g)) else (if a0 = (5 : Int32) then (some ((1 : Int32), g)) else (some ((0 : Int32), g))))))) else (if (a3 &&& a1) = a1 then (if a0 = (2 : Int32) then (if (a3 &&& a2) = a2 then (if (a3 &&& a1) = 0 then (some ((1 : Int32), g)) else (some ((0 : Int32), g))) else (some ((0 : Int32), g))) else (if a0 = (3 : Int32) then (cl (fJ6_bitCount_0f7a4 (a1 &&& (a3 ^^^ (-1 : Int32))) g) fun r15 g16 => (if (1 : Int32) < r15 then (some ((0 : Int32), g16)) else (some ((0 : Int32), g16)))) else (if a0 = (4 : Int32) then (some ((1 : Int32), g)) else (if a0 = (5 : Int32) then (some ((0 : Int32), g)) else (some ((0 : Int32), g)))))) else (if a0 = (2 : Int32) then (if (a3 &&& a2) = a2 then (if (a3 &&& a1) = 0 then (some ((1 : Int32), g)) else (some ((0 : Int32), g))) else (some ((0 : Int32), g))) else (if a0 = (3 : Int32) then (cl (fJ6_bitCount_0f7a4 (a1 &&& (a3 ^^^ (-1 : Int32))) g) fun r21 g22 => (if (1 : Int32) < r21 then (some ((0 : Int32), g22)) else (some ((0 : Int32), g22)))) else (if a0 = (4 : Int32) then (some ((1 : Int32), g)) else (if a0 = (5 : Int32) then (some ((0 : Int32), g)) else (some ((0 : Int32), g)))))))
def fX2_least (a0 : Int32) (g : Mem) : Option (Int32 × Mem) :=
  lt ((a0 &&& (-a0))) fun x1 => (if a0 = 0 then (some ((-1000000 : Int32), g)) else (cl (fJ6_bitCount_0f7a4 (x1 - (1 : Int32)) g) fun r2 g3 => (some (r2, g3))))
def fJ7_fill_53178_L5 (q0 nq0 : Nat) (l1 : Int32) (l3 : Int32) (K : Int32 → Mem → Option (Int32 × Mem)) : Nat → Int32 → Mem → Option (Int32 × Mem)
  | 0, _, _ => none
  | n + 1, l2, g => if l3 ≤ l2 then (K l2 g) else (as_ g q0 nq0 l2 l1 fun g2 => (fJ7_fill_53178_L5 q0 nq0 l1 l3 K n (l2 + (1 : Int32)) g2))
def fJ7_fill_53178 (q0 nq0 : Nat) (a1 : Int32) (g : Mem) : Option (Int32 × Mem) :=
  lt ((Int32.ofNat nq0)) fun x1 => (fJ7_fill_53178_L5 q0 nq0 a1 x1 (fun l3 g4 => some (0, g4)) FU (0 : Int32) g)
def fX2_clear (c : Nat) (g : Mem) : Option (Int32 × Mem) :=
  pz g c 0 (1 : Int32) fun g1 => (pf g1 c 3 (0 : Int32) fun g2 => (pf g2 c 5 (0 : Int32) fun g3 => (pf g3 c 10 (0 : Int32) fun g4 => (pf g4 c 15 (0 : Int32) fun g5 => (pf g5 c 16 (0 : Int32) fun g6 => (cl (fJ7_fill_53178 (c + 7) 4 (0 : Int32) g6) fun r7 g8 => (cl (fJ7_fill_53178 (c + 8) 4 (0 : Int32) g8) fun r9 g10 => (cl (fJ7_fill_53178 (c + 9) 4 (0 : Int32) g10) fun r11 g12 => (some (0, g12))))))))))
def fX2_become (c : Nat) (d : Nat) (g : Mem) : Option (Int32 × Mem) :=
  pz g c 0 (g d 0) fun g1 => (pf g1 c 1 (g1 d 1) fun g2 => (pf g2 c 2 (g2 d 2) fun g3 => (pf g3 c 3 (g3 d 3) fun g4 => (pf g4 c 5 (g4 d 5) fun g5 => (pf g5 c 10 (g5 d 10) fun g6 => (pf g6 c 15 (g6 d 15) fun g7 => (pf g7 c 16 (g7 d 16) fun g8 => (ac g8 (d + 1) 8 (0 : Int32) (c + 1) 8 (0 : Int32) (8 : Int32) fun g9 => (ac g9 (d + 2) 6 (0 : Int32) (c + 2) 6 (0 : Int32) (6 : Int32) fun g10 => (ac g10 (d + 3) 6 (0 : Int32) (c + 3) 6 (0 : Int32) (6 : Int32) fun g11 => (ac g11 (d + 4) 6 (0 : Int32) (c + 4) 6 (0 : Int32) (6 : Int32) fun g12 => (ac g12 (d + 5) 6 (0 : Int32) (c + 5) 6 (0 : Int32) (6 : Int32) fun g13 => (ac g13 (d + 6) 4 (0 : Int32) (c + 6) 4 (0 : Int32) (4 : Int32) fun g14 => (ac g14 (d + 7) 4 (0 : Int32) (c + 7) 4 (0 : Int32) (4 : Int32) fun g15 => (ac g15 (d + 8) 4 (0 : Int32) (c + 8) 4 (0 : Int32) (4 : Int32) fun g16 => (ac g16 (d + 9) 4 (0 : Int32) (c + 9) 4 (0 : Int32) (4 : Int32) fun g17 => (some (0, g17))))))))))))))))))
def fX2_allThings (c : Nat) (g : Mem) : Option (Int32 × Mem) :=
  some ((((1 : Int32) <<< ((g c 3) &&& 31)) - (1 : Int32)), g)
def fX2_thingsFitting_L6 (c : Nat) (l1 : Int32) (l2 : Int32) (l3 : Int32) (K : Int32 → Int32 → Mem → Option (Int32 × Mem)) : Nat → Int32 → Int32 → Mem → Option (Int32 × Mem)
  | 0, _, _, _ => none
  | n + 1, l4, l5, g => if (g c 3) ≤ l5 then (K l4 l5 g) else (al g (c + 1) 8 l5 fun v1 => (cl (fX2_fits l1 l2 l3 v1 g) fun r2 g3 => (if r2 = 0 then (fX2_thingsFitting_L6 c l1 l2 l3 K n l4 (l5 + (1 : Int32)) g3) else (lt ((l4 ||| ((1 : Int32) <<< (l5 &&& 31)))) fun x4 => (fX2_thingsFitting_L6 c l1 l2 l3 K n x4 (l5 + (1 : Int32)) g3)))))
def fX2_thingsFitting (c : Nat) (a0 : Int32) (a1 : Int32) (a2 : Int32) (g : Mem) : Option (Int32 × Mem) :=
  fX2_thingsFitting_L6 c a0 a1 a2 (fun l5 l6 g7 => some (l5, g7)) FU (0 : Int32) (0 : Int32) g
def fX2_answer (c : Nat) (a0 : Int32) (g : Mem) : Option (Int32 × Mem) :=
  al g (c + 5) 6 a0 fun v1 => (cl (fX2_least v1 g) fun r2 g3 => (some (r2, g3)))
def fX2_heSays (c : Nat) (a0 : Int32) (a1 : Int32) (g : Mem) : Option (Int32 × Mem) :=
  al g (c + 5) 6 a1 fun v1 => (al g (c + 6) 4 a0 fun v2 => (cl (fX2_least (v1 &&& v2) g) fun r3 g4 => (some (r3, g4))))
def fX2_sheSays (c : Nat) (a0 : Int32) (g : Mem) : Option (Int32 × Mem) :=
  al g (c + 5) 6 a0 fun v1 => (cl (fX2_least (v1 &&& (g c 1)) g) fun r2 g3 => (some (r2, g3)))
def fX2_isKnown (c : Nat) (a0 : Int32) (a1 : Int32) (g : Mem) : Option (Int32 × Mem) :=
  al g (c + 6) 4 a0 fun v1 => (if ((v1 >>> (a1 &&& 31)) &&& (1 : Int32)) = 0 then (some ((0 : Int32), g)) else (some ((1 : Int32), g)))
def fX2_wasUsed (c : Nat) (a0 : Int32) (g : Mem) : Option (Int32 × Mem) :=
  if (((g c 15) >>> (a0 &&& 31)) &&& (1 : Int32)) = 0 then (some ((0 : Int32), g)) else (some ((1 : Int32), g))
def fX2_comes (c : Nat) (a0 : Int32) (g : Mem) : Option (Int32 × Mem) :=
  al g (c + 7) 4 a0 fun v1 => (if v1 = 0 then (some ((1 : Int32), g)) else (some ((0 : Int32), g)))
def fX2_countOfFate_L4 (c : Nat) (l1 : Int32) (K : Int32 → Int32 → Mem → Option (Int32 × Mem)) : Nat → Int32 → Int32 → Mem → Option (Int32 × Mem)
  | 0, _, _, _ => none
  | n + 1, l2, l3, g => if (g c 10) ≤ l3 then (K l2 l3 g) else (al g (c + 7) 4 l3 fun v1 => (if v1 = l1 then (fX2_countOfFate_L4 c l1 K n (l2 + (1 : Int32)) (l3 + (1 : Int32)) g) else (fX2_countOfFate_L4 c l1 K n l2 (l3 + (1 : Int32)) g)))
def fX2_countOfFate (c : Nat) (a0 : Int32) (g : Mem) : Option (Int32 × Mem) :=
  fX2_countOfFate_L4 c a0 (fun l2 l3 g4 => some (l2, g4)) FU (0 : Int32) (0 : Int32) g
def fX2_isOneWed (c : Nat) (g : Mem) : Option (Int32 × Mem) :=
  cl (fX2_countOfFate c (2 : Int32) g) fun r1 g2 => (if r1 ≤ 0 then (some ((0 : Int32), g2)) else (some ((1 : Int32), g2)))
def fX2_answerHer (c : Nat) (a0 : Int32) (a1 : Int32) (g : Mem) : Option (Int32 × Mem) :=
  cl (fX2_heSays c a0 a1 g) fun r1 g2 => (pf g2 c 15 ((g2 c 15) ||| ((1 : Int32) <<< (a1 &&& 31))) fun g3 => (cl (fX2_answer c a1 g3) fun r4 g5 => (if r1 = r4 then (al g5 (c + 8) 4 a0 fun v6 => (as_ g5 (c + 8) 4 a0 (v6 + (1 : Int32)) fun g7 => (al g7 (c + 8) 4 a0 fun v8 => (if v8 < (3 : Int32) then (some (r1, g7)) else (as_ g7 (c + 7) 4 a0 (2 : Int32) fun g9 => (some (r1, g9))))))) else (as_ g5 (c + 7) 4 a0 (1 : Int32) fun g10 => (some (r1, g10))))))
def fX2_askHer (c : Nat) (a0 : Int32) (a1 : Int32) (g : Mem) : Option (Int32 × Mem) :=
  cl (fX2_sheSays c a1 g) fun r1 g2 => (pf g2 c 15 ((g2 c 15) ||| ((1 : Int32) <<< (a1 &&& 31))) fun g3 => (as_ g3 (c + 9) 4 a0 (1 : Int32) fun g4 => (cl (fX2_answer c a1 g4) fun r5 g6 => (if r1 = r5 then (some (r1, g6)) else (as_ g6 (c + 7) 4 a0 (3 : Int32) fun g7 => (some (r1, g7)))))))
def fX2_cost_L4 (c : Nat) (l1 : Int32) (K : Int32 → Int32 → Mem → Option (Int32 × Mem)) : Nat → Int32 → Int32 → Mem → Option (Int32 × Mem)
  | 0, _, _, _ => none
  | n + 1, l2, l3, g => if (g c 5) ≤ l3 then (K l2 l3 g) else (cl (fX2_wasUsed c l3 g) fun r1 g2 => (if r1 = 0 then (cl (fX2_answer c l3 g2) fun r3 g4 => (if r3 = l1 then (lt ((l2 + (g4 c 2))) fun x5 => (fX2_cost_L4 c l1 K n x5 (l3 + (1 : Int32)) g4)) else (fX2_cost_L4 c l1 K n l2 (l3 + (1 : Int32)) g4))) else (fX2_cost_L4 c l1 K n l2 (l3 + (1 : Int32)) g2)))
def fX2_cost (c : Nat) (a0 : Int32) (g : Mem) : Option (Int32 × Mem) :=
  fX2_cost_L4 c a0 (fun l6 l7 g8 => some (l6, g8)) FU (0 : Int32) (0 : Int32) g
def fX2_sell (c : Nat) (a0 : Int32) (a1 : Int32) (g : Mem) : Option (Int32 × Mem) :=
  cl (fX2_cost c a1 g) fun r1 g2 => (al g2 (c + 6) 4 a0 fun v3 => (as_ g2 (c + 6) 4 a0 (v3 ||| ((1 : Int32) <<< (a1 &&& 31))) fun g4 => (pf g4 c 16 ((g4 c 16) + r1) fun g5 => (some (r1, g5)))))
def fX2_costOfAll_L4 (c : Nat) (l1 : Int32) (K : Int32 → Int32 → Mem → Option (Int32 × Mem)) : Nat → Int32 → Int32 → Mem → Option (Int32 × Mem)
  | 0, _, _, _ => none
  | n + 1, l2, l3, g => if (g c 3) ≤ l3 then (K l2 l3 g) else (if ((l1 >>> (l3 &&& 31)) &&& (1 : Int32)) = 0 then (fX2_costOfAll_L4 c l1 K n l2 (l3 + (1 : Int32)) g) else (cl (fX2_cost c l3 g) fun r1 g2 => (lt ((l2 + r1)) fun x3 => (fX2_costOfAll_L4 c l1 K n x3 (l3 + (1 : Int32)) g2))))
def fX2_costOfAll (c : Nat) (a0 : Int32) (g : Mem) : Option (Int32 × Mem) :=
  fX2_costOfAll_L4 c a0 (fun l4 l5 g6 => some (l4, g6)) FU (0 : Int32) (0 : Int32) g
def fX3_onlyThing (a1 : Int32) (a2 : Int32) (g : Mem) : Option (Int32 × Mem) :=
  lt ((a2 >>> ((5 : Int32) &&& 31))) fun x1 => (lt ((a2 &&& (31 : Int32))) fun x2 => (if (x1 &&& x2) = 0 then (cl (fX2_thingsFitting 7 a1 x1 x2 g) fun r3 g4 => (cl (fJ6_bitCount_0f7a4 r3 g4) fun r5 g6 => (if r5 = (1 : Int32) then (cl (fX2_least r3 g6) fun r7 g8 => (some (r7, g8))) else (some ((-1000000 : Int32), g6))))) else (some ((-1000000 : Int32), g))))
def fX3_riddleAgainst_L10 (l2 : Int32) (l3 : Int32) (l4 : Int32) (K : Int32 → Int32 → Int32 → Mem → Option (Int32 × Mem)) : Nat → Int32 → Int32 → Int32 → Mem → Option (Int32 × Mem)
  | 0, _, _, _, _ => none
  | n + 1, l5, l6, l7, g => if (1024 : Int32) ≤ l7 then (K l5 l6 l7 g) else (cl (fX3_onlyThing l3 l7 g) fun r1 g2 => (if r1 = (-1000000 : Int32) then (fX3_riddleAgainst_L10 l2 l3 l4 K n l5 l6 (l7 + (1 : Int32)) g2) else (cl (fX2_isKnown 7 l2 r1 g2) fun r3 g4 => (if r3 = 0 then (if l6 = 0 then (fX3_riddleAgainst_L10 l2 l3 l4 K n l7 (l6 + (1 : Int32)) (l7 + (1 : Int32)) g4) else (fX3_riddleAgainst_L10 l2 l3 l4 K n l5 (l6 + (1 : Int32)) (l7 + (1 : Int32)) g4)) else (fX3_riddleAgainst_L10 l2 l3 l4 K n l5 l6 (l7 + (1 : Int32)) g4)))))
def fX3_riddleAgainst (a1 : Int32) (a2 : Int32) (a3 : Int32) (g : Mem) : Option (Int32 × Mem) :=
  fX3_riddleAgainst_L10 a1 a2 a3 (fun l5 l6 l7 g8 => if a3 = 0 then (some (l5, g8)) else (some (l6, g8))) FU (-1000000 : Int32) (0 : Int32) (0 : Int32) g
def fX3_comingWithout_L4 (l1 : Int32) (K : Int32 → Int32 → Mem → Option (Int32 × Mem)) : Nat → Int32 → Int32 → Mem → Option (Int32 × Mem)
  | 0, _, _, _ => none
  | n + 1, l2, l3, g => if (g 7 10) ≤ l3 then (K l2 l3 g) else (cl (fX2_comes 7 l3 g) fun r1 g2 => (if r1 = 0 then (fX3_comingWithout_L4 l1 K n l2 (l3 + (1 : Int32)) g2) else (cl (fX2_isKnown 7 l3 l1 g2) fun r3 g4 => (if r3 = 0 then (fX3_comingWithout_L4 l1 K n (l2 + (1 : Int32)) (l3 + (1 : Int32)) g4) else (fX3_comingWithout_L4 l1 K n l2 (l3 + (1 : Int32)) g4)))))
def fX3_comingWithout (a1 : Int32) (g : Mem) : Option (Int32 × Mem) :=
  fX3_comingWithout_L4 a1 (fun l5 l6 g7 => some (l5, g7)) FU (0 : Int32) (0 : Int32) g
def fX3_hardest_L11 (l2 : Int32) (l3 : Int32) (K : Int32 → Int32 → Int32 → Mem → Option (Int32 × Mem)) : Nat → Int32 → Int32 → Int32 → Mem → Option (Int32 × Mem)
  | 0, _, _, _, _ => none
  | n + 1, l4, l5, l6, g => if (1024 : Int32) ≤ l6 then (K l4 l5 l6 g) else (cl (fX3_onlyThing l2 l6 g) fun r1 g2 => (if r1 = (-1000000 : Int32) then (if (-1000000 : Int32) ≤ l5 then (fX3_hardest_L11 l2 l3 K n l4 l5 (l6 + (1 : Int32)) g2) else (fX3_hardest_L11 l2 l3 K n l6 (-1000000 : Int32) (l6 + (1 : Int32)) g2)) else (cl (fX3_comingWithout r1 g2) fun r3 g4 => (if r3 ≤ l5 then (fX3_hardest_L11 l2 l3 K n l4 l5 (l6 + (1 : Int32)) g4) else (fX3_hardest_L11 l2 l3 K n l6 r3 (l6 + (1 : Int32)) g4)))))
def fX3_hardest (a1 : Int32) (a2 : Int32) (g : Mem) : Option (Int32 × Mem) :=
  fX3_hardest_L11 a1 a2 (fun l5 l6 l7 g8 => if a2 = 0 then (some (l5, g8)) else (some (l6, g8))) FU (-1000000 : Int32) (-1000000 : Int32) (0 : Int32) g
def fX3_rowsOfUnlike_L4 (l0 : Int32) (l1 : Int32) (K : Int32 → Int32 → Mem → Option (Int32 × Mem)) : Nat → Int32 → Int32 → Mem → Option (Int32 × Mem)
  | 0, _, _, _ => none
  | n + 1, l2, l3, g => if l1 ≤ l3 then (K l2 l3 g) else (lt ((l2 * (mx (l0 - l3) (0 : Int32)))) fun x1 => (fX3_rowsOfUnlike_L4 l0 l1 K n x1 (l3 + (1 : Int32)) g))
def fX3_rowsOfUnlike (a0 : Int32) (a1 : Int32) (g : Mem) : Option (Int32 × Mem) :=
  fX3_rowsOfUnlike_L4 a0 a1 (fun l2 l3 g4 => some (l2, g4)) FU (1 : Int32) (0 : Int32) g
def fX3_likelihood_L9 (l2 : Int32) (l3 : Int32) (K : Int32 → Int32 → Int32 → Mem → Option (Int32 × Mem)) : Nat → Int32 → Int32 → Int32 → Mem → Option (Int32 × Mem)
  | 0, _, _, _, _ => none
  | n + 1, l4, l5, l6, g => if (g 7 5) ≤ l6 then (K l4 l5 l6 g) else (cl (fX2_wasUsed 7 l6 g) fun r1 g2 => (if r1 = 0 then (cl (fX2_heSays 7 l2 l6 g2) fun r3 g4 => (cl (fX2_answer 7 l6 g4) fun r5 g6 => (if r3 = r5 then (lt ((l5 + (1 : Int32))) fun x7 => (fX3_likelihood_L9 l2 l3 K n (l4 + (1 : Int32)) x7 (l6 + (1 : Int32)) g6)) else (lt ((l5 + (0 : Int32))) fun x8 => (fX3_likelihood_L9 l2 l3 K n (l4 + (1 : Int32)) x8 (l6 + (1 : Int32)) g6))))) else (fX3_likelihood_L9 l2 l3 K n l4 l5 (l6 + (1 : Int32)) g2)))
def fX3_likelihood_L104 (l2 : Int32) (l3 : Int32) (l4 : Int32) (l5 : Int32) (l6 : Int32) (K : Int32 → Int32 → Int32 → Mem → Option (Int32 × Mem)) : Nat → Int32 → Int32 → Int32 → Mem → Option (Int32 × Mem)
  | 0, _, _, _, _ => none
  | n + 1, l7, l8, l9, g => if l9 ≤ (1 : Int32) then (K l7 l8 l9 g) else (nz l9 (if (irm l7 l9) = 0 then (nz l9 (if (irm l8 l9) = 0 then (nz l9 (lt ((l7 / l9)) fun x19 => (nz l9 (lt ((l8 / l9)) fun x20 => (fX3_likelihood_L104 l2 l3 l4 l5 l6 K n x19 x20 (l9 + (-1 : Int32)) g))))) else (fX3_likelihood_L104 l2 l3 l4 l5 l6 K n l7 l8 (l9 + (-1 : Int32)) g))) else (fX3_likelihood_L104 l2 l3 l4 l5 l6 K n l7 l8 (l9 + (-1 : Int32)) g)))
def fX3_likelihood (a1 : Int32) (a2 : Int32) (g : Mem) : Option (Int32 × Mem) :=
  fX3_likelihood_L9 a1 a2 (fun l9 l10 l11 g12 => al g12 15 4 a1 fun v13 => (lt (((3 : Int32) - v13)) fun x14 => (if x14 ≤ l9 then (cl (fX3_rowsOfUnlike l10 x14 g12) fun r15 g16 => (cl (fX3_rowsOfUnlike l9 x14 g16) fun r17 g18 => (fX3_likelihood_L104 a1 a2 l9 l10 x14 (fun l21 l22 l23 g24 => if a2 = 0 then (some (l21, g24)) else (some (l22, g24))) FU r15 r17 r17 g18))) else (some ((-1000000 : Int32), g12))))) FU (0 : Int32) (0 : Int32) (0 : Int32) g
def fX3_wanted_L5 (l2 : Int32) (K : Int32 → Int32 → Mem → Option (Int32 × Mem)) : Nat → Int32 → Int32 → Mem → Option (Int32 × Mem)
  | 0, _, _, _ => none
  | n + 1, l3, l4, g => if (g 7 5) ≤ l4 then (K l3 l4 g) else (cl (fX2_answer 7 l4 g) fun r1 g2 => (cl (fX2_wasUsed 7 l4 g2) fun r3 g4 => (if r3 = 0 then (if r1 = (-1000000 : Int32) then (fX3_wanted_L5 l2 K n l3 (l4 + (1 : Int32)) g4) else (lt ((l3 ||| ((1 : Int32) <<< (r1 &&& 31)))) fun x5 => (fX3_wanted_L5 l2 K n x5 (l4 + (1 : Int32)) g4))) else (fX3_wanted_L5 l2 K n l3 (l4 + (1 : Int32)) g4))))
def fX3_wanted (a1 : Int32) (g : Mem) : Option (Int32 × Mem) :=
  fX3_wanted_L5 a1 (fun l6 l7 g8 => al g8 13 4 a1 fun v9 => (some ((l6 &&& (v9 ^^^ (-1 : Int32))), g8))) FU (0 : Int32) (0 : Int32) g
def fX3_beating_L4 (K : Int32 → Int32 → Mem → Option (Int32 × Mem)) : Nat → Int32 → Int32 → Mem → Option (Int32 × Mem)
  | 0, _, _, _ => none
  | n + 1, l2, l3, g => if (g 7 5) ≤ l3 then (K l2 l3 g) else (cl (fX2_wasUsed 7 l3 g) fun r1 g2 => (if r1 = 0 then (cl (fX2_sheSays 7 l3 g2) fun r3 g4 => (cl (fX2_answer 7 l3 g4) fun r5 g6 => (if r3 = r5 then (fX3_beating_L4 K n l2 (l3 + (1 : Int32)) g6) else (lt ((l2 ||| ((1 : Int32) <<< (l3 &&& 31)))) fun x7 => (fX3_beating_L4 K n x7 (l3 + (1 : Int32)) g6))))) else (fX3_beating_L4 K n l2 (l3 + (1 : Int32)) g2)))
def fX3_beating (g : Mem) : Option (Int32 × Mem) :=
  fX3_beating_L4 (fun l8 l9 g10 => some (l8, g10)) FU (0 : Int32) (0 : Int32) g
def fX3_areTwoAlike_L4 (l1 : Int32) (K : Int32 → Int32 → Mem → Option (Int32 × Mem)) : Nat → Int32 → Int32 → Mem → Option (Int32 × Mem)
  | 0, _, _, _ => none
  | n + 1, l2, l3, g => if (g 7 3) ≤ l3 then (K l2 l3 g) else (if ((l1 >>> (l3 &&& 31)) &&& (1 : Int32)) = 0 then (fX3_areTwoAlike_L4 l1 K n l2 (l3 + (1 : Int32)) g) else (al g 8 8 l3 fun v1 => (lt (((1 : Int32) <<< (v1 &&& 31))) fun x2 => (if (l2 &&& x2) = 0 then (lt ((l2 ||| x2)) fun x3 => (fX3_areTwoAlike_L4 l1 K n x3 (l3 + (1 : Int32)) g)) else (some ((1 : Int32), g))))))
def fX3_areTwoAlike (a1 : Int32) (g : Mem) : Option (Int32 × Mem) :=
  fX3_areTwoAlike_L4 a1 (fun l4 l5 g6 => some ((0 : Int32), g6)) FU (0 : Int32) (0 : Int32) g
def fX3_gatherByTraits_L17 (l2 : Int32) (K : Int32 → Mem → Option (Int32 × Mem)) : Nat → Int32 → Mem → Option (Int32 × Mem)
  | 0, _, _ => none
  | n + 1, l3, g => if (g 7 3) ≤ l3 then (K l3 g) else (al g 8 8 l3 fun v3 => (if ((v3 >>> (l2 &&& 31)) &&& (1 : Int32)) = 0 then (fX3_gatherByTraits_L17 l2 K n (l3 + (1 : Int32)) g) else (al g 57 5 l2 fun v4 => (as_ g 57 5 l2 (v4 ||| ((1 : Int32) <<< (l3 &&& 31))) fun g5 => (fX3_gatherByTraits_L17 l2 K n (l3 + (1 : Int32)) g5)))))
def fX3_gatherByTraits_L10 (K : Int32 → Mem → Option (Int32 × Mem)) : Nat → Int32 → Mem → Option (Int32 × Mem)
  | 0, _, _ => none
  | n + 1, l2, g => if (5 : Int32) ≤ l2 then (K l2 g) else (fX3_gatherByTraits_L17 l2 (fun l6 g7 => fX3_gatherByTraits_L10 K n (l2 + (1 : Int32)) g7) FU (0 : Int32) g)
def fX3_gatherByTraits (g : Mem) : Option (Int32 × Mem) :=
  cl (fJ7_fill_53178 57 5 (0 : Int32) g) fun r1 g2 => (fX3_gatherByTraits_L10 (fun l8 g9 => some (0, g9)) FU (0 : Int32) g2)
def fX3_splits (a0 : Int32) (a1 : Int32) (g : Mem) : Option (Int32 × Mem) :=
  al g 57 5 a0 fun v1 => (if (a1 &&& v1) = 0 then (some ((0 : Int32), g)) else (al g 57 5 a0 fun v2 => (if (a1 &&& (v2 ^^^ (-1 : Int32))) = 0 then (some ((0 : Int32), g)) else (some ((1 : Int32), g)))))
def fX3_questionsBy (a0 : Int32) (a1 : Int32) (g : Mem) : Option (Int32 × Mem) :=
  al g 57 5 a0 fun v1 => (al g 56 256 (a1 &&& v1) fun v2 => (al g 57 5 a0 fun v3 => (al g 56 256 (a1 &&& (v3 ^^^ (-1 : Int32))) fun v4 => (some (((1 : Int32) + (mx v2 v4)), g)))))
def fX3_fewestOfAll_L14 (l1 : Int32) (K : Int32 → Int32 → Mem → Option (Int32 × Mem)) : Nat → Int32 → Int32 → Mem → Option (Int32 × Mem)
  | 0, _, _, _ => none
  | n + 1, l2, l3, g => if (5 : Int32) ≤ l3 then (K l2 l3 g) else (cl (fX3_splits l3 l1 g) fun r3 g4 => (if r3 = 0 then (fX3_fewestOfAll_L14 l1 K n l2 (l3 + (1 : Int32)) g4) else (cl (fX3_questionsBy l3 l1 g4) fun r5 g6 => (lt ((mn l2 r5)) fun x7 => (fX3_fewestOfAll_L14 l1 K n x7 (l3 + (1 : Int32)) g6)))))
def fX3_fewestOfAll (a0 : Int32) (g : Mem) : Option (Int32 × Mem) :=
  cl (fJ6_bitCount_0f7a4 a0 g) fun r1 g2 => (if (1 : Int32) < r1 then (fX3_fewestOfAll_L14 a0 (fun l8 l9 g10 => some (l8, g10)) FU (5 : Int32) (0 : Int32) g2) else (some ((0 : Int32), g2)))
def fX3_firstTrait_L2 (l1 : Int32) (K : Int32 → Mem → Option (Int32 × Mem)) : Nat → Int32 → Mem → Option (Int32 × Mem)
  | 0, _, _ => none
  | n + 1, l2, g => if (5 : Int32) ≤ l2 then (K l2 g) else (cl (fX3_splits l2 l1 g) fun r1 g2 => (if r1 = 0 then (fX3_firstTrait_L2 l1 K n (l2 + (1 : Int32)) g2) else (cl (fX3_questionsBy l2 l1 g2) fun r3 g4 => (al g4 56 256 l1 fun v5 => (if r3 = v5 then (some (l2, g4)) else (fX3_firstTrait_L2 l1 K n (l2 + (1 : Int32)) g4))))))
def fX3_firstTrait (a0 : Int32) (g : Mem) : Option (Int32 × Mem) :=
  fX3_firstTrait_L2 a0 (fun l6 g7 => some ((-1000000 : Int32), g7)) FU (0 : Int32) g
def fX3_fewestQuestions_L19 (l2 : Int32) (l3 : Int32) (K : Int32 → Mem → Option (Int32 × Mem)) : Nat → Int32 → Mem → Option (Int32 × Mem)
  | 0, _, _ => none
  | n + 1, l4, g => if l2 < l4 then (K l4 g) else (if (l4 &&& (l2 ^^^ (-1 : Int32))) = 0 then (cl (fX3_fewestOfAll l4 g) fun r5 g6 => (as_ g6 56 256 l4 r5 fun g7 => (fX3_fewestQuestions_L19 l2 l3 K n (l4 + (1 : Int32)) g7))) else (fX3_fewestQuestions_L19 l2 l3 K n (l4 + (1 : Int32)) g))
def fX3_fewestQuestions (a1 : Int32) (a2 : Int32) (g : Mem) : Option (Int32 × Mem) :=
  cl (fX3_areTwoAlike a1 g) fun r1 g2 => (if r1 = 0 then (cl (fX3_gatherByTraits g2) fun r3 g4 => (fX3_fewestQuestions_L19 a1 a2 (fun l8 g9 => if a2 = 0 then (al g9 56 256 a1 fun v10 => (some (v10, g9))) else (cl (fX3_firstTrait a1 g9) fun r11 g12 => (some (r11, g12)))) FU (0 : Int32) g4)) else (some ((-1000000 : Int32), g2)))
def fX3_riddlesSaid_L18 (l1 : Int32) (l2 : Int32) (l3 : Int32) (K : Int32 → Int32 → Mem → Option (Int32 × Mem)) : Nat → Int32 → Int32 → Mem → Option (Int32 × Mem)
  | 0, _, _, _ => none
  | n + 1, l4, l5, g => if (g 7 5) ≤ l5 then (K l4 l5 g) else (cl (fX2_heSays 7 l1 l5 g) fun r1 g2 => (if r1 = l3 then (lt ((l4 ||| ((1 : Int32) <<< (l5 &&& 31)))) fun x3 => (fX3_riddlesSaid_L18 l1 l2 l3 K n x3 (l5 + (1 : Int32)) g2)) else (fX3_riddlesSaid_L18 l1 l2 l3 K n l4 (l5 + (1 : Int32)) g2)))
def fX3_riddlesSaid (a1 : Int32) (a2 : Int32) (g : Mem) : Option (Int32 × Mem) :=
  if a2 = (-1 : Int32) then (fX3_riddlesSaid_L18 a1 a2 (-1000000 : Int32) (fun l4 l5 g6 => some (l4, g6)) FU (0 : Int32) (0 : Int32) g) else (fX3_riddlesSaid_L18 a1 a2 a2 (fun l7 l8 g9 => some (l7, g9)) FU (0 : Int32) (0 : Int32) g)
def fX3_timesBefore_L4 (q0 nq0 : Nat) (l1 : Int32) (K : Int32 → Int32 → Mem → Option (Int32 × Mem)) : Nat → Int32 → Int32 → Mem → Option (Int32 × Mem)
  | 0, _, _, _ => none
  | n + 1, l2, l3, g => if l1 ≤ l3 then (K l2 l3 g) else (al g q0 nq0 l3 fun v1 => (al g q0 nq0 l1 fun v2 => (if v1 = v2 then (fX3_timesBefore_L4 q0 nq0 l1 K n (l2 + (1 : Int32)) (l3 + (1 : Int32)) g) else (fX3_timesBefore_L4 q0 nq0 l1 K n l2 (l3 + (1 : Int32)) g))))
def fX3_timesBefore (q0 nq0 : Nat) (a1 : Int32) (g : Mem) : Option (Int32 × Mem) :=
  fX3_timesBefore_L4 q0 nq0 a1 (fun l3 l4 g5 => some (l3, g5)) FU (0 : Int32) (0 : Int32) g
def fX3_riddlesHeard_L9 (q2 nq2 : Nat) (l2 : Int32) (l4 : Int32) (l5 : Int32) (K : Int32 → Int32 → Int32 → Mem → Option (Int32 × Mem)) : Nat → Int32 → Int32 → Int32 → Mem → Option (Int32 × Mem)
  | 0, _, _, _, _ => none
  | n + 1, l6, l7, l8, g => if l4 ≤ l8 then (K l6 l7 l8 g) else (al g q2 nq2 l8 fun v1 => (cl (fX3_riddlesSaid l2 v1 g) fun r2 g3 => (cl (fJ6_bitCount_0f7a4 r2 g3) fun r4 g5 => (cl (fX3_timesBefore q2 nq2 l8 g5) fun r6 g7 => (lt ((r4 - r6)) fun x8 => (if 0 < x8 then (lt ((l6 * x8)) fun x9 => (if x8 = (1 : Int32) then (lt ((l7 ||| r2)) fun x10 => (fX3_riddlesHeard_L9 q2 nq2 l2 l4 l5 K n x9 x10 (l8 + (1 : Int32)) g7)) else (lt ((l7 ||| (0 : Int32))) fun x11 => (fX3_riddlesHeard_L9 q2 nq2 l2 l4 l5 K n x9 x11 (l8 + (1 : Int32)) g7)))) else (some ((0 : Int32), g7))))))))
def fX3_riddlesHeard (a1 : Int32) (q2 nq2 : Nat) (a3 : Int32) (a4 : Int32) (g : Mem) : Option (Int32 × Mem) :=
  fX3_riddlesHeard_L9 q2 nq2 a1 a3 a4 (fun l12 l13 l14 g15 => if a4 = 0 then (some (l12, g15)) else (some (l13, g15))) FU (1 : Int32) (0 : Int32) (0 : Int32) g
def fX4_isMissing (a0 : Int32) (g : Mem) : Option (Int32 × Mem) :=
  al g 2 8 a0 fun v1 => (if v1 = 0 then (some ((1 : Int32), g)) else (some ((0 : Int32), g)))
def fX4_areAlike (a0 : Int32) (a1 : Int32) (g : Mem) : Option (Int32 × Mem) :=
  al g 2 8 a0 fun v1 => (al g 2 8 a1 fun v2 => (if v1 = v2 then (some ((1 : Int32), g)) else (some ((0 : Int32), g))))
def fX4_hasPlaces (a0 : Int32) (a1 : Int32) (a2 : Int32) (g : Mem) : Option (Int32 × Mem) :=
  if a1 < 0 then (some ((0 : Int32), g)) else (if a2 < 0 then (some ((0 : Int32), g)) else (al g 3 8 a0 fun v1 => (if v1 < a2 then (some ((0 : Int32), g)) else (al g 3 8 a0 fun v2 => (if (v2 - a2) < a1 then (some ((0 : Int32), g)) else (some ((1 : Int32), g)))))))
def fJ7_rangeCheck_23922 (a0 : Int32) (a1 : Int32) (a2 : Int32) (g : Mem) : Option (Int32 × Mem) :=
  if a1 ≤ a2 then (if 0 ≤ a1 then (if a2 ≤ a0 then (some (0, g)) else (none)) else (none)) else (none)
def fJ7_fill_fda19_L10 (q0 nq0 : Nat) (l1 : Int32) (l2 : Int32) (l3 : Int32) (K : Int32 → Mem → Option (Int32 × Mem)) : Nat → Int32 → Mem → Option (Int32 × Mem)
  | 0, _, _ => none
  | n + 1, l4, g => if l2 ≤ l4 then (K l4 g) else (as_ g q0 nq0 l4 l3 fun g3 => (fJ7_fill_fda19_L10 q0 nq0 l1 l2 l3 K n (l4 + (1 : Int32)) g3))
def fJ7_fill_fda19 (q0 nq0 : Nat) (a1 : Int32) (a2 : Int32) (a3 : Int32) (g : Mem) : Option (Int32 × Mem) :=
  cl (fJ7_rangeCheck_23922 (Int32.ofNat nq0) a1 a2 g) fun r1 g2 => (fJ7_fill_fda19_L10 q0 nq0 a1 a2 a3 (fun l4 g5 => some (0, g5)) FU a1 g2)
def fX4_lay (a0 : Int32) (a1 : Int32) (a2 : Int32) (g : Mem) : Option (Int32 × Mem) :=
  as_ g 2 8 a0 ((8 : Int32) <<< (a1 &&& 31)) fun g1 => (as_ g1 3 8 a0 a2 fun g2 => (cl (fJ7_fill_fda19 4 320 (a0 * (40 : Int32)) ((a0 * (40 : Int32)) + (40 : Int32)) (0 : Int32) g2) fun r3 g4 => (some (0, g4))))
def fX4_put (a0 : Int32) (a1 : Int32) (a2 : Int32) (g : Mem) : Option (Int32 × Mem) :=
  al g 2 8 a0 fun v1 => (lt (((32 : Int32) - v1)) fun x2 => (as_ g 4 320 ((a0 * (40 : Int32)) + a1) ((a2 <<< (x2 &&& 31)) >>> (x2 &&& 31)) fun g3 => (al g3 4 320 ((a0 * (40 : Int32)) + a1) fun v4 => (some (v4, g3)))))
def fX4_at (a0 : Int32) (a1 : Int32) (g : Mem) : Option (Int32 × Mem) :=
  al g 4 320 ((a0 * (40 : Int32)) + a1) fun v1 => (some (v1, g))
def fX4_move (a0 : Int32) (a1 : Int32) (a2 : Int32) (a3 : Int32) (a4 : Int32) (g : Mem) : Option (Int32 × Mem) :=
  ac g 4 320 ((a0 * (40 : Int32)) + a1) 4 320 ((a2 * (40 : Int32)) + a3) a4 fun g1 => (some (0, g1))
def fX4_lose (a0 : Int32) (g : Mem) : Option (Int32 × Mem) :=
  as_ g 2 8 a0 (0 : Int32) fun g1 => (al g1 3 8 a0 fun v2 => (some (v2, g1)))
def fX4_present_L4 (K : Int32 → Int32 → Mem → Option (Int32 × Mem)) : Nat → Int32 → Int32 → Mem → Option (Int32 × Mem)
  | 0, _, _, _ => none
  | n + 1, l1, l2, g => if (8 : Int32) ≤ l2 then (K l1 l2 g) else (al g 2 8 l2 fun v1 => (if v1 = 0 then (fX4_present_L4 K n l1 (l2 + (1 : Int32)) g) else (fX4_present_L4 K n (l1 + (1 : Int32)) (l2 + (1 : Int32)) g)))
def fX4_present (g : Mem) : Option (Int32 × Mem) :=
  fX4_present_L4 (fun l2 l3 g4 => some (l2, g4)) FU (0 : Int32) (0 : Int32) g
def fX5_add (a0 : Int32) (g : Mem) : Option (Int32 × Mem) :=
  if (g 5 1) < (120 : Int32) then (as_ g 6 120 (g 5 1) a0 fun g1 => (pf g1 5 1 ((g1 5 1) + (1 : Int32)) fun g2 => (some ((g2 5 1), g2)))) else (some ((-1000003 : Int32), g))
def fX5_clear (g : Mem) : Option (Int32 × Mem) :=
  pf g 5 1 (0 : Int32) fun g1 => (some (0, g1))
def fX5_next (g : Mem) : Option (Int32 × Mem) :=
  if (g 5 1) ≤ (g 5 2) then (some ((-1 : Int32), g)) else (al g 6 120 (g 5 2) fun v1 => (some (v1, g)))
def fX5_faulty (a0 : Int32) (g : Mem) : Option (Int32 × Mem) :=
  pf g 5 3 a0 fun g1 => (some ((0 : Int32), g1))
def fX5_takes (a0 : Int32) (g : Mem) : Option (Int32 × Mem) :=
  cl (fX5_next g) fun r1 g2 => (if r1 = a0 then (pf g2 5 2 ((g2 5 2) + (1 : Int32)) fun g3 => (some ((1 : Int32), g3))) else (cl (fX5_faulty (1 : Int32) g2) fun r4 g5 => (rz r4 g5)))
def fX5_takesNumber_L8 (l1 : Int32) (l2 : Int32) (K : Int32 → Int32 → Mem → Option (Int32 × Mem)) : Nat → Int32 → Int32 → Mem → Option (Int32 × Mem)
  | 0, _, _, _ => none
  | n + 1, l3, l4, g => if (g 5 1) ≤ l3 then (K l3 l4 g) else (al g 6 120 l3 fun v2 => (if v2 < (48 : Int32) then (K l3 l4 g) else (al g 6 120 l3 fun v3 => (if (57 : Int32) < v3 then (K l3 l4 g) else (if (3 : Int32) ≤ (l3 - (g 5 2)) then (fX5_takesNumber_L8 l1 l2 K n (l3 + (1 : Int32)) l4 g) else (al g 6 120 l3 fun v4 => (lt (((((10 : Int32) * l4) + v4) - (48 : Int32))) fun x5 => (fX5_takesNumber_L8 l1 l2 K n (l3 + (1 : Int32)) x5 g))))))))
def fX5_takesNumber (a0 : Int32) (a1 : Int32) (g : Mem) : Option (Int32 × Mem) :=
  lt ((g 5 2)) fun x1 => (fX5_takesNumber_L8 a0 a1 (fun l6 l7 g8 => if l6 = (g8 5 2) then (cl (fX5_faulty (1 : Int32) g8) fun r9 g10 => (rz r9 g10)) else (if (l6 - (g8 5 2)) ≤ (3 : Int32) then (if a0 < l7 then (cl (fX5_faulty (2 : Int32) g8) fun r11 g12 => (rz r11 g12)) else (if (l7 &&& a1) = 0 then (pf g8 5 4 l7 fun g13 => (pf g13 5 2 l6 fun g14 => (some ((1 : Int32), g14)))) else (cl (fX5_faulty (2 : Int32) g8) fun r15 g16 => (rz r15 g16)))) else (cl (fX5_faulty (1 : Int32) g8) fun r17 g18 => (rz r17 g18)))) FU x1 (0 : Int32) g)
def fX5_tellsLaw (g : Mem) : Option (Int32 × Mem) :=
  cl (fX5_takes (107 : Int32) g) fun r1 g2 => (if r1 = 0 then (some ((0 : Int32), g2)) else (cl (fX5_takesNumber (255 : Int32) (0 : Int32) g2) fun r3 g4 => (if r3 = 0 then (some ((0 : Int32), g4)) else (pf g4 17 1 (g4 5 4) fun g5 => (cl (fX5_takes (44 : Int32) g5) fun r6 g7 => (if r6 = 0 then (some ((0 : Int32), g7)) else (cl (fX5_takesNumber (99 : Int32) (0 : Int32) g7) fun r8 g9 => (if r8 = 0 then (some ((0 : Int32), g9)) else (pf g9 17 2 (g9 5 4) fun g10 => (cl (fX5_takes (59 : Int32) g10) fun r11 g12 => (rz r11 g12)))))))))))
def fX5_tellsThings_L0 (K : Mem → Option (Int32 × Mem)) : Nat → Mem → Option (Int32 × Mem)
  | 0, _ => none
  | n + 1, g => cl (fX5_next g) fun r1 g2 => (if r1 = (116 : Int32) then (if (8 : Int32) ≤ (g2 17 3) then (K  g2) else (cl (fX5_takes (116 : Int32) g2) fun r3 g4 => (if r3 = 0 then (some ((0 : Int32), g4)) else (cl (fX5_takesNumber (31 : Int32) (0 : Int32) g4) fun r5 g6 => (if r5 = 0 then (some ((0 : Int32), g6)) else (cl (fX5_takes (59 : Int32) g6) fun r7 g8 => (if r7 = 0 then (some ((0 : Int32), g8)) else (as_ g8 18 8 (g8 17 3) (g8 5 4) fun g9 => (pf g9 17 3 ((g9 17 3) + (1 : Int32)) fun g10 => (fX5_tellsThings_L0 K n  g10)))))))))) else (K  g2))
def fX5_tellsThings (g : Mem) : Option (Int32 × Mem) :=
  fX5_tellsThings_L0 (fun g11 => cl (fX5_next g11) fun r12 g13 => (if r12 = (116 : Int32) then (cl (fX5_faulty (3 : Int32) g13) fun r14 g15 => (if r14 = 0 then (some ((0 : Int32), g15)) else (some ((1 : Int32), g15)))) else (some ((1 : Int32), g13)))) FU  g
def fX5_tellsRiddle (a1 : Int32) (g : Mem) : Option (Int32 × Mem) :=
  cl (fX5_next g) fun r1 g2 => (cl (fX2_sortOf r1 g2) fun r3 g4 => (as_ g4 19 6 a1 r3 fun g5 => (pf g5 5 2 ((g5 5 2) + (1 : Int32)) fun g6 => (cl (fX5_takesNumber (31 : Int32) (0 : Int32) g6) fun r7 g8 => (if r7 = 0 then (some ((0 : Int32), g8)) else (as_ g8 20 6 a1 (g8 5 4) fun g9 => (cl (fX5_takes (44 : Int32) g9) fun r10 g11 => (if r10 = 0 then (some ((0 : Int32), g11)) else (al g11 20 6 a1 fun v12 => (cl (fX5_takesNumber (31 : Int32) v12 g11) fun r13 g14 => (if r13 = 0 then (some ((0 : Int32), g14)) else (as_ g14 21 6 a1 (g14 5 4) fun g15 => (al g15 19 6 a1 fun v16 => (al g15 20 6 a1 fun v17 => (cl (fX2_thingsFitting 17 v16 v17 (g15 5 4) g15) fun r18 g19 => (as_ g19 22 6 a1 r18 fun g20 => (cl (fX5_takes (59 : Int32) g20) fun r21 g22 => (rz r21 g22))))))))))))))))))
def fX5_tellsRiddles_L0 (K : Mem → Option (Int32 × Mem)) : Nat → Mem → Option (Int32 × Mem)
  | 0, _ => none
  | n + 1, g => cl (fX5_next g) fun r1 g2 => (cl (fX2_sortOf r1 g2) fun r3 g4 => (if r3 = 0 then (K  g4) else (if (6 : Int32) ≤ (g4 17 5) then (K  g4) else (cl (fX5_tellsRiddle (g4 17 5) g4) fun r5 g6 => (if r5 = 0 then (some ((0 : Int32), g6)) else (pf g6 17 5 ((g6 17 5) + (1 : Int32)) fun g7 => (fX5_tellsRiddles_L0 K n  g7)))))))
def fX5_tellsRiddles (g : Mem) : Option (Int32 × Mem) :=
  fX5_tellsRiddles_L0 (fun g8 => cl (fX5_next g8) fun r9 g10 => (cl (fX2_sortOf r9 g10) fun r11 g12 => (if r11 = 0 then (some ((1 : Int32), g12)) else (cl (fX5_faulty (3 : Int32) g12) fun r13 g14 => (if r13 = 0 then (some ((0 : Int32), g14)) else (some ((1 : Int32), g14))))))) FU  g
def fX5_tellsSuitors_L0 (K : Mem → Option (Int32 × Mem)) : Nat → Mem → Option (Int32 × Mem)
  | 0, _ => none
  | n + 1, g => cl (fX5_next g) fun r1 g2 => (if r1 = (119 : Int32) then (if (4 : Int32) ≤ (g2 17 10) then (K  g2) else (cl (fX5_takes (119 : Int32) g2) fun r3 g4 => (if r3 = 0 then (some ((0 : Int32), g4)) else (cl (fX2_allThings 17 g4) fun r5 g6 => (cl (fX5_takesNumber r5 (0 : Int32) g6) fun r7 g8 => (if r7 = 0 then (some ((0 : Int32), g8)) else (cl (fX5_takes (59 : Int32) g8) fun r9 g10 => (if r9 = 0 then (some ((0 : Int32), g10)) else (as_ g10 23 4 (g10 17 10) (g10 5 4) fun g11 => (pf g11 17 10 ((g11 17 10) + (1 : Int32)) fun g12 => (fX5_tellsSuitors_L0 K n  g12))))))))))) else (K  g2))
def fX5_tellsSuitors (g : Mem) : Option (Int32 × Mem) :=
  fX5_tellsSuitors_L0 (fun g13 => cl (fX5_next g13) fun r14 g15 => (if r14 = (119 : Int32) then (cl (fX5_faulty (3 : Int32) g15) fun r16 g17 => (if r16 = 0 then (some ((0 : Int32), g17)) else (some ((1 : Int32), g17)))) else (some ((1 : Int32), g15)))) FU  g
def fX5_tells (g : Mem) : Option (Int32 × Mem) :=
  pf g 5 2 (0 : Int32) fun g1 => (cl (fX2_clear 17 g1) fun r2 g3 => (cl (fX5_tellsLaw g3) fun r4 g5 => (if r4 = 0 then (some ((0 : Int32), g5)) else (cl (fX5_tellsThings g5) fun r6 g7 => (if r6 = 0 then (some ((0 : Int32), g7)) else (cl (fX5_tellsRiddles g7) fun r8 g9 => (if r8 = 0 then (some ((0 : Int32), g9)) else (cl (fX5_tellsSuitors g9) fun r10 g11 => (if r10 = 0 then (some ((0 : Int32), g11)) else (cl (fX2_allThings 17 g11) fun r12 g13 => (pf g13 17 1 ((g11 17 1) &&& r12) fun g14 => (cl (fX5_next g14) fun r15 g16 => (if r15 = (-1 : Int32) then (some ((1 : Int32), g16)) else (cl (fX5_faulty (1 : Int32) g16) fun r17 g18 => (if r17 = 0 then (some ((0 : Int32), g18)) else (some ((1 : Int32), g18)))))))))))))))))
def fX6_below (a0 : Int32) (a1 : Int32) (g : Mem) : Option (Int32 × Mem) :=
  if a0 < 0 then (some ((0 : Int32), g)) else (if a1 ≤ a0 then (some ((0 : Int32), g)) else (some ((1 : Int32), g)))
def fX6_found (a0 : Int32) (g : Mem) : Option (Int32 × Mem) :=
  pf g 0 10 a0 fun g1 => (some (((-1000010 : Int32) - a0), g1))
def fX6_clean (a0 : Int32) (g : Mem) : Option (Int32 × Mem) :=
  pf g 0 10 (0 : Int32) fun g1 => (some (a0, g1))
def fX6_row (a0 : Int32) (a1 : Int32) (a2 : Int32) (g : Mem) : Option (Int32 × Mem) :=
  cl (fX6_below a0 (8 : Int32) g) fun r1 g2 => (if r1 = 0 then (some ((-1000001 : Int32), g2)) else (cl (fX6_below a1 (3 : Int32) g2) fun r3 g4 => (if r3 = 0 then (some ((-1000001 : Int32), g4)) else (if a2 ≤ (40 : Int32) then (if 0 ≤ a2 then (cl (fX4_lay a0 a1 a2 g4) fun r5 g6 => (cl (fX6_clean a2 g6) fun r7 g8 => (some (r7, g8)))) else (cl (fX6_found (4 : Int32) g4) fun r9 g10 => (some (r9, g10)))) else (some ((-1000001 : Int32), g4))))))
def fX6_set (a0 : Int32) (a1 : Int32) (a2 : Int32) (g : Mem) : Option (Int32 × Mem) :=
  cl (fX6_below a0 (8 : Int32) g) fun r1 g2 => (if r1 = 0 then (some ((-1000001 : Int32), g2)) else (cl (fX4_isMissing a0 g2) fun r3 g4 => (if r3 = 0 then (cl (fX4_hasPlaces a0 a1 (1 : Int32) g4) fun r5 g6 => (if r5 = 0 then (cl (fX6_found (2 : Int32) g6) fun r7 g8 => (some (r7, g8))) else (cl (fX4_put a0 a1 a2 g6) fun r9 g10 => (cl (fX6_clean r9 g10) fun r11 g12 => (some (r11, g12)))))) else (cl (fX6_found (1 : Int32) g4) fun r13 g14 => (some (r13, g14))))))
def fX6_copy (a0 : Int32) (a1 : Int32) (a2 : Int32) (a3 : Int32) (a4 : Int32) (g : Mem) : Option (Int32 × Mem) :=
  cl (fX6_below a0 (8 : Int32) g) fun r1 g2 => (if r1 = 0 then (some ((-1000001 : Int32), g2)) else (cl (fX6_below a2 (8 : Int32) g2) fun r3 g4 => (if r3 = 0 then (some ((-1000001 : Int32), g4)) else (cl (fX4_isMissing a0 g4) fun r5 g6 => (if r5 = 0 then (cl (fX4_isMissing a2 g6) fun r7 g8 => (if r7 = 0 then (cl (fX4_areAlike a0 a2 g8) fun r9 g10 => (if r9 = 0 then (cl (fX6_found (5 : Int32) g10) fun r11 g12 => (some (r11, g12))) else (cl (fX4_hasPlaces a0 a1 a4 g10) fun r13 g14 => (if r13 = 0 then (cl (fX6_found (2 : Int32) g14) fun r15 g16 => (some (r15, g16))) else (cl (fX4_hasPlaces a2 a3 a4 g14) fun r17 g18 => (if r17 = 0 then (cl (fX6_found (2 : Int32) g18) fun r19 g20 => (some (r19, g20))) else (cl (fX4_move a0 a1 a2 a3 a4 g18) fun r21 g22 => (cl (fX6_clean a4 g22) fun r23 g24 => (some (r23, g24)))))))))) else (cl (fX6_found (1 : Int32) g8) fun r25 g26 => (some (r25, g26))))) else (cl (fX6_found (1 : Int32) g6) fun r27 g28 => (some (r27, g28))))))))
def fX6_drop (a0 : Int32) (g : Mem) : Option (Int32 × Mem) :=
  cl (fX6_below a0 (8 : Int32) g) fun r1 g2 => (if r1 = 0 then (some ((-1000001 : Int32), g2)) else (cl (fX4_isMissing a0 g2) fun r3 g4 => (if r3 = 0 then (cl (fX4_lose a0 g4) fun r5 g6 => (cl (fX6_clean r5 g6) fun r7 g8 => (some (r7, g8)))) else (cl (fX6_found (1 : Int32) g4) fun r9 g10 => (some (r9, g10))))))
def fX6_feed (a0 : Int32) (g : Mem) : Option (Int32 × Mem) :=
  cl (fX6_below a0 (256 : Int32) g) fun r1 g2 => (if r1 = 0 then (some ((-1000001 : Int32), g2)) else (cl (fX5_add a0 g2) fun r3 g4 => (some (r3, g4))))
def fX6_court (g : Mem) : Option (Int32 × Mem) :=
  cl (fX5_tells g) fun r1 g2 => (cl (fX5_clear g2) fun r3 g4 => (if r1 = 0 then (pf g4 0 9 (g4 5 3) fun g5 => (some (((-1000100 : Int32) - (g5 5 2)), g5))) else (cl (fX2_become 7 17 g4) fun r6 g7 => (cl (fX0_forget g7) fun r8 g9 => (some ((g9 7 10), g9))))))
def fX6_fault (g : Mem) : Option (Int32 × Mem) :=
  some ((g 0 9), g)
def fX6_asked (a0 : Int32) (a1 : Int32) (g : Mem) : Option (Int32 × Mem) :=
  cl (fX6_below a0 (g 7 10) g) fun r1 g2 => (if r1 = 0 then (some ((-1000001 : Int32), g2)) else (cl (fX6_below a1 (g2 7 5) g2) fun r3 g4 => (if r3 = 0 then (some ((-1000001 : Int32), g4)) else (cl (fX2_comes 7 a0 g4) fun r5 g6 => (if r5 = 0 then (some ((-1000002 : Int32), g6)) else (cl (fX2_wasUsed 7 a1 g6) fun r7 g8 => (if r7 = 0 then (cl (fX2_isOneWed 7 g8) fun r9 g10 => (if r9 = 0 then (cl (fX0_keep a0 g10) fun r11 g12 => (cl (fX2_answerHer 7 a0 a1 g12) fun r13 g14 => (some (r13, g14)))) else (some ((-1000002 : Int32), g10)))) else (some ((-1000002 : Int32), g8)))))))))
def fX6_inTurn (a0 : Int32) (a1 : Int32) (g : Mem) : Option (Int32 × Mem) :=
  cl (fX6_below a0 (g 7 10) g) fun r1 g2 => (if r1 = 0 then (some ((-1000001 : Int32), g2)) else (cl (fX6_below a1 (g2 7 5) g2) fun r3 g4 => (if r3 = 0 then (some ((-1000001 : Int32), g4)) else (cl (fX2_comes 7 a0 g4) fun r5 g6 => (if r5 = 0 then (some ((-1000002 : Int32), g6)) else (cl (fX2_wasUsed 7 a1 g6) fun r7 g8 => (if r7 = 0 then (al g8 16 4 a0 fun v9 => (if v9 = 0 then (cl (fX2_isOneWed 7 g8) fun r10 g11 => (if r10 = 0 then (cl (fX0_keep a0 g11) fun r12 g13 => (cl (fX2_askHer 7 a0 a1 g13) fun r14 g15 => (some (r14, g15)))) else (some ((-1000002 : Int32), g11)))) else (some ((-1000002 : Int32), g8)))) else (some ((-1000002 : Int32), g8)))))))))
def fX6_buy (a0 : Int32) (a1 : Int32) (g : Mem) : Option (Int32 × Mem) :=
  cl (fX6_below a0 (g 7 10) g) fun r1 g2 => (if r1 = 0 then (some ((-1000001 : Int32), g2)) else (cl (fX6_below a1 (g2 7 3) g2) fun r3 g4 => (if r3 = 0 then (some ((-1000001 : Int32), g4)) else (cl (fX2_comes 7 a0 g4) fun r5 g6 => (if r5 = 0 then (some ((-1000002 : Int32), g6)) else (cl (fX2_isKnown 7 a0 a1 g6) fun r7 g8 => (if r7 = 0 then (cl (fX0_keep a0 g8) fun r9 g10 => (cl (fX2_sell 7 a0 a1 g10) fun r11 g12 => (some (r11, g12)))) else (some ((-1000002 : Int32), g8)))))))))
def fX6_undo (g : Mem) : Option (Int32 × Mem) :=
  if (g 48 7) = 0 then (some ((-1000002 : Int32), g)) else (cl (fX0_takeBack g) fun r1 g2 => (some ((g2 48 7), g2)))
def fX6_thing (a0 : Int32) (g : Mem) : Option (Int32 × Mem) :=
  cl (fX6_below a0 (g 7 3) g) fun r1 g2 => (if r1 = 0 then (some ((-1000001 : Int32), g2)) else (al g2 8 8 a0 fun v3 => (some (v3, g2))))
def fX6_riddle (a0 : Int32) (a1 : Int32) (g : Mem) : Option (Int32 × Mem) :=
  cl (fX6_below a0 (g 7 5) g) fun r1 g2 => (if r1 = 0 then (some ((-1000001 : Int32), g2)) else (if a1 = (0 : Int32) then (al g2 10 6 a0 fun v4 => (some (v4, g2))) else (if a1 = (1 : Int32) then (al g2 11 6 a0 fun v6 => (some (v6, g2))) else (if a1 = (2 : Int32) then (al g2 12 6 a0 fun v8 => (some (v8, g2))) else (if a1 = (3 : Int32) then (cl (fX2_answer 7 a0 g2) fun r10 g11 => (some (r10, g11))) else (if a1 = (4 : Int32) then (cl (fX2_wasUsed 7 a0 g2) fun r13 g14 => (if r13 = 0 then (some ((0 : Int32), g14)) else (some ((1 : Int32), g14)))) else (if a1 = (5 : Int32) then (al g2 12 6 a0 fun v16 => (cl (fJ6_bitCount_0f7a4 v16 g2) fun r17 g18 => (if r17 = (1 : Int32) then (some ((1 : Int32), g18)) else (some ((0 : Int32), g18))))) else (if a1 = (6 : Int32) then (cl (fX2_sheSays 7 a0 g2) fun r20 g21 => (some (r20, g21))) else (some ((-1000001 : Int32), g2))))))))))
def fX6_suitor (a0 : Int32) (a1 : Int32) (g : Mem) : Option (Int32 × Mem) :=
  cl (fX6_below a0 (g 7 10) g) fun r1 g2 => (if r1 = 0 then (some ((-1000001 : Int32), g2)) else (if a1 = (0 : Int32) then (al g2 13 4 a0 fun v4 => (some (v4, g2))) else (if a1 = (1 : Int32) then (al g2 14 4 a0 fun v6 => (some (v6, g2))) else (if a1 = (2 : Int32) then (al g2 15 4 a0 fun v8 => (some (v8, g2))) else (if a1 = (3 : Int32) then (al g2 16 4 a0 fun v10 => (some (v10, g2))) else (some ((-1000001 : Int32), g2)))))))
def fX6_says (a0 : Int32) (a1 : Int32) (g : Mem) : Option (Int32 × Mem) :=
  cl (fX6_below a0 (g 7 10) g) fun r1 g2 => (if r1 = 0 then (some ((-1000001 : Int32), g2)) else (cl (fX6_below a1 (g2 7 5) g2) fun r3 g4 => (if r3 = 0 then (some ((-1000001 : Int32), g4)) else (cl (fX2_heSays 7 a0 a1 g4) fun r5 g6 => (some (r5, g6))))))
def fX6_riddleFor (a0 : Int32) (a1 : Int32) (a2 : Int32) (g : Mem) : Option (Int32 × Mem) :=
  cl (fX6_below a0 (g 7 10) g) fun r1 g2 => (if r1 = 0 then (some ((-1000001 : Int32), g2)) else (cl (fX2_isSort a1 g2) fun r3 g4 => (if r3 = 0 then (some ((-1000001 : Int32), g4)) else (cl (fX6_below a2 (2 : Int32) g4) fun r5 g6 => (if r5 = 0 then (some ((-1000001 : Int32), g6)) else (cl (fX3_riddleAgainst a0 a1 a2 g6) fun r7 g8 => (some (r7, g8))))))))
def fX6_hard (a0 : Int32) (a1 : Int32) (g : Mem) : Option (Int32 × Mem) :=
  if (g 7 0) = 0 then (some ((-1000002 : Int32), g)) else (cl (fX2_isSort a0 g) fun r1 g2 => (if r1 = 0 then (some ((-1000001 : Int32), g2)) else (cl (fX6_below a1 (2 : Int32) g2) fun r3 g4 => (if r3 = 0 then (some ((-1000001 : Int32), g4)) else (cl (fX3_hardest a0 a1 g4) fun r5 g6 => (some (r5, g6)))))))
def fX6_chance (a0 : Int32) (a1 : Int32) (g : Mem) : Option (Int32 × Mem) :=
  cl (fX6_below a0 (g 7 10) g) fun r1 g2 => (if r1 = 0 then (some ((-1000001 : Int32), g2)) else (cl (fX6_below a1 (2 : Int32) g2) fun r3 g4 => (if r3 = 0 then (some ((-1000001 : Int32), g4)) else (cl (fX2_comes 7 a0 g4) fun r5 g6 => (if r5 = 0 then (some ((-1000002 : Int32), g6)) else (cl (fX3_likelihood a0 a1 g6) fun r7 g8 => (some (r7, g8))))))))
def fX6_toBuy (a0 : Int32) (a1 : Int32) (g : Mem) : Option (Int32 × Mem) :=
  cl (fX6_below a0 (g 7 10) g) fun r1 g2 => (if r1 = 0 then (some ((-1000001 : Int32), g2)) else (cl (fX6_below a1 (2 : Int32) g2) fun r3 g4 => (if r3 = 0 then (some ((-1000001 : Int32), g4)) else (cl (fX3_wanted a0 g4) fun r5 g6 => (if a1 = 0 then (some (r5, g6)) else (cl (fX2_costOfAll 7 r5 g6) fun r7 g8 => (some (r7, g8))))))))
def fX6_beats (g : Mem) : Option (Int32 × Mem) :=
  if (g 7 0) = 0 then (some ((-1000002 : Int32), g)) else (cl (fX3_beating g) fun r1 g2 => (some (r1, g2)))
def fX6_tree (a0 : Int32) (a1 : Int32) (g : Mem) : Option (Int32 × Mem) :=
  if (g 7 0) = 0 then (some ((-1000002 : Int32), g)) else (cl (fX6_below a0 ((1 : Int32) <<< ((g 7 3) &&& 31)) g) fun r1 g2 => (if r1 = 0 then (some ((-1000001 : Int32), g2)) else (cl (fX6_below a1 (2 : Int32) g2) fun r3 g4 => (if r3 = 0 then (some ((-1000001 : Int32), g4)) else (cl (fX3_fewestQuestions a0 a1 g4) fun r5 g6 => (some (r5, g6)))))))
def fX6_said_L88 (l1 : Int32) (l2 : Int32) (l3 : Int32) (l4 : Int32) (l5 : Int32) (K : Int32 → Mem → Option (Int32 × Mem)) : Nat → Int32 → Mem → Option (Int32 × Mem)
  | 0, _, _ => none
  | n + 1, l6, g => if l4 ≤ l6 then (K l6 g) else (cl (fX4_at l2 (l3 + l6) g) fun r13 g14 => (as_ g14 60 6 l6 r13 fun g15 => (al g15 60 6 l6 fun v16 => (if v16 = (-1 : Int32) then (fX6_said_L88 l1 l2 l3 l4 l5 K n (l6 + (1 : Int32)) g15) else (al g15 60 6 l6 fun v17 => (cl (fX6_below v17 (g15 7 3) g15) fun r18 g19 => (if r18 = 0 then (some ((-1000001 : Int32), g19)) else (fX6_said_L88 l1 l2 l3 l4 l5 K n (l6 + (1 : Int32)) g19))))))))
def fX6_said (a0 : Int32) (a1 : Int32) (a2 : Int32) (a3 : Int32) (a4 : Int32) (g : Mem) : Option (Int32 × Mem) :=
  cl (fX6_below a0 (g 7 10) g) fun r1 g2 => (if r1 = 0 then (some ((-1000001 : Int32), g2)) else (cl (fX6_below a1 (8 : Int32) g2) fun r3 g4 => (if r3 = 0 then (some ((-1000001 : Int32), g4)) else (if a3 < (1 : Int32) then (some ((-1000001 : Int32), g4)) else (if (6 : Int32) < a3 then (some ((-1000001 : Int32), g4)) else (cl (fX6_below a4 (2 : Int32) g4) fun r5 g6 => (if r5 = 0 then (some ((-1000001 : Int32), g6)) else (cl (fX4_isMissing a1 g6) fun r7 g8 => (if r7 = 0 then (cl (fX4_hasPlaces a1 a2 a3 g8) fun r9 g10 => (if r9 = 0 then (cl (fX6_found (2 : Int32) g10) fun r11 g12 => (some (r11, g12))) else (fX6_said_L88 a0 a1 a2 a3 a4 (fun l20 g21 => cl (fX3_riddlesHeard a0 60 6 a3 a4 g21) fun r22 g23 => (cl (fX6_clean r22 g23) fun r24 g25 => (some (r24, g25)))) FU (0 : Int32) g10))) else (cl (fX6_found (1 : Int32) g8) fun r26 g27 => (some (r26, g27))))))))))))
def fX6_image (a0 : Int32) (g : Mem) : Option (Int32 × Mem) :=
  cl (fX6_below a0 (2 : Int32) g) fun r1 g2 => (if r1 = 0 then (some ((-1000001 : Int32), g2)) else (if (g2 7 0) = 0 then (some ((-1000002 : Int32), g2)) else (r2 a0 (cl (fX2_become 28 7 g2) fun r3 g4 => (some ((1 : Int32), g4))) (cl (fX2_become 38 7 g2) fun r5 g6 => (some ((1 : Int32), g6))))))
def fX6_restore (a0 : Int32) (g : Mem) : Option (Int32 × Mem) :=
  cl (fX6_below a0 (2 : Int32) g) fun r1 g2 => (if r1 = 0 then (some ((-1000001 : Int32), g2)) else (r2 a0 (if (g2 28 0) = 0 then (some ((-1000002 : Int32), g2)) else (r2 a0 (cl (fX2_become 7 28 g2) fun r3 g4 => (cl (fX0_forget g4) fun r5 g6 => (some ((1 : Int32), g6)))) (cl (fX2_become 7 38 g2) fun r7 g8 => (cl (fX0_forget g8) fun r9 g10 => (some ((1 : Int32), g10)))))) (if (g2 38 0) = 0 then (some ((-1000002 : Int32), g2)) else (r2 a0 (cl (fX2_become 7 28 g2) fun r11 g12 => (cl (fX0_forget g12) fun r13 g14 => (some ((1 : Int32), g14)))) (cl (fX2_become 7 38 g2) fun r15 g16 => (cl (fX0_forget g16) fun r17 g18 => (some ((1 : Int32), g18))))))))
def fX6_kind (a0 : Int32) (g : Mem) : Option (Int32 × Mem) :=
  cl (fX6_below a0 (g 7 5) g) fun r1 g2 => (if r1 = 0 then (some ((-1000001 : Int32), g2)) else (al g2 9 6 a0 fun v3 => (some (v3, g2))))
def fX6_as (a0 : Int32) (a1 : Int32) (g : Mem) : Option (Int32 × Mem) :=
  cl (fX6_below a0 (g 7 5) g) fun r1 g2 => (if r1 = 0 then (some ((-1000001 : Int32), g2)) else (cl (fX6_below a1 (6 : Int32) g2) fun r3 g4 => (if r3 = 0 then (some ((-1000001 : Int32), g4)) else (al g4 9 6 a0 fun v5 => (cl (fX2_isOfKind v5 a1 g4) fun r6 g7 => (if r6 = 0 then (cl (fX6_found (3 : Int32) g7) fun r8 g9 => (some (r8, g9))) else (cl (fX6_clean a0 g7) fun r10 g11 => (some (r10, g11)))))))))
def fX6_ask (a0 : Int32) (a1 : Int32) (g : Mem) : Option (Int32 × Mem) :=
  cl (fX6_below a0 (g 7 5) g) fun r1 g2 => (if r1 = 0 then (some ((-1000001 : Int32), g2)) else (cl (fX6_below a1 (2 : Int32) g2) fun r3 g4 => (if r3 = 0 then (some ((-1000001 : Int32), g4)) else (cl (fX1_begin a0 a1 g4) fun r5 g6 => (some (r5, g6))))))
def fX6_trace (a0 : Int32) (g : Mem) : Option (Int32 × Mem) :=
  cl (fX1_left a0 g) fun r1 g2 => (some (r1, g2))
def fX6_count (a0 : Int32) (g : Mem) : Option (Int32 × Mem) :=
  if a0 = (0 : Int32) then (cl (fX4_present g) fun r2 g3 => (some (r2, g3))) else (if a0 = (1 : Int32) then (some ((g 7 3), g)) else (if a0 = (2 : Int32) then (some ((g 7 5), g)) else (if a0 = (3 : Int32) then (some ((g 7 10), g)) else (if a0 = (4 : Int32) then (some ((g 7 15), g)) else (if a0 = (5 : Int32) then (cl (fX2_countOfFate 7 (1 : Int32) g) fun r9 g10 => (some (r9, g10))) else (if a0 = (6 : Int32) then (some ((g 7 16), g)) else (if a0 = (7 : Int32) then (some ((g 7 1), g)) else (if a0 = (8 : Int32) then (some ((g 48 7), g)) else (if a0 = (9 : Int32) then (some ((g 5 1), g)) else (some ((-1000001 : Int32), g)))))))))))
def fX6_status (g : Mem) : Option (Int32 × Mem) :=
  some ((g 0 10), g)
def fX7_in (a0 : Int32) (a1 : Int32) (a2 : Int32) (g : Mem) : Option (Int32 × Mem) :=
  if a0 < a1 then (some ((0 : Int32), g)) else (if a2 < a0 then (some ((0 : Int32), g)) else (some ((1 : Int32), g)))
def fX7_has (a0 : Int32) (a1 : Int32) (g : Mem) : Option (Int32 × Mem) :=
  if ((a0 >>> (a1 &&& 31)) &&& (1 : Int32)) = (1 : Int32) then (some ((1 : Int32), g)) else (some ((0 : Int32), g))
def fX7_bits_L4 (l0 : Int32) (K : Int32 → Int32 → Mem → Option (Int32 × Mem)) : Nat → Int32 → Int32 → Mem → Option (Int32 × Mem)
  | 0, _, _, _ => none
  | n + 1, l1, l2, g => if (8 : Int32) ≤ l2 then (K l1 l2 g) else (lt ((l1 + ((l0 >>> (l2 &&& 31)) &&& (1 : Int32)))) fun x1 => (fX7_bits_L4 l0 K n x1 (l2 + (1 : Int32)) g))
def fX7_bits (a0 : Int32) (g : Mem) : Option (Int32 × Mem) :=
  fX7_bits_L4 a0 (fun l2 l3 g4 => some (l2, g4)) FU (0 : Int32) (0 : Int32) g
def fX7_finds (a0 : Int32) (g : Mem) : Option (Int32 × Mem) :=
  pf g 61 3 a0 fun g1 => (some (((-1000010 : Int32) - a0), g1))
def fX7_done (a0 : Int32) (g : Mem) : Option (Int32 × Mem) :=
  pf g 61 3 (0 : Int32) fun g1 => (some (a0, g1))
def fX7_isRow (a0 : Int32) (g : Mem) : Option (Int32 × Mem) :=
  cl (fX7_in a0 (0 : Int32) (7 : Int32) g) fun r1 g2 => (rz r1 g2)
def fX7_row_L52 (l1 : Int32) (l2 : Int32) (l3 : Int32) (K : Int32 → Mem → Option (Int32 × Mem)) : Nat → Int32 → Mem → Option (Int32 × Mem)
  | 0, _, _ => none
  | n + 1, l4, g => if (40 : Int32) ≤ l4 then (K l4 g) else (as_ g 64 320 (((40 : Int32) * l1) + l4) (0 : Int32) fun g7 => (fX7_row_L52 l1 l2 l3 K n (l4 + (1 : Int32)) g7))
def fX7_row (a0 : Int32) (a1 : Int32) (a2 : Int32) (g : Mem) : Option (Int32 × Mem) :=
  cl (fX7_isRow a0 g) fun r1 g2 => (if r1 = 0 then (some ((-1000001 : Int32), g2)) else (cl (fX7_in a1 (0 : Int32) (2 : Int32) g2) fun r3 g4 => (if r3 = 0 then (some ((-1000001 : Int32), g4)) else (if a2 ≤ (40 : Int32) then (if 0 ≤ a2 then (as_ g4 62 8 a0 a1 fun g5 => (as_ g5 63 8 a0 a2 fun g6 => (fX7_row_L52 a0 a1 a2 (fun l8 g9 => cl (fX7_done a2 g9) fun r10 g11 => (some (r10, g11))) FU (0 : Int32) g6))) else (cl (fX7_finds (4 : Int32) g4) fun r12 g13 => (some (r12, g13)))) else (some ((-1000001 : Int32), g4))))))
def fX7_set (a0 : Int32) (a1 : Int32) (a2 : Int32) (g : Mem) : Option (Int32 × Mem) :=
  cl (fX7_isRow a0 g) fun r1 g2 => (if r1 = 0 then (some ((-1000001 : Int32), g2)) else (al g2 62 8 a0 fun v3 => (if 0 ≤ v3 then (al g2 63 8 a0 fun v4 => (cl (fX7_in a1 (0 : Int32) (v4 - (1 : Int32)) g2) fun r5 g6 => (if r5 = 0 then (cl (fX7_finds (2 : Int32) g6) fun r7 g8 => (some (r7, g8))) else (al g6 62 8 a0 fun v9 => (if v9 = 0 then (as_ g6 64 320 (((40 : Int32) * a0) + a1) (a2.toInt8.toInt32) fun g10 => (al g10 64 320 (((40 : Int32) * a0) + a1) fun v11 => (cl (fX7_done v11 g10) fun r12 g13 => (some (r12, g13))))) else (al g6 62 8 a0 fun v14 => (if v14 = (1 : Int32) then (as_ g6 64 320 (((40 : Int32) * a0) + a1) (a2.toInt16.toInt32) fun g15 => (al g15 64 320 (((40 : Int32) * a0) + a1) fun v16 => (cl (fX7_done v16 g15) fun r17 g18 => (some (r17, g18))))) else (as_ g6 64 320 (((40 : Int32) * a0) + a1) a2 fun g19 => (al g19 64 320 (((40 : Int32) * a0) + a1) fun v20 => (cl (fX7_done v20 g19) fun r21 g22 => (some (r21, g22)))))))))))) else (cl (fX7_finds (1 : Int32) g2) fun r23 g24 => (some (r23, g24))))))
def fX7_isPart (a0 : Int32) (a1 : Int32) (a2 : Int32) (g : Mem) : Option (Int32 × Mem) :=
  if a0 < 0 then (some ((0 : Int32), g)) else (if a1 < 0 then (some ((0 : Int32), g)) else (if a2 < a1 then (some ((0 : Int32), g)) else (if (a2 - a1) < a0 then (some ((0 : Int32), g)) else (some ((1 : Int32), g)))))
def fX7_copy_L120 (l1 : Int32) (l2 : Int32) (l3 : Int32) (l4 : Int32) (l5 : Int32) (l6 : Int32) (K : Int32 → Mem → Option (Int32 × Mem)) : Nat → Int32 → Mem → Option (Int32 × Mem)
  | 0, _, _ => none
  | n + 1, l7, g => if l5 ≤ l7 then (K l7 g) else (if l6 = 0 then (al g 64 320 ((((40 : Int32) * l1) + l2) + l7) fun v21 => (as_ g 64 320 ((((40 : Int32) * l3) + l4) + l7) v21 fun g22 => (fX7_copy_L120 l1 l2 l3 l4 l5 l6 K n (l7 + (1 : Int32)) g22))) else (lt (((l5 - (1 : Int32)) - l7)) fun x23 => (al g 64 320 ((((40 : Int32) * l1) + l2) + x23) fun v24 => (as_ g 64 320 ((((40 : Int32) * l3) + l4) + x23) v24 fun g25 => (fX7_copy_L120 l1 l2 l3 l4 l5 l6 K n (l7 + (1 : Int32)) g25)))))
def fX7_copy (a0 : Int32) (a1 : Int32) (a2 : Int32) (a3 : Int32) (a4 : Int32) (g : Mem) : Option (Int32 × Mem) :=
  cl (fX7_isRow a0 g) fun r1 g2 => (if r1 = 0 then (some ((-1000001 : Int32), g2)) else (cl (fX7_isRow a2 g2) fun r3 g4 => (if r3 = 0 then (some ((-1000001 : Int32), g4)) else (al g4 62 8 a0 fun v5 => (if v5 < 0 then (cl (fX7_finds (1 : Int32) g4) fun r6 g7 => (some (r6, g7))) else (al g4 62 8 a2 fun v8 => (if 0 ≤ v8 then (al g4 62 8 a0 fun v9 => (al g4 62 8 a2 fun v10 => (if v9 = v10 then (al g4 63 8 a0 fun v11 => (cl (fX7_isPart a1 a4 v11 g4) fun r12 g13 => (if r12 = 0 then (cl (fX7_finds (2 : Int32) g13) fun r14 g15 => (some (r14, g15))) else (al g13 63 8 a2 fun v16 => (cl (fX7_isPart a3 a4 v16 g13) fun r17 g18 => (if r17 = 0 then (cl (fX7_finds (2 : Int32) g18) fun r19 g20 => (some (r19, g20))) else (if a0 = a2 then (if a3 ≤ a1 then (fX7_copy_L120 a0 a1 a2 a3 a4 (0 : Int32) (fun l26 g27 => cl (fX7_done a4 g27) fun r28 g29 => (some (r28, g29))) FU (0 : Int32) g18) else (fX7_copy_L120 a0 a1 a2 a3 a4 (1 : Int32) (fun l30 g31 => cl (fX7_done a4 g31) fun r32 g33 => (some (r32, g33))) FU (0 : Int32) g18)) else (fX7_copy_L120 a0 a1 a2 a3 a4 (0 : Int32) (fun l34 g35 => cl (fX7_done a4 g35) fun r36 g37 => (some (r36, g37))) FU (0 : Int32) g18)))))))) else (cl (fX7_finds (5 : Int32) g4) fun r38 g39 => (some (r38, g39)))))) else (cl (fX7_finds (1 : Int32) g4) fun r40 g41 => (some (r40, g41))))))))))
def fX7_drop (a0 : Int32) (g : Mem) : Option (Int32 × Mem) :=
  cl (fX7_isRow a0 g) fun r1 g2 => (if r1 = 0 then (some ((-1000001 : Int32), g2)) else (al g2 62 8 a0 fun v3 => (if 0 ≤ v3 then (as_ g2 62 8 a0 (-1 : Int32) fun g4 => (al g4 63 8 a0 fun v5 => (cl (fX7_done v5 g4) fun r6 g7 => (some (r6, g7))))) else (cl (fX7_finds (1 : Int32) g2) fun r8 g9 => (some (r8, g9))))))
def fX7_feed (a0 : Int32) (g : Mem) : Option (Int32 × Mem) :=
  cl (fX7_in a0 (0 : Int32) (255 : Int32) g) fun r1 g2 => (if r1 = 0 then (some ((-1000001 : Int32), g2)) else (if (g2 61 4) = (120 : Int32) then (some ((-1000003 : Int32), g2)) else (as_ g2 65 120 (g2 61 4) a0 fun g3 => (pf g3 61 4 ((g3 61 4) + (1 : Int32)) fun g4 => (some ((g4 61 4), g4))))))
def fX7_nextToken_L52 (K : Mem → Option (Int32 × Mem)) : Nat → Mem → Option (Int32 × Mem)
  | 0, _ => none
  | n + 1, g => if (g 61 4) ≤ (g 61 6) then (K  g) else (al g 65 120 (g 61 6) fun v18 => (cl (fX7_in v18 (48 : Int32) (57 : Int32) g) fun r19 g20 => (if r19 = 0 then (K  g20) else (if (3 : Int32) ≤ ((g20 61 6) - (g20 61 7)) then (pf g20 61 9 (g20 61 9) fun g21 => (pf g21 61 6 ((g21 61 6) + (1 : Int32)) fun g22 => (fX7_nextToken_L52 K n  g22))) else (al g20 65 120 (g20 61 6) fun v23 => (pf g20 61 9 ((((10 : Int32) * (g20 61 9)) + v23) - (48 : Int32)) fun g24 => (pf g24 61 6 ((g24 61 6) + (1 : Int32)) fun g25 => (fX7_nextToken_L52 K n  g25))))))))
def fX7_nextToken (g : Mem) : Option (Int32 × Mem) :=
  pf g 61 7 (g 61 6) fun g1 => (pf g1 61 9 (0 : Int32) fun g2 => (if (g2 61 6) = (g2 61 4) then (pf g2 61 8 (-2 : Int32) fun g3 => (some (0, g3))) else (al g2 65 120 (g2 61 6) fun v4 => (cl (fX7_in v4 (48 : Int32) (57 : Int32) g2) fun r5 g6 => (if r5 = 0 then (al g6 65 120 (g6 61 6) fun v7 => (cl (fX7_in v7 (97 : Int32) (122 : Int32) g6) fun r8 g9 => (if r8 = 0 then (if v7 = (44 : Int32) then (pf g9 61 8 v7 fun g10 => (pf g10 61 6 ((g10 61 6) + (1 : Int32)) fun g11 => (some (0, g11)))) else (if v7 = (59 : Int32) then (pf g9 61 8 v7 fun g12 => (pf g12 61 6 ((g12 61 6) + (1 : Int32)) fun g13 => (some (0, g13)))) else (pf g9 61 8 (-3 : Int32) fun g14 => (pf g14 61 6 ((g14 61 6) + (1 : Int32)) fun g15 => (some (0, g15)))))) else (pf g9 61 8 v7 fun g16 => (pf g16 61 6 ((g16 61 6) + (1 : Int32)) fun g17 => (some (0, g17))))))) else (fX7_nextToken_L52 (fun g26 => if ((g26 61 6) - (g26 61 7)) ≤ (3 : Int32) then (pf g26 61 8 (-1 : Int32) fun g27 => (some (0, g27))) else (pf g26 61 8 (-3 : Int32) fun g28 => (some (0, g28)))) FU  g6))))))
def fX7_fails (a0 : Int32) (g : Mem) : Option (Int32 × Mem) :=
  pf g 61 11 a0 fun g1 => (some ((0 : Int32), g1))
def fX7_isNumber (a0 : Int32) (g : Mem) : Option (Int32 × Mem) :=
  cl (fX7_nextToken g) fun r1 g2 => (if (g2 61 8) = (-1 : Int32) then (if (g2 61 9) ≤ a0 then (some ((1 : Int32), g2)) else (cl (fX7_fails (2 : Int32) g2) fun r3 g4 => (if r3 = 0 then (some ((0 : Int32), g4)) else (some ((1 : Int32), g4))))) else (cl (fX7_fails (1 : Int32) g2) fun r5 g6 => (rz r5 g6)))
def fX7_isSign (a0 : Int32) (g : Mem) : Option (Int32 × Mem) :=
  cl (fX7_nextToken g) fun r1 g2 => (if (g2 61 8) = a0 then (some ((1 : Int32), g2)) else (cl (fX7_fails (1 : Int32) g2) fun r3 g4 => (if r3 = 0 then (some ((0 : Int32), g4)) else (some ((1 : Int32), g4)))))
def fX7_sortOf (a0 : Int32) (g : Mem) : Option (Int32 × Mem) :=
  if a0 = (112 : Int32) then (some ((1 : Int32), g)) else (if a0 = (100 : Int32) then (some ((2 : Int32), g)) else (if a0 = (103 : Int32) then (some ((3 : Int32), g)) else (if a0 = (108 : Int32) then (some ((4 : Int32), g)) else (if a0 = (117 : Int32) then (some ((5 : Int32), g)) else (some ((0 : Int32), g))))))
def fX7_isLaw (g : Mem) : Option (Int32 × Mem) :=
  cl (fX7_isSign (107 : Int32) g) fun r1 g2 => (if r1 = 0 then (some ((0 : Int32), g2)) else (cl (fX7_isNumber (255 : Int32) g2) fun r3 g4 => (if r3 = 0 then (some ((0 : Int32), g4)) else (as_ g4 67 50 (1 : Int32) (g4 61 9) fun g5 => (cl (fX7_isSign (44 : Int32) g5) fun r6 g7 => (if r6 = 0 then (some ((0 : Int32), g7)) else (cl (fX7_isNumber (99 : Int32) g7) fun r8 g9 => (if r8 = 0 then (some ((0 : Int32), g9)) else (as_ g9 67 50 (2 : Int32) (g9 61 9) fun g10 => (cl (fX7_isSign (59 : Int32) g10) fun r11 g12 => (rz r11 g12)))))))))))
def fX7_isThing (g : Mem) : Option (Int32 × Mem) :=
  al g 67 50 (3 : Int32) fun v1 => (if v1 = (8 : Int32) then (cl (fX7_fails (3 : Int32) g) fun r2 g3 => (rz r2 g3)) else (cl (fX7_isNumber (31 : Int32) g) fun r4 g5 => (if r4 = 0 then (some ((0 : Int32), g5)) else (al g5 67 50 (3 : Int32) fun v6 => (as_ g5 67 50 ((8 : Int32) + v6) (g5 61 9) fun g7 => (al g7 67 50 (3 : Int32) fun v8 => (as_ g7 67 50 (3 : Int32) (v8 + (1 : Int32)) fun g9 => (cl (fX7_isSign (59 : Int32) g9) fun r10 g11 => (rz r10 g11)))))))))
def fX7_isRiddle (g : Mem) : Option (Int32 × Mem) :=
  al g 67 50 (4 : Int32) fun v1 => (if v1 = (6 : Int32) then (cl (fX7_fails (3 : Int32) g) fun r2 g3 => (rz r2 g3)) else (cl (fX7_sortOf (g 61 8) g) fun r4 g5 => (as_ g5 67 50 ((16 : Int32) + v1) r4 fun g6 => (cl (fX7_isNumber (31 : Int32) g6) fun r7 g8 => (if r7 = 0 then (some ((0 : Int32), g8)) else (as_ g8 67 50 ((22 : Int32) + v1) (g8 61 9) fun g9 => (cl (fX7_isSign (44 : Int32) g9) fun r10 g11 => (if r10 = 0 then (some ((0 : Int32), g11)) else (cl (fX7_isNumber (31 : Int32) g11) fun r12 g13 => (if r12 = 0 then (some ((0 : Int32), g13)) else (al g13 67 50 ((22 : Int32) + v1) fun v14 => (if ((g13 61 9) &&& v14) = 0 then (as_ g13 67 50 ((28 : Int32) + v1) (g13 61 9) fun g15 => (al g15 67 50 (4 : Int32) fun v16 => (as_ g15 67 50 (4 : Int32) (v16 + (1 : Int32)) fun g17 => (cl (fX7_isSign (59 : Int32) g17) fun r18 g19 => (rz r18 g19))))) else (cl (fX7_fails (2 : Int32) g13) fun r20 g21 => (rz r20 g21))))))))))))))
def fX7_isSuitor (g : Mem) : Option (Int32 × Mem) :=
  al g 67 50 (5 : Int32) fun v1 => (if v1 = (4 : Int32) then (cl (fX7_fails (3 : Int32) g) fun r2 g3 => (rz r2 g3)) else (al g 67 50 (3 : Int32) fun v4 => (cl (fX7_isNumber (((1 : Int32) <<< (v4 &&& 31)) - (1 : Int32)) g) fun r5 g6 => (if r5 = 0 then (some ((0 : Int32), g6)) else (al g6 67 50 (5 : Int32) fun v7 => (as_ g6 67 50 ((34 : Int32) + v7) (g6 61 9) fun g8 => (al g8 67 50 (5 : Int32) fun v9 => (as_ g8 67 50 (5 : Int32) (v9 + (1 : Int32)) fun g10 => (cl (fX7_isSign (59 : Int32) g10) fun r11 g12 => (rz r11 g12))))))))))
def fX7_isRead_L7 (K : Int32 → Mem → Option (Int32 × Mem)) : Nat → Int32 → Mem → Option (Int32 × Mem)
  | 0, _, _ => none
  | n + 1, l1, g => if (50 : Int32) ≤ l1 then (K l1 g) else (as_ g 67 50 l1 (0 : Int32) fun g2 => (fX7_isRead_L7 K n (l1 + (1 : Int32)) g2))
def fX7_isRead_L41 (K : Int32 → Mem → Option (Int32 × Mem)) : Nat → Int32 → Mem → Option (Int32 × Mem)
  | 0, _, _ => none
  | n + 1, l1, g => if (g 61 8) = (-2 : Int32) then (K l1 g) else (if l1 = 0 then (K l1 g) else (al g 67 50 (5 : Int32) fun v9 => (if v9 = 0 then (if (g 61 8) = (116 : Int32) then (al g 67 50 (4 : Int32) fun v10 => (if v10 = 0 then (cl (fX7_isThing g) fun r11 g12 => (if r11 = 0 then (fX7_isRead_L41 K n r11 g12) else (cl (fX7_nextToken g12) fun r13 g14 => (fX7_isRead_L41 K n r11 g14)))) else (cl (fX7_sortOf (g 61 8) g) fun r15 g16 => (if r15 ≤ 0 then (if (g16 61 8) = (119 : Int32) then (cl (fX7_isSuitor g16) fun r17 g18 => (if r17 = 0 then (fX7_isRead_L41 K n r17 g18) else (cl (fX7_nextToken g18) fun r19 g20 => (fX7_isRead_L41 K n r17 g20)))) else (cl (fX7_fails (1 : Int32) g16) fun r21 g22 => (if r21 = 0 then (fX7_isRead_L41 K n r21 g22) else (cl (fX7_nextToken g22) fun r23 g24 => (fX7_isRead_L41 K n r21 g24))))) else (cl (fX7_isRiddle g16) fun r25 g26 => (if r25 = 0 then (fX7_isRead_L41 K n r25 g26) else (cl (fX7_nextToken g26) fun r27 g28 => (fX7_isRead_L41 K n r25 g28)))))))) else (cl (fX7_sortOf (g 61 8) g) fun r29 g30 => (if r29 ≤ 0 then (if (g30 61 8) = (119 : Int32) then (cl (fX7_isSuitor g30) fun r31 g32 => (if r31 = 0 then (fX7_isRead_L41 K n r31 g32) else (cl (fX7_nextToken g32) fun r33 g34 => (fX7_isRead_L41 K n r31 g34)))) else (cl (fX7_fails (1 : Int32) g30) fun r35 g36 => (if r35 = 0 then (fX7_isRead_L41 K n r35 g36) else (cl (fX7_nextToken g36) fun r37 g38 => (fX7_isRead_L41 K n r35 g38))))) else (cl (fX7_isRiddle g30) fun r39 g40 => (if r39 = 0 then (fX7_isRead_L41 K n r39 g40) else (cl (fX7_nextToken g40) fun r41 g42 => (fX7_isRead_L41 K n r39 g42))))))) else (if (g 61 8) = (116 : Int32) then (cl (fX7_sortOf (g 61 8) g) fun r43 g44 => (if r43 ≤ 0 then (if (g44 61 8) = (119 : Int32) then (cl (fX7_isSuitor g44) fun r45 g46 => (if r45 = 0 then (fX7_isRead_L41 K n r45 g46) else (cl (fX7_nextToken g46) fun r47 g48 => (fX7_isRead_L41 K n r45 g48)))) else (cl (fX7_fails (1 : Int32) g44) fun r49 g50 => (if r49 = 0 then (fX7_isRead_L41 K n r49 g50) else (cl (fX7_nextToken g50) fun r51 g52 => (fX7_isRead_L41 K n r49 g52))))) else (if (g44 61 8) = (119 : Int32) then (cl (fX7_isSuitor g44) fun r53 g54 => (if r53 = 0 then (fX7_isRead_L41 K n r53 g54) else (cl (fX7_nextToken g54) fun r55 g56 => (fX7_isRead_L41 K n r53 g56)))) else (cl (fX7_fails (1 : Int32) g44) fun r57 g58 => (if r57 = 0 then (fX7_isRead_L41 K n r57 g58) else (cl (fX7_nextToken g58) fun r59 g60 => (fX7_isRead_L41 K n r57 g60))))))) else (cl (fX7_sortOf (g 61 8) g) fun r61 g62 => (if r61 ≤ 0 then (if (g62 61 8) = (119 : Int32) then (cl (fX7_isSuitor g62) fun r63 g64 => (if r63 = 0 then (fX7_isRead_L41 K n r63 g64) else (cl (fX7_nextToken g64) fun r65 g66 => (fX7_isRead_L41 K n r63 g66)))) else (cl (fX7_fails (1 : Int32) g62) fun r67 g68 => (if r67 = 0 then (fX7_isRead_L41 K n r67 g68) else (cl (fX7_nextToken g68) fun r69 g70 => (fX7_isRead_L41 K n r67 g70))))) else (if (g62 61 8) = (119 : Int32) then (cl (fX7_isSuitor g62) fun r71 g72 => (if r71 = 0 then (fX7_isRead_L41 K n r71 g72) else (cl (fX7_nextToken g72) fun r73 g74 => (fX7_isRead_L41 K n r71 g74)))) else (cl (fX7_fails (1 : Int32) g62) fun r75 g76 => (if r75 = 0 then (fX7_isRead_L41 K n r75 g76) else (cl (fX7_nextToken g76) fun r77 g78 => (fX7_isRead_L41 K n r75 g78)))))))))))
def fX7_isRead (g : Mem) : Option (Int32 × Mem) :=
  pf g 61 6 (0 : Int32) fun g1 => (fX7_isRead_L7 (fun l3 g4 => cl (fX7_isLaw g4) fun r5 g6 => (if r5 = 0 then (some ((0 : Int32), g6)) else (cl (fX7_nextToken g6) fun r7 g8 => (fX7_isRead_L41 (fun l79 g80 => rz l79 g80) FU (1 : Int32) g8)))) FU (0 : Int32) g1)
def fX7_lay_L3 (q0 nq0 : Nat) (q2 nq2 : Nat) (l1 : Int32) (l3 : Int32) (K : Int32 → Mem → Option (Int32 × Mem)) : Nat → Int32 → Mem → Option (Int32 × Mem)
  | 0, _, _ => none
  | n + 1, l4, g => if (50 : Int32) ≤ l4 then (K l4 g) else (al g q0 nq0 (l1 + l4) fun v1 => (as_ g q2 nq2 (l3 + l4) v1 fun g2 => (fX7_lay_L3 q0 nq0 q2 nq2 l1 l3 K n (l4 + (1 : Int32)) g2)))
def fX7_lay (q0 nq0 : Nat) (a1 : Int32) (q2 nq2 : Nat) (a3 : Int32) (g : Mem) : Option (Int32 × Mem) :=
  fX7_lay_L3 q0 nq0 q2 nq2 a1 a3 (fun l3 g4 => some (0, g4)) FU (0 : Int32) g
def fX7_everything (g : Mem) : Option (Int32 × Mem) :=
  al g 66 50 (3 : Int32) fun v1 => (some ((((1 : Int32) <<< (v1 &&& 31)) - (1 : Int32)), g))
def fX7_court (g : Mem) : Option (Int32 × Mem) :=
  cl (fX7_isRead g) fun r1 g2 => (pf g2 61 4 (0 : Int32) fun g3 => (if r1 = 0 then (pf g3 61 10 (g3 61 11) fun g4 => (some (((-1000100 : Int32) - (g4 61 7)), g4))) else (cl (fX7_lay 67 50 (0 : Int32) 66 50 (0 : Int32) g3) fun r5 g6 => (as_ g6 66 50 (0 : Int32) (1 : Int32) fun g7 => (al g7 66 50 (1 : Int32) fun v8 => (cl (fX7_everything g7) fun r9 g10 => (as_ g10 66 50 (1 : Int32) (v8 &&& r9) fun g11 => (pf g11 61 17 (0 : Int32) fun g12 => (al g12 66 50 (5 : Int32) fun v13 => (some (v13, g12)))))))))))
def fX7_fault (g : Mem) : Option (Int32 × Mem) :=
  some ((g 61 10), g)
def fX7_isCourt (g : Mem) : Option (Int32 × Mem) :=
  al g 66 50 (0 : Int32) fun v1 => (if v1 = (1 : Int32) then (some ((1 : Int32), g)) else (some ((0 : Int32), g)))
def fX7_isThingAt (a0 : Int32) (g : Mem) : Option (Int32 × Mem) :=
  al g 66 50 (3 : Int32) fun v1 => (cl (fX7_in a0 (0 : Int32) (v1 - (1 : Int32)) g) fun r2 g3 => (rz r2 g3))
def fX7_isRiddleAt (a0 : Int32) (g : Mem) : Option (Int32 × Mem) :=
  al g 66 50 (4 : Int32) fun v1 => (cl (fX7_in a0 (0 : Int32) (v1 - (1 : Int32)) g) fun r2 g3 => (rz r2 g3))
def fX7_isSuitorAt (a0 : Int32) (g : Mem) : Option (Int32 × Mem) :=
  al g 66 50 (5 : Int32) fun v1 => (cl (fX7_in a0 (0 : Int32) (v1 - (1 : Int32)) g) fun r2 g3 => (rz r2 g3))
def fX7_fits (a0 : Int32) (a1 : Int32) (a2 : Int32) (a3 : Int32) (g : Mem) : Option (Int32 × Mem) :=
  if (a3 &&& a2) = 0 then (if (a3 &&& a1) = a1 then (if a0 = (1 : Int32) then (some ((1 : Int32), g)) else (if a0 = (2 : Int32) then (some ((1 : Int32), g)) else (if a0 = (3 : Int32) then (cl (fX7_bits (a1 &&& (a3 ^^^ (-1 : Int32))) g) fun r4 g5 => (if (2 : Int32) ≤ r4 then (some ((0 : Int32), g5)) else (some ((1 : Int32), g5)))) else (if a0 = (4 : Int32) then (some ((0 : Int32), g)) else (some ((0 : Int32), g)))))) else (if a0 = (1 : Int32) then (some ((0 : Int32), g)) else (if a0 = (2 : Int32) then (if (a3 &&& a2) = a2 then (if (a3 &&& a1) = 0 then (some ((1 : Int32), g)) else (some ((0 : Int32), g))) else (some ((0 : Int32), g))) else (if a0 = (3 : Int32) then (cl (fX7_bits (a1 &&& (a3 ^^^ (-1 : Int32))) g) fun r10 g11 => (if (2 : Int32) ≤ r10 then (some ((0 : Int32), g11)) else (some ((1 : Int32), g11)))) else (if a0 = (4 : Int32) then (some ((1 : Int32), g)) else (some ((1 : Int32), g))))))) else (if (a3 &&& a1) = a1 then (if a0 = (1 : Int32) then (some ((0 : Int32), g)) else (if a0 = (2 : Int32) then (if (a3 &&& a2) = a2 then (if (a3 &&& a1) = 0 then (some ((1 : Int32), g)) else (some ((0 : Int32), g))) else (some ((0 : Int32), g))) else (if a0 = (3 : Int32) then (cl (fX7_bits (a1 &&& (a3 ^^^ (-1 : Int32))) g) fun r16 g17 => (if (2 : Int32) ≤ r16 then (some ((0 : Int32), g17)) else (some ((0 : Int32), g17)))) else (if a0 = (4 : Int32) then (some ((1 : Int32), g)) else (some ((0 : Int32), g)))))) else (if a0 = (1 : Int32) then (some ((0 : Int32), g)) else (if a0 = (2 : Int32) then (if (a3 &&& a2) = a2 then (if (a3 &&& a1) = 0 then (some ((1 : Int32), g)) else (some ((0 : Int32), g))) else (some ((0 : Int32), g))) else (if a0 = (3 : Int32) then (cl (fX7_bits (a1 &&& (a3 ^^^ (-1 : Int32))) g) fun r22 g23 => (if (2 : Int32) ≤ r22 then (some ((0 : Int32), g23)) else (some ((0 : Int32), g23)))) else (if a0 = (4 : Int32) then (some ((1 : Int32), g)) else (some ((0 : Int32), g)))))))
def fX7_fittersOf_L6 (l1 : Int32) (l2 : Int32) (l3 : Int32) (K : Int32 → Int32 → Mem → Option (Int32 × Mem)) : Nat → Int32 → Int32 → Mem → Option (Int32 × Mem)
  | 0, _, _, _ => none
  | n + 1, l4, l5, g => al g 66 50 (3 : Int32) fun v1 => (if v1 ≤ l5 then (K l4 l5 g) else (al g 66 50 ((8 : Int32) + l5) fun v2 => (cl (fX7_fits l1 l2 l3 v2 g) fun r3 g4 => (if r3 = 0 then (lt ((l4 ||| (0 : Int32))) fun x5 => (fX7_fittersOf_L6 l1 l2 l3 K n x5 (l5 + (1 : Int32)) g4)) else (lt ((l4 ||| ((1 : Int32) <<< (l5 &&& 31)))) fun x6 => (fX7_fittersOf_L6 l1 l2 l3 K n x6 (l5 + (1 : Int32)) g4))))))
def fX7_fittersOf (a0 : Int32) (a1 : Int32) (a2 : Int32) (g : Mem) : Option (Int32 × Mem) :=
  fX7_fittersOf_L6 a0 a1 a2 (fun l7 l8 g9 => some (l7, g9)) FU (0 : Int32) (0 : Int32) g
def fX7_fittersAt (a0 : Int32) (g : Mem) : Option (Int32 × Mem) :=
  al g 66 50 ((16 : Int32) + a0) fun v1 => (al g 66 50 ((22 : Int32) + a0) fun v2 => (al g 66 50 ((28 : Int32) + a0) fun v3 => (cl (fX7_fittersOf v1 v2 v3 g) fun r4 g5 => (some (r4, g5)))))
def fX7_leastOf_L9 (l0 : Int32) (K : Int32 → Mem → Option (Int32 × Mem)) : Nat → Int32 → Mem → Option (Int32 × Mem)
  | 0, _, _ => none
  | n + 1, l1, g => cl (fX7_has l0 l1 g) fun r1 g2 => (if r1 = 0 then (fX7_leastOf_L9 l0 K n (l1 + (1 : Int32)) g2) else (K l1 g2))
def fX7_leastOf (a0 : Int32) (g : Mem) : Option (Int32 × Mem) :=
  if a0 = 0 then (some ((-1000000 : Int32), g)) else (fX7_leastOf_L9 a0 (fun l3 g4 => some (l3, g4)) FU (0 : Int32) g)
def fX7_answerAt (a0 : Int32) (g : Mem) : Option (Int32 × Mem) :=
  cl (fX7_fittersAt a0 g) fun r1 g2 => (cl (fX7_leastOf r1 g2) fun r3 g4 => (some (r3, g4)))
def fX7_saysAt (a0 : Int32) (a1 : Int32) (g : Mem) : Option (Int32 × Mem) :=
  cl (fX7_fittersAt a1 g) fun r1 g2 => (al g2 66 50 ((34 : Int32) + a0) fun v3 => (cl (fX7_leastOf (r1 &&& v3) g2) fun r4 g5 => (some (r4, g5))))
def fX7_sheSaysAt (a0 : Int32) (g : Mem) : Option (Int32 × Mem) :=
  cl (fX7_fittersAt a0 g) fun r1 g2 => (al g2 66 50 (1 : Int32) fun v3 => (cl (fX7_leastOf (r1 &&& v3) g2) fun r4 g5 => (some (r4, g5))))
def fX7_isOpen (a0 : Int32) (g : Mem) : Option (Int32 × Mem) :=
  al g 66 50 (6 : Int32) fun v1 => (cl (fX7_has v1 a0 g) fun r2 g3 => (if r2 = 0 then (some ((1 : Int32), g3)) else (some ((0 : Int32), g3))))
def fX7_isAnyWed_L4 (K : Int32 → Int32 → Mem → Option (Int32 × Mem)) : Nat → Int32 → Int32 → Mem → Option (Int32 × Mem)
  | 0, _, _, _ => none
  | n + 1, l1, l2, g => al g 66 50 (5 : Int32) fun v1 => (if v1 ≤ l2 then (K l1 l2 g) else (if l1 = 0 then (al g 66 50 ((38 : Int32) + l2) fun v2 => (if v2 = (2 : Int32) then (fX7_isAnyWed_L4 K n (1 : Int32) (l2 + (1 : Int32)) g) else (fX7_isAnyWed_L4 K n (0 : Int32) (l2 + (1 : Int32)) g))) else (fX7_isAnyWed_L4 K n (1 : Int32) (l2 + (1 : Int32)) g)))
def fX7_isAnyWed (g : Mem) : Option (Int32 × Mem) :=
  fX7_isAnyWed_L4 (fun l3 l4 g5 => rz l3 g5) FU (0 : Int32) (0 : Int32) g
def fX7_act_L11 (K : Int32 → Mem → Option (Int32 × Mem)) : Nat → Int32 → Mem → Option (Int32 × Mem)
  | 0, _, _ => none
  | n + 1, l1, g => if (1150 : Int32) ≤ l1 then (K l1 g) else (al g 70 1200 (l1 + (50 : Int32)) fun v1 => (as_ g 70 1200 l1 v1 fun g2 => (fX7_act_L11 K n (l1 + (1 : Int32)) g2)))
def fX7_act (g : Mem) : Option (Int32 × Mem) :=
  if (g 61 17) = (24 : Int32) then (fX7_act_L11 (fun l3 g4 => pf g4 61 17 ((g4 61 17) - (1 : Int32)) fun g5 => (cl (fX7_lay 66 50 (0 : Int32) 70 1200 ((50 : Int32) * (g5 61 17)) g5) fun r6 g7 => (pf g7 61 17 ((g7 61 17) + (1 : Int32)) fun g8 => (some (0, g8))))) FU (0 : Int32) g) else (cl (fX7_lay 66 50 (0 : Int32) 70 1200 ((50 : Int32) * (g 61 17)) g) fun r9 g10 => (pf g10 61 17 ((g10 61 17) + (1 : Int32)) fun g11 => (some (0, g11))))
def fX7_asked (a0 : Int32) (a1 : Int32) (g : Mem) : Option (Int32 × Mem) :=
  cl (fX7_isSuitorAt a0 g) fun r1 g2 => (if r1 = 0 then (some ((-1000001 : Int32), g2)) else (cl (fX7_isRiddleAt a1 g2) fun r3 g4 => (if r3 = 0 then (some ((-1000001 : Int32), g4)) else (al g4 66 50 ((38 : Int32) + a0) fun v5 => (if v5 = 0 then (cl (fX7_isOpen a1 g4) fun r6 g7 => (if r6 = 0 then (some ((-1000002 : Int32), g7)) else (cl (fX7_isAnyWed g7) fun r8 g9 => (if r8 = 0 then (cl (fX7_act g9) fun r10 g11 => (al g11 66 50 (6 : Int32) fun v12 => (as_ g11 66 50 (6 : Int32) (v12 ||| ((1 : Int32) <<< (a1 &&& 31))) fun g13 => (cl (fX7_saysAt a0 a1 g13) fun r14 g15 => (cl (fX7_answerAt a1 g15) fun r16 g17 => (if r14 = r16 then (al g17 66 50 ((42 : Int32) + a0) fun v18 => (as_ g17 66 50 ((42 : Int32) + a0) (v18 + (1 : Int32)) fun g19 => (al g19 66 50 ((42 : Int32) + a0) fun v20 => (if v20 = (3 : Int32) then (as_ g19 66 50 ((38 : Int32) + a0) (2 : Int32) fun g21 => (some (r14, g21))) else (as_ g19 66 50 ((38 : Int32) + a0) (0 : Int32) fun g22 => (some (r14, g22))))))) else (as_ g17 66 50 ((38 : Int32) + a0) (1 : Int32) fun g23 => (some (r14, g23))))))))) else (some ((-1000002 : Int32), g9)))))) else (some ((-1000002 : Int32), g4)))))))
def fX7_inTurn (a0 : Int32) (a1 : Int32) (g : Mem) : Option (Int32 × Mem) :=
  cl (fX7_isSuitorAt a0 g) fun r1 g2 => (if r1 = 0 then (some ((-1000001 : Int32), g2)) else (cl (fX7_isRiddleAt a1 g2) fun r3 g4 => (if r3 = 0 then (some ((-1000001 : Int32), g4)) else (al g4 66 50 ((38 : Int32) + a0) fun v5 => (if v5 = 0 then (cl (fX7_isOpen a1 g4) fun r6 g7 => (if r6 = 0 then (some ((-1000002 : Int32), g7)) else (al g7 66 50 ((46 : Int32) + a0) fun v8 => (if v8 = (1 : Int32) then (some ((-1000002 : Int32), g7)) else (cl (fX7_isAnyWed g7) fun r9 g10 => (if r9 = 0 then (cl (fX7_act g10) fun r11 g12 => (al g12 66 50 (6 : Int32) fun v13 => (as_ g12 66 50 (6 : Int32) (v13 ||| ((1 : Int32) <<< (a1 &&& 31))) fun g14 => (as_ g14 66 50 ((46 : Int32) + a0) (1 : Int32) fun g15 => (cl (fX7_sheSaysAt a1 g15) fun r16 g17 => (cl (fX7_answerAt a1 g17) fun r18 g19 => (if r16 = r18 then (as_ g19 66 50 ((38 : Int32) + a0) (0 : Int32) fun g20 => (some (r16, g20))) else (as_ g19 66 50 ((38 : Int32) + a0) (3 : Int32) fun g21 => (some (r16, g21)))))))))) else (some ((-1000002 : Int32), g10)))))))) else (some ((-1000002 : Int32), g4)))))))
def fX7_costOf_L4 (l1 : Int32) (K : Int32 → Int32 → Mem → Option (Int32 × Mem)) : Nat → Int32 → Int32 → Mem → Option (Int32 × Mem)
  | 0, _, _, _ => none
  | n + 1, l2, l3, g => al g 66 50 (4 : Int32) fun v1 => (if v1 ≤ l3 then (K l2 l3 g) else (cl (fX7_isOpen l3 g) fun r2 g3 => (if r2 = 0 then (lt ((l2 + (0 : Int32))) fun x4 => (fX7_costOf_L4 l1 K n x4 (l3 + (1 : Int32)) g3)) else (cl (fX7_answerAt l3 g3) fun r5 g6 => (if r5 = l1 then (al g6 66 50 (2 : Int32) fun v7 => (lt ((l2 + v7)) fun x8 => (fX7_costOf_L4 l1 K n x8 (l3 + (1 : Int32)) g6))) else (lt ((l2 + (0 : Int32))) fun x9 => (fX7_costOf_L4 l1 K n x9 (l3 + (1 : Int32)) g6)))))))
def fX7_costOf (a0 : Int32) (g : Mem) : Option (Int32 × Mem) :=
  fX7_costOf_L4 a0 (fun l10 l11 g12 => some (l10, g12)) FU (0 : Int32) (0 : Int32) g
def fX7_buy (a0 : Int32) (a1 : Int32) (g : Mem) : Option (Int32 × Mem) :=
  cl (fX7_isSuitorAt a0 g) fun r1 g2 => (if r1 = 0 then (some ((-1000001 : Int32), g2)) else (cl (fX7_isThingAt a1 g2) fun r3 g4 => (if r3 = 0 then (some ((-1000001 : Int32), g4)) else (al g4 66 50 ((38 : Int32) + a0) fun v5 => (if v5 = 0 then (al g4 66 50 ((34 : Int32) + a0) fun v6 => (cl (fX7_has v6 a1 g4) fun r7 g8 => (if r7 = 0 then (cl (fX7_act g8) fun r9 g10 => (cl (fX7_costOf a1 g10) fun r11 g12 => (al g12 66 50 ((34 : Int32) + a0) fun v13 => (as_ g12 66 50 ((34 : Int32) + a0) (v13 ||| ((1 : Int32) <<< (a1 &&& 31))) fun g14 => (al g14 66 50 (7 : Int32) fun v15 => (as_ g14 66 50 (7 : Int32) (v15 + r11) fun g16 => (some (r11, g16)))))))) else (some ((-1000002 : Int32), g8))))) else (some ((-1000002 : Int32), g4)))))))
def fX7_undo (g : Mem) : Option (Int32 × Mem) :=
  if (g 61 17) = 0 then (some ((-1000002 : Int32), g)) else (pf g 61 17 ((g 61 17) - (1 : Int32)) fun g1 => (cl (fX7_lay 70 1200 ((50 : Int32) * (g1 61 17)) 66 50 (0 : Int32) g1) fun r2 g3 => (some ((g3 61 17), g3))))
def fX7_thing (a0 : Int32) (g : Mem) : Option (Int32 × Mem) :=
  cl (fX7_isThingAt a0 g) fun r1 g2 => (if r1 = 0 then (some ((-1000001 : Int32), g2)) else (al g2 66 50 ((8 : Int32) + a0) fun v3 => (some (v3, g2))))
def fX7_riddle (a0 : Int32) (a1 : Int32) (g : Mem) : Option (Int32 × Mem) :=
  cl (fX7_isRiddleAt a0 g) fun r1 g2 => (if r1 = 0 then (some ((-1000001 : Int32), g2)) else (if a1 = (0 : Int32) then (al g2 66 50 ((22 : Int32) + a0) fun v4 => (some (v4, g2))) else (if a1 = (1 : Int32) then (al g2 66 50 ((28 : Int32) + a0) fun v6 => (some (v6, g2))) else (if a1 = (2 : Int32) then (cl (fX7_fittersAt a0 g2) fun r8 g9 => (some (r8, g9))) else (if a1 = (3 : Int32) then (cl (fX7_answerAt a0 g2) fun r11 g12 => (some (r11, g12))) else (if a1 = (4 : Int32) then (cl (fX7_isOpen a0 g2) fun r14 g15 => (if r14 = 0 then (some ((1 : Int32), g15)) else (some ((0 : Int32), g15)))) else (if a1 = (5 : Int32) then (cl (fX7_fittersAt a0 g2) fun r17 g18 => (cl (fX7_bits r17 g18) fun r19 g20 => (if r19 = (1 : Int32) then (some ((1 : Int32), g20)) else (some ((0 : Int32), g20))))) else (if a1 = (6 : Int32) then (cl (fX7_sheSaysAt a0 g2) fun r22 g23 => (some (r22, g23))) else (some ((-1000001 : Int32), g2))))))))))
def fX7_suitor (a0 : Int32) (a1 : Int32) (g : Mem) : Option (Int32 × Mem) :=
  cl (fX7_isSuitorAt a0 g) fun r1 g2 => (if r1 = 0 then (some ((-1000001 : Int32), g2)) else (cl (fX7_in a1 (0 : Int32) (3 : Int32) g2) fun r3 g4 => (if r3 = 0 then (some ((-1000001 : Int32), g4)) else (al g4 66 50 (((34 : Int32) + ((4 : Int32) * a1)) + a0) fun v5 => (some (v5, g4))))))
def fX7_says (a0 : Int32) (a1 : Int32) (g : Mem) : Option (Int32 × Mem) :=
  cl (fX7_isSuitorAt a0 g) fun r1 g2 => (if r1 = 0 then (some ((-1000001 : Int32), g2)) else (cl (fX7_isRiddleAt a1 g2) fun r3 g4 => (if r3 = 0 then (some ((-1000001 : Int32), g4)) else (cl (fX7_saysAt a0 a1 g4) fun r5 g6 => (some (r5, g6))))))
def fX7_riddleFor_L41 (l1 : Int32) (l2 : Int32) (l3 : Int32) (K : Int32 → Int32 → Int32 → Mem → Option (Int32 × Mem)) : Nat → Int32 → Int32 → Int32 → Mem → Option (Int32 × Mem)
  | 0, _, _, _, _ => none
  | n + 1, l4, l5, l6, g => if l6 < 0 then (K l4 l5 l6 g) else (nz (32 : Int32) (lt ((l6 / (32 : Int32))) fun x7 => (nz (32 : Int32) (lt ((irm l6 (32 : Int32))) fun x8 => (cl (fX7_fittersOf l2 x7 x8 g) fun r9 g10 => (if (x7 &&& x8) = 0 then (cl (fX7_bits r9 g10) fun r11 g12 => (if r11 = (1 : Int32) then (al g12 66 50 ((34 : Int32) + l1) fun v13 => (if (r9 &&& v13) = 0 then (lt ((l4 + (1 : Int32))) fun x14 => (fX7_riddleFor_L41 l1 l2 l3 K n x14 l6 (l6 + (-1 : Int32)) g12)) else (lt ((l4 + (0 : Int32))) fun x15 => (fX7_riddleFor_L41 l1 l2 l3 K n x15 l5 (l6 + (-1 : Int32)) g12)))) else (lt ((l4 + (0 : Int32))) fun x16 => (fX7_riddleFor_L41 l1 l2 l3 K n x16 l5 (l6 + (-1 : Int32)) g12)))) else (lt ((l4 + (0 : Int32))) fun x17 => (fX7_riddleFor_L41 l1 l2 l3 K n x17 l5 (l6 + (-1 : Int32)) g10))))))))
def fX7_riddleFor (a0 : Int32) (a1 : Int32) (a2 : Int32) (g : Mem) : Option (Int32 × Mem) :=
  cl (fX7_isSuitorAt a0 g) fun r1 g2 => (if r1 = 0 then (some ((-1000001 : Int32), g2)) else (cl (fX7_in a1 (1 : Int32) (5 : Int32) g2) fun r3 g4 => (if r3 = 0 then (some ((-1000001 : Int32), g4)) else (cl (fX7_in a2 (0 : Int32) (1 : Int32) g4) fun r5 g6 => (if r5 = 0 then (some ((-1000001 : Int32), g6)) else (fX7_riddleFor_L41 a0 a1 a2 (fun l18 l19 l20 g21 => if a2 = 0 then (some (l19, g21)) else (some (l18, g21))) FU (0 : Int32) (-1000000 : Int32) (1023 : Int32) g6))))))
def fX7_hard_L97 (l1 : Int32) (l2 : Int32) (l3 : Int32) (l4 : Int32) (l5 : Int32) (l6 : Int32) (l7 : Int32) (l8 : Int32) (K : Int32 → Int32 → Mem → Option (Int32 × Mem)) : Nat → Int32 → Int32 → Mem → Option (Int32 × Mem)
  | 0, _, _, _ => none
  | n + 1, l9, l10, g => al g 66 50 (5 : Int32) fun v13 => (if v13 ≤ l10 then (K l9 l10 g) else (al g 66 50 ((38 : Int32) + l10) fun v14 => (if v14 = 0 then (al g 66 50 ((34 : Int32) + l10) fun v15 => (if (l8 &&& v15) = 0 then (lt ((l9 + (1 : Int32))) fun x16 => (fX7_hard_L97 l1 l2 l3 l4 l5 l6 l7 l8 K n x16 (l10 + (1 : Int32)) g)) else (lt ((l9 + (0 : Int32))) fun x17 => (fX7_hard_L97 l1 l2 l3 l4 l5 l6 l7 l8 K n x17 (l10 + (1 : Int32)) g)))) else (lt ((l9 + (0 : Int32))) fun x18 => (fX7_hard_L97 l1 l2 l3 l4 l5 l6 l7 l8 K n x18 (l10 + (1 : Int32)) g)))))
def fX7_hard_L41 (l1 : Int32) (l2 : Int32) (K : Int32 → Int32 → Int32 → Mem → Option (Int32 × Mem)) : Nat → Int32 → Int32 → Int32 → Mem → Option (Int32 × Mem)
  | 0, _, _, _, _ => none
  | n + 1, l3, l4, l5, g => if (1024 : Int32) ≤ l5 then (K l3 l4 l5 g) else (nz (32 : Int32) (lt ((l5 / (32 : Int32))) fun x7 => (nz (32 : Int32) (lt ((irm l5 (32 : Int32))) fun x8 => (cl (fX7_fittersOf l1 x7 x8 g) fun r9 g10 => (if (x7 &&& x8) = 0 then (cl (fX7_bits r9 g10) fun r11 g12 => (if r11 = (1 : Int32) then (fX7_hard_L97 l1 l2 l3 l4 l5 x7 x8 r9 (fun l19 l20 g21 => if l19 ≤ l4 then (if l19 ≤ l4 then (fX7_hard_L41 l1 l2 K n l3 l4 (l5 + (1 : Int32)) g21) else (fX7_hard_L41 l1 l2 K n l3 l19 (l5 + (1 : Int32)) g21)) else (if l19 ≤ l4 then (fX7_hard_L41 l1 l2 K n l5 l4 (l5 + (1 : Int32)) g21) else (fX7_hard_L41 l1 l2 K n l5 l19 (l5 + (1 : Int32)) g21))) FU (0 : Int32) (0 : Int32) g12) else (fX7_hard_L41 l1 l2 K n l3 l4 (l5 + (1 : Int32)) g12))) else (fX7_hard_L41 l1 l2 K n l3 l4 (l5 + (1 : Int32)) g10)))))))
def fX7_hard (a0 : Int32) (a1 : Int32) (g : Mem) : Option (Int32 × Mem) :=
  cl (fX7_isCourt g) fun r1 g2 => (if r1 = 0 then (some ((-1000002 : Int32), g2)) else (cl (fX7_in a0 (1 : Int32) (5 : Int32) g2) fun r3 g4 => (if r3 = 0 then (some ((-1000001 : Int32), g4)) else (cl (fX7_in a1 (0 : Int32) (1 : Int32) g4) fun r5 g6 => (if r5 = 0 then (some ((-1000001 : Int32), g6)) else (fX7_hard_L41 a0 a1 (fun l22 l23 l24 g25 => if a1 = 0 then (some (l22, g25)) else (some (l23, g25))) FU (-1000000 : Int32) (-1000000 : Int32) (0 : Int32) g6))))))
def fX7_over_L4 (l0 : Int32) (l1 : Int32) (K : Int32 → Int32 → Mem → Option (Int32 × Mem)) : Nat → Int32 → Int32 → Mem → Option (Int32 × Mem)
  | 0, _, _, _ => none
  | n + 1, l2, l3, g => if l1 ≤ l3 then (K l2 l3 g) else (nz (l3 + (1 : Int32)) (lt (((l2 * (l0 - l3)) / (l3 + (1 : Int32)))) fun x1 => (fX7_over_L4 l0 l1 K n x1 (l3 + (1 : Int32)) g)))
def fX7_over (a0 : Int32) (a1 : Int32) (g : Mem) : Option (Int32 × Mem) :=
  fX7_over_L4 a0 a1 (fun l2 l3 g4 => if a1 ≤ a0 then (some (l2, g4)) else (some ((0 : Int32), g4))) FU (1 : Int32) (0 : Int32) g
def fX7_chance_L43 (l1 : Int32) (l2 : Int32) (K : Int32 → Int32 → Int32 → Mem → Option (Int32 × Mem)) : Nat → Int32 → Int32 → Int32 → Mem → Option (Int32 × Mem)
  | 0, _, _, _, _ => none
  | n + 1, l3, l4, l5, g => al g 66 50 (4 : Int32) fun v6 => (if v6 ≤ l5 then (K l3 l4 l5 g) else (cl (fX7_isOpen l5 g) fun r7 g8 => (if r7 = 0 then (lt ((l3 + (0 : Int32))) fun x9 => (cl (fX7_isOpen l5 g8) fun r10 g11 => (if r10 = 0 then (lt ((l4 + (0 : Int32))) fun x12 => (fX7_chance_L43 l1 l2 K n x9 x12 (l5 + (1 : Int32)) g11)) else (cl (fX7_saysAt l1 l5 g11) fun r13 g14 => (cl (fX7_answerAt l5 g14) fun r15 g16 => (if r13 = r15 then (lt ((l4 + (1 : Int32))) fun x17 => (fX7_chance_L43 l1 l2 K n x9 x17 (l5 + (1 : Int32)) g16)) else (lt ((l4 + (0 : Int32))) fun x18 => (fX7_chance_L43 l1 l2 K n x9 x18 (l5 + (1 : Int32)) g16)))))))) else (lt ((l3 + (1 : Int32))) fun x19 => (cl (fX7_isOpen l5 g8) fun r20 g21 => (if r20 = 0 then (lt ((l4 + (0 : Int32))) fun x22 => (fX7_chance_L43 l1 l2 K n x19 x22 (l5 + (1 : Int32)) g21)) else (cl (fX7_saysAt l1 l5 g21) fun r23 g24 => (cl (fX7_answerAt l5 g24) fun r25 g26 => (if r23 = r25 then (lt ((l4 + (1 : Int32))) fun x27 => (fX7_chance_L43 l1 l2 K n x19 x27 (l5 + (1 : Int32)) g26)) else (lt ((l4 + (0 : Int32))) fun x28 => (fX7_chance_L43 l1 l2 K n x19 x28 (l5 + (1 : Int32)) g26)))))))))))
def fX7_chance_L159 (l1 : Int32) (l2 : Int32) (l3 : Int32) (l4 : Int32) (l5 : Int32) (l6 : Int32) (l7 : Int32) (K : Int32 → Int32 → Mem → Option (Int32 × Mem)) : Nat → Int32 → Int32 → Mem → Option (Int32 × Mem)
  | 0, _, _, _ => none
  | n + 1, l8, l9, g => if l9 ≤ 0 then (K l8 l9 g) else (nz l9 (lt ((irm l8 l9)) fun x39 => (fX7_chance_L159 l1 l2 l3 l4 l5 l6 l7 K n l9 x39 g)))
def fX7_chance (a0 : Int32) (a1 : Int32) (g : Mem) : Option (Int32 × Mem) :=
  cl (fX7_isSuitorAt a0 g) fun r1 g2 => (if r1 = 0 then (some ((-1000001 : Int32), g2)) else (cl (fX7_in a1 (0 : Int32) (1 : Int32) g2) fun r3 g4 => (if r3 = 0 then (some ((-1000001 : Int32), g4)) else (al g4 66 50 ((38 : Int32) + a0) fun v5 => (if v5 = 0 then (fX7_chance_L43 a0 a1 (fun l29 l30 l31 g32 => al g32 66 50 ((42 : Int32) + a0) fun v33 => (lt (((3 : Int32) - v33)) fun x34 => (if x34 ≤ l29 then (cl (fX7_over l30 x34 g32) fun r35 g36 => (cl (fX7_over l29 x34 g36) fun r37 g38 => (fX7_chance_L159 a0 a1 l29 l30 x34 r35 r37 (fun l40 l41 g42 => if a1 = 0 then (nz l40 (some ((r35 / l40), g42))) else (nz l40 (some ((r37 / l40), g42)))) FU r35 r37 g38))) else (some ((-1000000 : Int32), g32))))) FU (0 : Int32) (0 : Int32) (0 : Int32) g4) else (some ((-1000002 : Int32), g4)))))))
def fX7_toBuy_L45 (l1 : Int32) (l2 : Int32) (l3 : Int32) (l4 : Int32) (l5 : Int32) (K : Int32 → Int32 → Mem → Option (Int32 × Mem)) : Nat → Int32 → Int32 → Mem → Option (Int32 × Mem)
  | 0, _, _, _ => none
  | n + 1, l6, l7, g => al g 66 50 (4 : Int32) fun v6 => (if v6 ≤ l7 then (K l6 l7 g) else (if l6 = 0 then (cl (fX7_isOpen l7 g) fun r7 g8 => (if r7 = 0 then (fX7_toBuy_L45 l1 l2 l3 l4 l5 K n (0 : Int32) (l7 + (1 : Int32)) g8) else (cl (fX7_answerAt l7 g8) fun r9 g10 => (if r9 = l5 then (fX7_toBuy_L45 l1 l2 l3 l4 l5 K n (1 : Int32) (l7 + (1 : Int32)) g10) else (fX7_toBuy_L45 l1 l2 l3 l4 l5 K n (0 : Int32) (l7 + (1 : Int32)) g10))))) else (fX7_toBuy_L45 l1 l2 l3 l4 l5 K n (1 : Int32) (l7 + (1 : Int32)) g)))
def fX7_toBuy_L28 (l1 : Int32) (l2 : Int32) (K : Int32 → Int32 → Int32 → Mem → Option (Int32 × Mem)) : Nat → Int32 → Int32 → Int32 → Mem → Option (Int32 × Mem)
  | 0, _, _, _, _ => none
  | n + 1, l3, l4, l5, g => al g 66 50 (3 : Int32) fun v5 => (if v5 ≤ l5 then (K l3 l4 l5 g) else (fX7_toBuy_L45 l1 l2 l3 l4 l5 (fun l11 l12 g13 => if l11 = 0 then (fX7_toBuy_L28 l1 l2 K n l3 l4 (l5 + (1 : Int32)) g13) else (al g13 66 50 ((34 : Int32) + l1) fun v14 => (cl (fX7_has v14 l5 g13) fun r15 g16 => (if r15 = 0 then (lt ((l3 ||| ((1 : Int32) <<< (l5 &&& 31)))) fun x17 => (cl (fX7_costOf l5 g16) fun r18 g19 => (lt ((l4 + r18)) fun x20 => (fX7_toBuy_L28 l1 l2 K n x17 x20 (l5 + (1 : Int32)) g19)))) else (fX7_toBuy_L28 l1 l2 K n l3 l4 (l5 + (1 : Int32)) g16))))) FU (0 : Int32) (0 : Int32) g))
def fX7_toBuy (a0 : Int32) (a1 : Int32) (g : Mem) : Option (Int32 × Mem) :=
  cl (fX7_isSuitorAt a0 g) fun r1 g2 => (if r1 = 0 then (some ((-1000001 : Int32), g2)) else (cl (fX7_in a1 (0 : Int32) (1 : Int32) g2) fun r3 g4 => (if r3 = 0 then (some ((-1000001 : Int32), g4)) else (fX7_toBuy_L28 a0 a1 (fun l21 l22 l23 g24 => if a1 = 0 then (some (l21, g24)) else (some (l22, g24))) FU (0 : Int32) (0 : Int32) (0 : Int32) g4))))
def fX7_beats_L14 (K : Int32 → Int32 → Mem → Option (Int32 × Mem)) : Nat → Int32 → Int32 → Mem → Option (Int32 × Mem)
  | 0, _, _, _ => none
  | n + 1, l1, l2, g => al g 66 50 (4 : Int32) fun v3 => (if v3 ≤ l2 then (K l1 l2 g) else (cl (fX7_isOpen l2 g) fun r4 g5 => (if r4 = 0 then (lt ((l1 ||| (0 : Int32))) fun x6 => (fX7_beats_L14 K n x6 (l2 + (1 : Int32)) g5)) else (cl (fX7_sheSaysAt l2 g5) fun r7 g8 => (cl (fX7_answerAt l2 g8) fun r9 g10 => (if r7 = r9 then (lt ((l1 ||| (0 : Int32))) fun x11 => (fX7_beats_L14 K n x11 (l2 + (1 : Int32)) g10)) else (lt ((l1 ||| ((1 : Int32) <<< (l2 &&& 31)))) fun x12 => (fX7_beats_L14 K n x12 (l2 + (1 : Int32)) g10))))))))
def fX7_beats (g : Mem) : Option (Int32 × Mem) :=
  cl (fX7_isCourt g) fun r1 g2 => (if r1 = 0 then (some ((-1000002 : Int32), g2)) else (fX7_beats_L14 (fun l13 l14 g15 => some (l13, g15)) FU (0 : Int32) (0 : Int32) g2))
def fX7_havers_L5 (l1 : Int32) (l2 : Int32) (K : Int32 → Int32 → Mem → Option (Int32 × Mem)) : Nat → Int32 → Int32 → Mem → Option (Int32 × Mem)
  | 0, _, _, _ => none
  | n + 1, l3, l4, g => al g 66 50 (3 : Int32) fun v1 => (if v1 ≤ l4 then (K l3 l4 g) else (cl (fX7_has l1 l4 g) fun r2 g3 => (if r2 = 0 then (lt ((l3 ||| (0 : Int32))) fun x4 => (fX7_havers_L5 l1 l2 K n x4 (l4 + (1 : Int32)) g3)) else (al g3 66 50 ((8 : Int32) + l4) fun v5 => (cl (fX7_has v5 l2 g3) fun r6 g7 => (if r6 = 0 then (lt ((l3 ||| (0 : Int32))) fun x8 => (fX7_havers_L5 l1 l2 K n x8 (l4 + (1 : Int32)) g7)) else (lt ((l3 ||| ((1 : Int32) <<< (l4 &&& 31)))) fun x9 => (fX7_havers_L5 l1 l2 K n x9 (l4 + (1 : Int32)) g7))))))))
def fX7_havers (a0 : Int32) (a1 : Int32) (g : Mem) : Option (Int32 × Mem) :=
  fX7_havers_L5 a0 a1 (fun l10 l11 g12 => some (l10, g12)) FU (0 : Int32) (0 : Int32) g
def fX7_deepBy (a0 : Int32) (a1 : Int32) (g : Mem) : Option (Int32 × Mem) :=
  cl (fX7_havers a0 a1 g) fun r1 g2 => (lt ((a0 &&& (r1 ^^^ (-1 : Int32)))) fun x3 => (if r1 = 0 then (some ((-1 : Int32), g2)) else (if x3 = 0 then (some ((-1 : Int32), g2)) else (al g2 72 256 r1 fun v4 => (if v4 < 0 then (some ((-1 : Int32), g2)) else (al g2 72 256 x3 fun v5 => (if 0 ≤ v5 then (al g2 72 256 r1 fun v6 => (al g2 72 256 x3 fun v7 => (if v6 ≤ v7 then (al g2 72 256 x3 fun v8 => (some (((1 : Int32) + v8), g2))) else (al g2 72 256 r1 fun v9 => (some (((1 : Int32) + v9), g2)))))) else (some ((-1 : Int32), g2)))))))))
def fX7_tree_L73 (l1 : Int32) (l2 : Int32) (l4 : Int32) (K : Int32 → Int32 → Mem → Option (Int32 × Mem)) : Nat → Int32 → Int32 → Mem → Option (Int32 × Mem)
  | 0, _, _, _ => none
  | n + 1, l3, l5, g => if (5 : Int32) ≤ l5 then (K l3 l5 g) else (cl (fX7_bits l4 g) fun r12 g13 => (if (2 : Int32) ≤ r12 then (cl (fX7_deepBy l4 l5 g13) fun r14 g15 => (if r14 < 0 then (fX7_tree_L73 l1 l2 l4 K n l3 (l5 + (1 : Int32)) g15) else (al g15 72 256 l4 fun v16 => (if v16 < 0 then (as_ g15 72 256 l4 r14 fun g17 => (fX7_tree_L73 l1 l2 l4 K n l5 (l5 + (1 : Int32)) g17)) else (al g15 72 256 l4 fun v18 => (if v18 ≤ r14 then (fX7_tree_L73 l1 l2 l4 K n l3 (l5 + (1 : Int32)) g15) else (as_ g15 72 256 l4 r14 fun g19 => (fX7_tree_L73 l1 l2 l4 K n l5 (l5 + (1 : Int32)) g19)))))))) else (if (-1 : Int32) < 0 then (fX7_tree_L73 l1 l2 l4 K n l3 (l5 + (1 : Int32)) g13) else (al g13 72 256 l4 fun v20 => (if v20 < 0 then (as_ g13 72 256 l4 (-1 : Int32) fun g21 => (fX7_tree_L73 l1 l2 l4 K n l5 (l5 + (1 : Int32)) g21)) else (al g13 72 256 l4 fun v22 => (if v22 ≤ (-1 : Int32) then (fX7_tree_L73 l1 l2 l4 K n l3 (l5 + (1 : Int32)) g13) else (as_ g13 72 256 l4 (-1 : Int32) fun g23 => (fX7_tree_L73 l1 l2 l4 K n l5 (l5 + (1 : Int32)) g23)))))))))
def fX7_tree_L40 (l1 : Int32) (l2 : Int32) (K : Int32 → Int32 → Mem → Option (Int32 × Mem)) : Nat → Int32 → Int32 → Mem → Option (Int32 × Mem)
  | 0, _, _, _ => none
  | n + 1, l3, l4, g => if l1 < l4 then (K l3 l4 g) else (cl (fX7_bits l4 g) fun r9 g10 => (if (2 : Int32) ≤ r9 then (as_ g10 72 256 l4 (-1 : Int32) fun g11 => (fX7_tree_L73 l1 l2 l4 (fun l24 l25 g26 => fX7_tree_L40 l1 l2 K n l24 (l4 + (1 : Int32)) g26) FU (-1000000 : Int32) (0 : Int32) g11)) else (as_ g10 72 256 l4 (0 : Int32) fun g27 => (fX7_tree_L73 l1 l2 l4 (fun l28 l29 g30 => fX7_tree_L40 l1 l2 K n l28 (l4 + (1 : Int32)) g30) FU (-1000000 : Int32) (0 : Int32) g27))))
def fX7_tree (a0 : Int32) (a1 : Int32) (g : Mem) : Option (Int32 × Mem) :=
  cl (fX7_isCourt g) fun r1 g2 => (if r1 = 0 then (some ((-1000002 : Int32), g2)) else (cl (fX7_everything g2) fun r3 g4 => (cl (fX7_in a0 (0 : Int32) r3 g4) fun r5 g6 => (if r5 = 0 then (some ((-1000001 : Int32), g6)) else (cl (fX7_in a1 (0 : Int32) (1 : Int32) g6) fun r7 g8 => (if r7 = 0 then (some ((-1000001 : Int32), g8)) else (fX7_tree_L40 a0 a1 (fun l31 l32 g33 => if a1 = (1 : Int32) then (some (l31, g33)) else (al g33 72 256 a0 fun v34 => (if 0 ≤ v34 then (al g33 72 256 a0 fun v35 => (some (v35, g33))) else (some ((-1000000 : Int32), g33))))) FU (-1000000 : Int32) (0 : Int32) g8)))))))
def fX7_said_L78 (l1 : Int32) (l2 : Int32) (l3 : Int32) (l4 : Int32) (l5 : Int32) (K : Int32 → Mem → Option (Int32 × Mem)) : Nat → Int32 → Mem → Option (Int32 × Mem)
  | 0, _, _ => none
  | n + 1, l6, g => if l4 ≤ l6 then (K l6 g) else (al g 64 320 ((((40 : Int32) * l2) + l3) + l6) fun v15 => (if v15 = (-1 : Int32) then (fX7_said_L78 l1 l2 l3 l4 l5 K n (l6 + (1 : Int32)) g) else (cl (fX7_isThingAt v15 g) fun r16 g17 => (if r16 = 0 then (some ((-1000001 : Int32), g17)) else (fX7_said_L78 l1 l2 l3 l4 l5 K n (l6 + (1 : Int32)) g17)))))
def fX7_said_L131 (l1 : Int32) (l2 : Int32) (l3 : Int32) (l4 : Int32) (l5 : Int32) (K : Int32 → Int32 → Mem → Option (Int32 × Mem)) : Nat → Int32 → Int32 → Mem → Option (Int32 × Mem)
  | 0, _, _, _ => none
  | n + 1, l6, l7, g => if l4 ≤ l7 then (K l6 l7 g) else (al g 66 50 (4 : Int32) fun v20 => (lt ((l6 * v20)) fun x21 => (fX7_said_L131 l1 l2 l3 l4 l5 K n x21 (l7 + (1 : Int32)) g)))
def fX7_said_L184 (l1 : Int32) (l2 : Int32) (l3 : Int32) (l4 : Int32) (l5 : Int32) (l6 : Int32) (l7 : Int32) (l8 : Int32) (l9 : Int32) (K : Int32 → Int32 → Int32 → Int32 → Mem → Option (Int32 × Mem)) : Nat → Int32 → Int32 → Int32 → Int32 → Mem → Option (Int32 × Mem)
  | 0, _, _, _, _, _ => none
  | n + 1, l10, l11, l12, l13, g => if l4 ≤ l13 then (K l10 l11 l12 l13 g) else (al g 66 50 (4 : Int32) fun v25 => (nz v25 (lt ((irm l10 v25)) fun x26 => (al g 66 50 (4 : Int32) fun v27 => (nz v27 (lt ((l10 / v27)) fun x28 => (al g 64 320 ((((40 : Int32) * l2) + l3) + l13) fun v29 => (if l12 = 0 then (lt ((l11 ||| ((1 : Int32) <<< (x26 &&& 31)))) fun x30 => (fX7_said_L184 l1 l2 l3 l4 l5 l6 l7 l8 l9 K n x28 x30 (0 : Int32) (l13 + (1 : Int32)) g)) else (cl (fX7_has l11 x26 g) fun r31 g32 => (if r31 = 0 then (cl (fX7_saysAt l1 x26 g32) fun r33 g34 => (if v29 = (-1 : Int32) then (if r33 = (-1000000 : Int32) then (lt ((l11 ||| ((1 : Int32) <<< (x26 &&& 31)))) fun x35 => (fX7_said_L184 l1 l2 l3 l4 l5 l6 l7 l8 l9 K n x28 x35 (1 : Int32) (l13 + (1 : Int32)) g34)) else (lt ((l11 ||| ((1 : Int32) <<< (x26 &&& 31)))) fun x36 => (fX7_said_L184 l1 l2 l3 l4 l5 l6 l7 l8 l9 K n x28 x36 (0 : Int32) (l13 + (1 : Int32)) g34))) else (if r33 = v29 then (lt ((l11 ||| ((1 : Int32) <<< (x26 &&& 31)))) fun x37 => (fX7_said_L184 l1 l2 l3 l4 l5 l6 l7 l8 l9 K n x28 x37 (1 : Int32) (l13 + (1 : Int32)) g34)) else (lt ((l11 ||| ((1 : Int32) <<< (x26 &&& 31)))) fun x38 => (fX7_said_L184 l1 l2 l3 l4 l5 l6 l7 l8 l9 K n x28 x38 (0 : Int32) (l13 + (1 : Int32)) g34))))) else (lt ((l11 ||| ((1 : Int32) <<< (x26 &&& 31)))) fun x39 => (fX7_said_L184 l1 l2 l3 l4 l5 l6 l7 l8 l9 K n x28 x39 (0 : Int32) (l13 + (1 : Int32)) g32))))))))))))
def fX7_said_L164 (l1 : Int32) (l2 : Int32) (l3 : Int32) (l4 : Int32) (l5 : Int32) (l6 : Int32) (K : Int32 → Int32 → Int32 → Mem → Option (Int32 × Mem)) : Nat → Int32 → Int32 → Int32 → Mem → Option (Int32 × Mem)
  | 0, _, _, _, _ => none
  | n + 1, l7, l8, l9, g => if l6 ≤ l9 then (K l7 l8 l9 g) else (fX7_said_L184 l1 l2 l3 l4 l5 l6 l7 l8 l9 (fun l40 l41 l42 l43 g44 => if l42 = 0 then (fX7_said_L164 l1 l2 l3 l4 l5 l6 K n l7 l8 (l9 + (1 : Int32)) g44) else (if l7 = 0 then (fX7_said_L164 l1 l2 l3 l4 l5 l6 K n (l7 + (1 : Int32)) l41 (l9 + (1 : Int32)) g44) else (lt ((l8 &&& l41)) fun x45 => (fX7_said_L164 l1 l2 l3 l4 l5 l6 K n (l7 + (1 : Int32)) x45 (l9 + (1 : Int32)) g44)))) FU l9 (0 : Int32) (1 : Int32) (0 : Int32) g)
def fX7_said (a0 : Int32) (a1 : Int32) (a2 : Int32) (a3 : Int32) (a4 : Int32) (g : Mem) : Option (Int32 × Mem) :=
  cl (fX7_isSuitorAt a0 g) fun r1 g2 => (if r1 = 0 then (some ((-1000001 : Int32), g2)) else (cl (fX7_isRow a1 g2) fun r3 g4 => (if r3 = 0 then (some ((-1000001 : Int32), g4)) else (cl (fX7_in a3 (1 : Int32) (6 : Int32) g4) fun r5 g6 => (if r5 = 0 then (some ((-1000001 : Int32), g6)) else (cl (fX7_in a4 (0 : Int32) (1 : Int32) g6) fun r7 g8 => (if r7 = 0 then (some ((-1000001 : Int32), g8)) else (al g8 62 8 a1 fun v9 => (if 0 ≤ v9 then (al g8 63 8 a1 fun v10 => (cl (fX7_isPart a2 a3 v10 g8) fun r11 g12 => (if r11 = 0 then (cl (fX7_finds (2 : Int32) g12) fun r13 g14 => (some (r13, g14))) else (fX7_said_L78 a0 a1 a2 a3 a4 (fun l18 g19 => fX7_said_L131 a0 a1 a2 a3 a4 (fun l22 l23 g24 => fX7_said_L164 a0 a1 a2 a3 a4 l22 (fun l46 l47 l48 g49 => if a4 = 0 then (cl (fX7_done l46 g49) fun r50 g51 => (some (r50, g51))) else (cl (fX7_done l47 g49) fun r52 g53 => (some (r52, g53)))) FU (0 : Int32) (0 : Int32) (0 : Int32) g24) FU (1 : Int32) (0 : Int32) g19) FU (0 : Int32) g12)))) else (cl (fX7_finds (1 : Int32) g8) fun r54 g55 => (some (r54, g55))))))))))))
def fX7_image (a0 : Int32) (g : Mem) : Option (Int32 × Mem) :=
  cl (fX7_in a0 (0 : Int32) (1 : Int32) g) fun r1 g2 => (if r1 = 0 then (some ((-1000001 : Int32), g2)) else (cl (fX7_isCourt g2) fun r3 g4 => (if r3 = 0 then (some ((-1000002 : Int32), g4)) else (cl (fX7_lay 66 50 (0 : Int32) 68 100 ((50 : Int32) * a0) g4) fun r5 g6 => (as_ g6 69 2 a0 (1 : Int32) fun g7 => (some ((1 : Int32), g7)))))))
def fX7_restore (a0 : Int32) (g : Mem) : Option (Int32 × Mem) :=
  cl (fX7_in a0 (0 : Int32) (1 : Int32) g) fun r1 g2 => (if r1 = 0 then (some ((-1000001 : Int32), g2)) else (al g2 69 2 a0 fun v3 => (if v3 = 0 then (some ((-1000002 : Int32), g2)) else (cl (fX7_lay 68 100 ((50 : Int32) * a0) 66 50 (0 : Int32) g2) fun r4 g5 => (pf g5 61 17 (0 : Int32) fun g6 => (some ((1 : Int32), g6)))))))
def fX7_kindAt (a0 : Int32) (g : Mem) : Option (Int32 × Mem) :=
  al g 66 50 ((16 : Int32) + a0) fun v1 => (some (v1, g))
def fX7_kind (a0 : Int32) (g : Mem) : Option (Int32 × Mem) :=
  cl (fX7_isRiddleAt a0 g) fun r1 g2 => (if r1 = 0 then (some ((-1000001 : Int32), g2)) else (cl (fX7_kindAt a0 g2) fun r3 g4 => (some (r3, g4))))
def fX7_parentOf (a0 : Int32) (g : Mem) : Option (Int32 × Mem) :=
  if a0 = (1 : Int32) then (some ((0 : Int32), g)) else (if a0 = (4 : Int32) then (some ((0 : Int32), g)) else (if a0 = (5 : Int32) then (some ((4 : Int32), g)) else (some ((1 : Int32), g))))
def fX7_as (a0 : Int32) (a1 : Int32) (g : Mem) : Option (Int32 × Mem) :=
  cl (fX7_isRiddleAt a0 g) fun r1 g2 => (if r1 = 0 then (some ((-1000001 : Int32), g2)) else (cl (fX7_in a1 (0 : Int32) (5 : Int32) g2) fun r3 g4 => (if r3 = 0 then (some ((-1000001 : Int32), g4)) else (cl (fX7_kindAt a0 g4) fun r5 g6 => (if a1 = 0 then (cl (fX7_done a0 g6) fun r7 g8 => (some (r7, g8))) else (if r5 = a1 then (cl (fX7_done a0 g6) fun r9 g10 => (some (r9, g10))) else (cl (fX7_parentOf r5 g6) fun r11 g12 => (if r11 = a1 then (cl (fX7_done a0 g12) fun r13 g14 => (some (r13, g14))) else (cl (fX7_finds (3 : Int32) g12) fun r15 g16 => (some (r15, g16)))))))))))
def fX7_begins (a0 : Int32) (g : Mem) : Option (Int32 × Mem) :=
  if (16 : Int32) ≤ (g 61 19) then (some (0, g)) else (as_ g 71 16 (g 61 19) a0 fun g1 => (pf g1 61 19 ((g1 61 19) + (1 : Int32)) fun g2 => (some (0, g2))))
def fX7_markPlain (a0 : Int32) (g : Mem) : Option (Int32 × Mem) :=
  cl (fX7_begins (21 : Int32) g) fun r1 g2 => (cl (fX7_begins (20 : Int32) g2) fun r3 g4 => (al g4 66 50 ((22 : Int32) + a0) fun v5 => (some ((a0 + v5), g4))))
def fX7_markByKind (a0 : Int32) (g : Mem) : Option (Int32 × Mem) :=
  cl (fX7_kindAt a0 g) fun r1 g2 => (if r1 = (2 : Int32) then (cl (fX7_begins (24 : Int32) g2) fun r3 g4 => (cl (fX7_markPlain a0 g4) fun r5 g6 => (some (((2 : Int32) * r5), g6)))) else (if r1 = (3 : Int32) then (cl (fX7_begins (22 : Int32) g2) fun r7 g8 => (cl (fX7_markPlain a0 g8) fun r9 g10 => (some ((r9 - (1000 : Int32)), g10)))) else (cl (fX7_markPlain a0 g2) fun r11 g12 => (some (r11, g12)))))
def fX7_sizeLying (a0 : Int32) (g : Mem) : Option (Int32 × Mem) :=
  cl (fX7_begins (13 : Int32) g) fun r1 g2 => (cl (fX7_begins (10 : Int32) g2) fun r3 g4 => (cl (fX7_fittersAt a0 g4) fun r5 g6 => (cl (fX7_bits r5 g6) fun r7 g8 => (some ((r7 - (100 : Int32)), g8)))))
def fX7_sizeOf (a0 : Int32) (g : Mem) : Option (Int32 × Mem) :=
  cl (fX7_kindAt a0 g) fun r1 g2 => (if r1 = (5 : Int32) then (cl (fX7_begins (14 : Int32) g2) fun r3 g4 => (cl (fX7_sizeLying a0 g4) fun r5 g6 => (some (((2 : Int32) * r5), g6)))) else (if r1 = (4 : Int32) then (cl (fX7_sizeLying a0 g2) fun r7 g8 => (some (r7, g8))) else (if r1 = (2 : Int32) then (cl (fX7_begins (12 : Int32) g2) fun r9 g10 => (cl (fX7_begins (11 : Int32) g10) fun r11 g12 => (cl (fX7_begins (10 : Int32) g12) fun r13 g14 => (cl (fX7_fittersAt a0 g14) fun r15 g16 => (cl (fX7_bits r15 g16) fun r17 g18 => (cl (fX7_markByKind a0 g18) fun r19 g20 => (lt ((r17 + r19)) fun x21 => (if r1 = (2 : Int32) then (some ((-x21), g20)) else (some (x21, g20)))))))))) else (cl (fX7_begins (11 : Int32) g2) fun r22 g23 => (cl (fX7_begins (10 : Int32) g23) fun r24 g25 => (cl (fX7_fittersAt a0 g25) fun r26 g27 => (cl (fX7_bits r26 g27) fun r28 g29 => (cl (fX7_markByKind a0 g29) fun r30 g31 => (lt ((r28 + r30)) fun x32 => (if r1 = (2 : Int32) then (some ((-x32), g31)) else (some (x32, g31))))))))))))
def fX7_markOf (a0 : Int32) (g : Mem) : Option (Int32 × Mem) :=
  cl (fX7_kindAt a0 g) fun r1 g2 => (if (4 : Int32) ≤ r1 then (cl (fX7_begins (23 : Int32) g2) fun r3 g4 => (cl (fX7_begins (20 : Int32) g4) fun r5 g6 => (cl (fX7_sizeOf a0 g6) fun r7 g8 => (some ((a0 - r7), g8))))) else (cl (fX7_markByKind a0 g2) fun r9 g10 => (some (r9, g10))))
def fX7_ask (a0 : Int32) (a1 : Int32) (g : Mem) : Option (Int32 × Mem) :=
  cl (fX7_isRiddleAt a0 g) fun r1 g2 => (if r1 = 0 then (some ((-1000001 : Int32), g2)) else (cl (fX7_in a1 (0 : Int32) (1 : Int32) g2) fun r3 g4 => (if r3 = 0 then (some ((-1000001 : Int32), g4)) else (pf g4 61 19 (0 : Int32) fun g5 => (if a1 = 0 then (cl (fX7_sizeOf a0 g5) fun r6 g7 => (some (r6, g7))) else (cl (fX7_markOf a0 g5) fun r8 g9 => (some (r8, g9))))))))
def fX7_trace (a0 : Int32) (g : Mem) : Option (Int32 × Mem) :=
  cl (fX7_in a0 (0 : Int32) ((g 61 19) - (1 : Int32)) g) fun r1 g2 => (if r1 = 0 then (some ((-1000000 : Int32), g2)) else (al g2 71 16 a0 fun v3 => (some (v3, g2))))
def fX7_count_L4 (l1 : Int32) (K : Int32 → Int32 → Mem → Option (Int32 × Mem)) : Nat → Int32 → Int32 → Mem → Option (Int32 × Mem)
  | 0, _, _, _ => none
  | n + 1, l2, l3, g => if (8 : Int32) ≤ l3 then (K l2 l3 g) else (al g 62 8 l3 fun v1 => (if 0 ≤ v1 then (lt ((l2 + (1 : Int32))) fun x2 => (fX7_count_L4 l1 K n x2 (l3 + (1 : Int32)) g)) else (lt ((l2 + (0 : Int32))) fun x3 => (fX7_count_L4 l1 K n x3 (l3 + (1 : Int32)) g))))
def fX7_count_L38 (l1 : Int32) (l2 : Int32) (K : Int32 → Int32 → Mem → Option (Int32 × Mem)) : Nat → Int32 → Int32 → Mem → Option (Int32 × Mem)
  | 0, _, _, _ => none
  | n + 1, l3, l4, g => if (4 : Int32) ≤ l4 then (K l3 l4 g) else (al g 66 50 ((38 : Int32) + l4) fun v7 => (if v7 = (1 : Int32) then (lt ((l3 + (1 : Int32))) fun x8 => (fX7_count_L38 l1 l2 K n x8 (l4 + (1 : Int32)) g)) else (lt ((l3 + (0 : Int32))) fun x9 => (fX7_count_L38 l1 l2 K n x9 (l4 + (1 : Int32)) g))))
def fX7_count (a0 : Int32) (g : Mem) : Option (Int32 × Mem) :=
  fX7_count_L4 a0 (fun l4 l5 g6 => fX7_count_L38 a0 l4 (fun l10 l11 g12 => if a0 = (0 : Int32) then (some (l4, g12)) else (if a0 = (1 : Int32) then (al g12 66 50 (3 : Int32) fun v15 => (some (v15, g12))) else (if a0 = (2 : Int32) then (al g12 66 50 (4 : Int32) fun v17 => (some (v17, g12))) else (if a0 = (3 : Int32) then (al g12 66 50 (5 : Int32) fun v19 => (some (v19, g12))) else (if a0 = (4 : Int32) then (al g12 66 50 (6 : Int32) fun v21 => (some (v21, g12))) else (if a0 = (5 : Int32) then (some (l10, g12)) else (if a0 = (6 : Int32) then (al g12 66 50 (7 : Int32) fun v24 => (some (v24, g12))) else (if a0 = (7 : Int32) then (al g12 66 50 (1 : Int32) fun v26 => (some (v26, g12))) else (if a0 = (8 : Int32) then (some ((g12 61 17), g12)) else (if a0 = (9 : Int32) then (some ((g12 61 4), g12)) else (some ((-1000001 : Int32), g12)))))))))))) FU (0 : Int32) (0 : Int32) g6) FU (0 : Int32) (0 : Int32) g
def fX7_status (g : Mem) : Option (Int32 × Mem) :=
  some ((g 61 3), g)
