/-! ===== the methods, and what the tables say of each ===== -/
/-- the tables' words that hold everywhere -/
def fc_G : List Cond := lw_tbl.filter goodWord
theorem fc_G_of {w : Cond} (i : Nat) (h : lw_tbl[i]? = some w) (hg : goodWord w = true) : w ∈ fc_G := List.mem_filter.mpr ⟨List.mem_of_getElem? h, hg⟩
/-- a method: name, code, locals, kind of answer -/
abbrev fc_M : Type := MethodName × ByteArray × Nat × Option FieldType
/-- what the tables say of a callee of n parameters -/
def fc_mw (z : fc_M) (n : Nat) : Prop := Cond.code z.1 z.2.1 z.2.2.1 z.2.2.2 ∈ fc_G ∧ Cond.initialized z.1.cls ∈ fc_G ∧ (z.1.cls ≠ "java/lang/invoke/MethodHandle" ∧ z.1.cls ≠ "java/lang/invoke/VarHandle" ∧ (parseMethodDescriptor z.1.desc).map (fun d => d.parameters.length) = some n) ∧ z.2.2.1 ≤ 45
def mX0_clear : fc_M := (yX0_clear, cX0_clear, 1, none)
def mX0_indexOf : fc_M := (yX0_indexOf, cX0_indexOf, 5, some .int)
def mX0_isTold : fc_M := (yX0_isTold, cX0_isTold, 3, some .boolean)
def mX0_hasPlace : fc_M := (yX0_hasPlace, cX0_hasPlace, 2, some .boolean)
def mX0_hasPerson : fc_M := (yX0_hasPerson, cX0_hasPerson, 2, some .boolean)
def mX0_hasThing : fc_M := (yX0_hasThing, cX0_hasThing, 2, some .boolean)
def mX0_isAwake : fc_M := (yX0_isAwake, cX0_isAwake, 3, some .boolean)
def mX0_sleepOf : fc_M := (yX0_sleepOf, cX0_sleepOf, 3, some .int)
def mX0_awakeBits : fc_M := (yX0_awakeBits, cX0_awakeBits, 4, some .int)
def mX1_read : fc_M := (yX1_read, cX1_read, 5, some .int)
def mX1_isNewName : fc_M := (yX1_isNewName, cX1_isNewName, 2, some .boolean)
def mX1_readPlace : fc_M := (yX1_readPlace, cX1_readPlace, 3, some .boolean)
def mX1_readPath : fc_M := (yX1_readPath, cX1_readPath, 5, some .boolean)
def mX1_readPerson : fc_M := (yX1_readPerson, cX1_readPerson, 5, some .boolean)
def mX1_readThing : fc_M := (yX1_readThing, cX1_readThing, 5, some .boolean)
def mX1_readSmoke : fc_M := (yX1_readSmoke, cX1_readSmoke, 3, some .boolean)
def mX1_readBinds : fc_M := (yX1_readBinds, cX1_readBinds, 3, some .boolean)
def mX2_write : fc_M := (yX2_write, cX2_write, 2, none)
def mX2_valueAt : fc_M := (yX2_valueAt, cX2_valueAt, 8, some .int)
def mX2_operand : fc_M := (yX2_operand, cX2_operand, 5, some .int)
def mX2_joined : fc_M := (yX2_joined, cX2_joined, 3, some .int)
def mX3_read : fc_M := (yX3_read, cX3_read, 4, some .boolean)
def mX3_readPart : fc_M := (yX3_readPart, cX3_readPart, 5, some .boolean)
def mX3_readBehind : fc_M := (yX3_readBehind, cX3_readBehind, 5, some .boolean)
def mX3_closeNots : fc_M := (yX3_closeNots, cX3_closeNots, 2, none)
def mX3_await : fc_M := (yX3_await, cX3_await, 2, none)
def mX3_writeDown : fc_M := (yX3_writeDown, cX3_writeDown, 3, none)
def mX3_rankOf : fc_M := (yX3_rankOf, cX3_rankOf, 1, some .int)
def mX4_forget : fc_M := (yX4_forget, cX4_forget, 2, none)
def mX4_keep : fc_M := (yX4_keep, cX4_keep, 2, none)
def mX4_bringBack : fc_M := (yX4_bringBack, cX4_bringBack, 2, some .boolean)
def mX4_lay : fc_M := (yX4_lay, cX4_lay, 4, none)
def mX4_goBack : fc_M := (yX4_goBack, cX4_goBack, 4, some .boolean)
def mX5_read : fc_M := (yX5_read, cX5_read, 4, some .int)
def mX5_readLine : fc_M := (yX5_readLine, cX5_readLine, 4, some .boolean)
def mX5_readNames : fc_M := (yX5_readNames, cX5_readNames, 6, some .boolean)
def mX5_play : fc_M := (yX5_play, cX5_play, 6, some .int)
def mX6_add : fc_M := (yX6_add, cX6_add, 4, some .boolean)
def mX6_copy : fc_M := (yX6_copy, cX6_copy, 3, none)
def mX7_begin : fc_M := (yX7_begin, cX7_begin, 3, none)
def mX7_copy : fc_M := (yX7_copy, cX7_copy, 2, none)
def mX7_bitsAt : fc_M := (yX7_bitsAt, cX7_bitsAt, 5, some .int)
def mX7_strayThings : fc_M := (yX7_strayThings, cX7_strayThings, 4, some .int)
def mX7_newsOfAll : fc_M := (yX7_newsOfAll, cX7_newsOfAll, 4, some .int)
def mX7_isReady : fc_M := (yX7_isReady, cX7_isReady, 3, some .boolean)
def mX7_minutesOver : fc_M := (yX7_minutesOver, cX7_minutesOver, 5, some .int)
def mX7_canWalk : fc_M := (yX7_canWalk, cX7_canWalk, 4, some .boolean)
def mX7_goTo : fc_M := (yX7_goTo, cX7_goTo, 4, none)
def mX7_canGive : fc_M := (yX7_canGive, cX7_canGive, 5, some .boolean)
def mX7_handOver : fc_M := (yX7_handOver, cX7_handOver, 5, some .boolean)
def mX7_canVow : fc_M := (yX7_canVow, cX7_canVow, 4, some .boolean)
def mX7_pledge : fc_M := (yX7_pledge, cX7_pledge, 5, some .boolean)
def mX7_giftBinds : fc_M := (yX7_giftBinds, cX7_giftBinds, 5, some .boolean)
def mX7_isBinding : fc_M := (yX7_isBinding, cX7_isBinding, 9, some .boolean)
def mX7_pass : fc_M := (yX7_pass, cX7_pass, 3, some .boolean)
def mX7_shareNews : fc_M := (yX7_shareNews, cX7_shareNews, 5, none)
def mX7_riseSmoke : fc_M := (yX7_riseSmoke, cX7_riseSmoke, 2, none)
def mX8_put : fc_M := (yX8_put, cX8_put, 5, none)
def mX8_clear : fc_M := (yX8_clear, cX8_clear, 1, none)
def mX8_open : fc_M := (yX8_open, cX8_open, 1, none)
def mX8_next : fc_M := (yX8_next, cX8_next, 1, none)
def mX8_readWord : fc_M := (yX8_readWord, cX8_readWord, 2, none)
def mX8_readNumber : fc_M := (yX8_readNumber, cX8_readNumber, 1, none)
def mX8_cellIn : fc_M := (yX8_cellIn, cX8_cellIn, 7, some .int)
def mX8_fail : fc_M := (yX8_fail, cX8_fail, 2, some .boolean)
def mX8_take : fc_M := (yX8_take, cX8_take, 2, some .boolean)
def mX8_isNumber : fc_M := (yX8_isNumber, cX8_isNumber, 3, some .boolean)
def mX8_known : fc_M := (yX8_known, cX8_known, 4, some .int)
def mX9_measure : fc_M := (yX9_measure, cX9_measure, 3, none)
def mX9_measureFrom : fc_M := (yX9_measureFrom, cX9_measureFrom, 7, none)
def mX9_neighbours : fc_M := (yX9_neighbours, cX9_neighbours, 4, some .int)
def mX9_spread : fc_M := (yX9_spread, cX9_spread, 6, some .int)
def mX9_isCut : fc_M := (yX9_isCut, cX9_isCut, 5, some .boolean)
def mX9_farthestFrom : fc_M := (yX9_farthestFrom, cX9_farthestFrom, 5, some .int)
def mX9_pathsOfTour : fc_M := (yX9_pathsOfTour, cX9_pathsOfTour, 5, some .int)
def mX9_stepOn : fc_M := (yX9_stepOn, cX9_stepOn, 5, none)
def mX10_feed : fc_M := (yX10_feed, cX10_feed, 7, some .int)
def mX10_land : fc_M := (yX10_land, cX10_land, 3, some .int)
def mX10_morning : fc_M := (yX10_morning, cX10_morning, 3, some .int)
def mX10_place : fc_M := (yX10_place, cX10_place, 3, some .int)
def mX10_person : fc_M := (yX10_person, cX10_person, 3, some .int)
def mX10_thing : fc_M := (yX10_thing, cX10_thing, 3, some .int)
def mX10_walk : fc_M := (yX10_walk, cX10_walk, 3, some .boolean)
def mX10_give : fc_M := (yX10_give, cX10_give, 3, some .int)
def mX10_vow : fc_M := (yX10_vow, cX10_vow, 3, some .int)
def mX10_minute : fc_M := (yX10_minute, cX10_minute, 1, some .boolean)
def mX10_undo : fc_M := (yX10_undo, cX10_undo, 1, some .boolean)
def mX10_judged : fc_M := (yX10_judged, cX10_judged, 6, some .int)
def mX10_soon : fc_M := (yX10_soon, cX10_soon, 3, some .int)
def mX10_meet : fc_M := (yX10_meet, cX10_meet, 5, some .int)
def mX10_all : fc_M := (yX10_all, cX10_all, 6, some .int)
def mX10_tour : fc_M := (yX10_tour, cX10_tour, 3, some .int)
def mX10_intime : fc_M := (yX10_intime, cX10_intime, 4, some .boolean)
def mX10_back : fc_M := (yX10_back, cX10_back, 1, some .int)
def mX10_could : fc_M := (yX10_could, cX10_could, 4, some .int)
def mX10_would : fc_M := (yX10_would, cX10_would, 3, some .boolean)
def mX10_when : fc_M := (yX10_when, cX10_when, 4, some .int)
def mX10_vows : fc_M := (yX10_vows, cX10_vows, 3, some .int)
def mX10_sees : fc_M := (yX10_sees, cX10_sees, 5, some .int)
def mX10_heard : fc_M := (yX10_heard, cX10_heard, 2, some .int)
def mX10_news : fc_M := (yX10_news, cX10_news, 2, some .int)
def mX10_alone : fc_M := (yX10_alone, cX10_alone, 5, some .int)
def mX10_reach : fc_M := (yX10_reach, cX10_reach, 2, some .int)
def mX10_far : fc_M := (yX10_far, cX10_far, 3, some .int)
def mX10_cuts : fc_M := (yX10_cuts, cX10_cuts, 3, some .int)
def mX10_hub : fc_M := (yX10_hub, cX10_hub, 5, some .int)
def mX10_links : fc_M := (yX10_links, cX10_links, 2, some .int)
def mX10_see : fc_M := (yX10_see, cX10_see, 4, some .boolean)
def mX10_who : fc_M := (yX10_who, cX10_who, 3, some .int)
def mX10_ask : fc_M := (yX10_ask, cX10_ask, 7, some .int)
def mX10_wide : fc_M := (yX10_wide, cX10_wide, 6, some .int)
def mX10_has : fc_M := (yX10_has, cX10_has, 3, some .int)
def mX10_sleeps : fc_M := (yX10_sleeps, cX10_sleeps, 2, some .int)
def mX10_rich : fc_M := (yX10_rich, cX10_rich, 6, some .int)
def mX10_chance : fc_M := (yX10_chance, cX10_chance, 6, some .int)
def mX10_rests : fc_M := (yX10_rests, cX10_rests, 7, some .int)
def mX10_mornings : fc_M := (yX10_mornings, cX10_mornings, 6, some .int)
def mX10_mark : fc_M := (yX10_mark, cX10_mark, 3, some .boolean)
def mX10_count : fc_M := (yX10_count, cX10_count, 2, some .int)
def mX10_isFrom : fc_M := (yX10_isFrom, cX10_isFrom, 3, some .boolean)
def mX10_isIn : fc_M := (yX10_isIn, cX10_isIn, 2, some .boolean)
def mX10_orNone : fc_M := (yX10_orNone, cX10_orNone, 1, some .int)
def mX10_pairsIn : fc_M := (yX10_pairsIn, cX10_pairsIn, 3, some .int)
def mX10_thingsOf : fc_M := (yX10_thingsOf, cX10_thingsOf, 5, some .int)
def mX10_worthOf : fc_M := (yX10_worthOf, cX10_worthOf, 6, some .int)
def mX10_movedThings : fc_M := (yX10_movedThings, cX10_movedThings, 4, some .int)
def mX10_minutesTo : fc_M := (yX10_minutesTo, cX10_minutesTo, 3, some .int)
def mX10_minutesOfAllTo : fc_M := (yX10_minutesOfAllTo, cX10_minutesOfAllTo, 4, some .int)
def mX10_isGift : fc_M := (yX10_isGift, cX10_isGift, 3, some .boolean)
def mX10_fitsSeen : fc_M := (yX10_fitsSeen, cX10_fitsSeen, 4, some .boolean)
def mX10_leftAtWorst : fc_M := (yX10_leftAtWorst, cX10_leftAtWorst, 6, some .int)
def mX10_isRest : fc_M := (yX10_isRest, cX10_isRest, 6, some .boolean)
def mX10_gets : fc_M := (yX10_gets, cX10_gets, 5, some .int)
def mX10_drawBelow : fc_M := (yX10_drawBelow, cX10_drawBelow, 2, some .int)
def mX10_playDrawn : fc_M := (yX10_playDrawn, cX10_playDrawn, 5, some .boolean)
def mX11_thrown : fc_M := (yX11_thrown, cX11_thrown, 1, some .int)
def mX11_feed : fc_M := (yX11_feed, cX11_feed, 7, some .int)
def mX11_lay : fc_M := (yX11_lay, cX11_lay, 5, none)
def mX11_isLetter : fc_M := (yX11_isLetter, cX11_isLetter, 1, some .boolean)
def mX11_isDigit : fc_M := (yX11_isDigit, cX11_isDigit, 1, some .boolean)
def mX11_rank : fc_M := (yX11_rank, cX11_rank, 1, some .int)
def mX11_isSignOf : fc_M := (yX11_isSignOf, cX11_isSignOf, 1, some .boolean)
def mX11_cutAll : fc_M := (yX11_cutAll, cX11_cutAll, 7, none)
def mX11_wrong : fc_M := (yX11_wrong, cX11_wrong, 2, none)
def mX11_isSign : fc_M := (yX11_isSign, cX11_isSign, 2, some .boolean)
def mX11_isWord : fc_M := (yX11_isWord, cX11_isWord, 2, some .boolean)
def mX11_takeSign : fc_M := (yX11_takeSign, cX11_takeSign, 2, none)
def mX11_hasSign : fc_M := (yX11_hasSign, cX11_hasSign, 3, some .boolean)
def mX11_hasWord : fc_M := (yX11_hasWord, cX11_hasWord, 3, some .boolean)
def mX11_takeWord : fc_M := (yX11_takeWord, cX11_takeWord, 2, none)
def mX11_within : fc_M := (yX11_within, cX11_within, 3, some .boolean)
def mX11_standsAsAlways : fc_M := (yX11_standsAsAlways, cX11_standsAsAlways, 3, none)
def mX11_takeNumber : fc_M := (yX11_takeNumber, cX11_takeNumber, 3, some .int)
def mX11_takeAfter : fc_M := (yX11_takeAfter, cX11_takeAfter, 4, some .int)
def mX11_wordHere : fc_M := (yX11_wordHere, cX11_wordHere, 5, some .int)
def mX11_takeOne : fc_M := (yX11_takeOne, cX11_takeOne, 4, some .int)
def mX11_isName : fc_M := (yX11_isName, cX11_isName, 1, some .boolean)
def mX11_nameAt : fc_M := (yX11_nameAt, cX11_nameAt, 3, some .int)
def mX11_takeTold : fc_M := (yX11_takeTold, cX11_takeTold, 5, some .int)
def mX11_land : fc_M := (yX11_land, cX11_land, 2, some .int)
def mX11_readLine : fc_M := (yX11_readLine, cX11_readLine, 5, none)
def mX11_readName : fc_M := (yX11_readName, cX11_readName, 5, none)
def mX11_readPath : fc_M := (yX11_readPath, cX11_readPath, 3, none)
def mX11_readOnce : fc_M := (yX11_readOnce, cX11_readOnce, 2, none)
def mX11_morning : fc_M := (yX11_morning, cX11_morning, 3, some .int)
def mX11_readMorning : fc_M := (yX11_readMorning, cX11_readMorning, 3, none)
def mX11_emit : fc_M := (yX11_emit, cX11_emit, 3, none)
def mX11_whole : fc_M := (yX11_whole, cX11_whole, 3, none)
def mX11_test : fc_M := (yX11_test, cX11_test, 3, none)
def mX11_sums : fc_M := (yX11_sums, cX11_sums, 3, none)
def mX11_products : fc_M := (yX11_products, cX11_products, 2, none)
def mX11_takePart : fc_M := (yX11_takePart, cX11_takePart, 4, none)
def mX11_worthAt : fc_M := (yX11_worthAt, cX11_worthAt, 5, some .int)
def mX11_both : fc_M := (yX11_both, cX11_both, 3, some .int)
def mX11_copies : fc_M := (yX11_copies, cX11_copies, 5, none)
def mX11_starts : fc_M := (yX11_starts, cX11_starts, 3, none)
def mX11_begins : fc_M := (yX11_begins, cX11_begins, 2, none)
def mX11_keeps : fc_M := (yX11_keeps, cX11_keeps, 2, none)
def mX11_places : fc_M := (yX11_places, cX11_places, 1, some .int)
def mX11_persons : fc_M := (yX11_persons, cX11_persons, 1, some .int)
def mX11_things : fc_M := (yX11_things, cX11_things, 1, some .int)
def mX11_smokeAt : fc_M := (yX11_smokeAt, cX11_smokeAt, 1, some .int)
def mX11_pathsFrom : fc_M := (yX11_pathsFrom, cX11_pathsFrom, 2, some .int)
def mX11_personOf : fc_M := (yX11_personOf, cX11_personOf, 3, some .int)
def mX11_thingOf : fc_M := (yX11_thingOf, cX11_thingOf, 3, some .int)
def mX11_isPlace : fc_M := (yX11_isPlace, cX11_isPlace, 2, some .boolean)
def mX11_isPerson : fc_M := (yX11_isPerson, cX11_isPerson, 2, some .boolean)
def mX11_isThing : fc_M := (yX11_isThing, cX11_isThing, 2, some .boolean)
def mX11_bits : fc_M := (yX11_bits, cX11_bits, 3, some .int)
def mX11_awakeAt : fc_M := (yX11_awakeAt, cX11_awakeAt, 4, some .int)
def mX11_isAwake : fc_M := (yX11_isAwake, cX11_isAwake, 3, some .boolean)
def mX11_isReady : fc_M := (yX11_isReady, cX11_isReady, 3, some .boolean)
def mX11_whoIn : fc_M := (yX11_whoIn, cX11_whoIn, 5, some .int)
def mX11_benches : fc_M := (yX11_benches, cX11_benches, 3, some .int)
def mX11_doesBind : fc_M := (yX11_doesBind, cX11_doesBind, 7, some .boolean)
def mX11_mayWalk : fc_M := (yX11_mayWalk, cX11_mayWalk, 4, some .boolean)
def mX11_walks : fc_M := (yX11_walks, cX11_walks, 4, none)
def mX11_mayGive : fc_M := (yX11_mayGive, cX11_mayGive, 5, some .boolean)
def mX11_gives : fc_M := (yX11_gives, cX11_gives, 6, some .boolean)
def mX11_mayVow : fc_M := (yX11_mayVow, cX11_mayVow, 5, some .boolean)
def mX11_vowsBy : fc_M := (yX11_vowsBy, cX11_vowsBy, 5, some .boolean)
def mX11_smokes : fc_M := (yX11_smokes, cX11_smokes, 3, none)
def mX11_passes : fc_M := (yX11_passes, cX11_passes, 4, some .boolean)
def mX11_thingsWith : fc_M := (yX11_thingsWith, cX11_thingsWith, 5, some .int)
def mX11_wrongThings : fc_M := (yX11_wrongThings, cX11_wrongThings, 4, some .int)
def mX11_place : fc_M := (yX11_place, cX11_place, 3, some .int)
def mX11_person : fc_M := (yX11_person, cX11_person, 3, some .int)
def mX11_thing : fc_M := (yX11_thing, cX11_thing, 3, some .int)
def mX11_walk : fc_M := (yX11_walk, cX11_walk, 3, some .boolean)
def mX11_give : fc_M := (yX11_give, cX11_give, 3, some .int)
def mX11_vow : fc_M := (yX11_vow, cX11_vow, 3, some .int)
def mX11_minute : fc_M := (yX11_minute, cX11_minute, 1, some .boolean)
def mX11_undo : fc_M := (yX11_undo, cX11_undo, 1, some .boolean)
def mX11_judged : fc_M := (yX11_judged, cX11_judged, 10, some .int)
def mX11_onFrom : fc_M := (yX11_onFrom, cX11_onFrom, 5, some .int)
def mX11_reachBy : fc_M := (yX11_reachBy, cX11_reachBy, 5, some .int)
def mX11_farOf : fc_M := (yX11_farOf, cX11_farOf, 5, some .int)
def mX11_reach : fc_M := (yX11_reach, cX11_reach, 2, some .int)
def mX11_far : fc_M := (yX11_far, cX11_far, 4, some .int)
def mX11_cuts : fc_M := (yX11_cuts, cX11_cuts, 6, some .int)
def mX11_hub : fc_M := (yX11_hub, cX11_hub, 7, some .int)
def mX11_links : fc_M := (yX11_links, cX11_links, 2, some .int)
def mX11_wide : fc_M := (yX11_wide, cX11_wide, 7, some .int)
def mX11_readyIn : fc_M := (yX11_readyIn, cX11_readyIn, 4, some .int)
def mX11_paceOf : fc_M := (yX11_paceOf, cX11_paceOf, 2, some .int)
def mX11_soonOf : fc_M := (yX11_soonOf, cX11_soonOf, 4, some .int)
def mX11_told : fc_M := (yX11_told, cX11_told, 1, some .int)
def mX11_soon : fc_M := (yX11_soon, cX11_soon, 3, some .int)
def mX11_meet : fc_M := (yX11_meet, cX11_meet, 8, some .int)
def mX11_all : fc_M := (yX11_all, cX11_all, 8, some .int)
def mX11_tour : fc_M := (yX11_tour, cX11_tour, 8, some .int)
def mX11_intime : fc_M := (yX11_intime, cX11_intime, 3, some .boolean)
def mX11_back : fc_M := (yX11_back, cX11_back, 1, some .int)
def mX11_could : fc_M := (yX11_could, cX11_could, 4, some .int)
def mX11_wouldBind : fc_M := (yX11_wouldBind, cX11_wouldBind, 4, some .boolean)
def mX11_isGift : fc_M := (yX11_isGift, cX11_isGift, 3, some .boolean)
def mX11_would : fc_M := (yX11_would, cX11_would, 3, some .boolean)
def mX11_when : fc_M := (yX11_when, cX11_when, 4, some .int)
def mX11_vows : fc_M := (yX11_vows, cX11_vows, 3, some .int)
def mX11_sees : fc_M := (yX11_sees, cX11_sees, 5, some .int)
def mX11_heard : fc_M := (yX11_heard, cX11_heard, 2, some .int)
def mX11_heardOfAll : fc_M := (yX11_heardOfAll, cX11_heardOfAll, 4, some .int)
def mX11_triesNow : fc_M := (yX11_triesNow, cX11_triesNow, 1, none)
def mX11_news : fc_M := (yX11_news, cX11_news, 2, some .int)
def mX11_alone : fc_M := (yX11_alone, cX11_alone, 4, some .int)
def mX11_see : fc_M := (yX11_see, cX11_see, 5, some .boolean)
def mX11_whoNow : fc_M := (yX11_whoNow, cX11_whoNow, 6, some .int)
def mX11_who : fc_M := (yX11_who, cX11_who, 1, some .int)
def mX11_ask : fc_M := (yX11_ask, cX11_ask, 9, some .int)
def mX11_worthOf : fc_M := (yX11_worthOf, cX11_worthOf, 5, some .int)
def mX11_has : fc_M := (yX11_has, cX11_has, 3, some .int)
def mX11_sleeps : fc_M := (yX11_sleeps, cX11_sleeps, 3, some .int)
def mX11_rich : fc_M := (yX11_rich, cX11_rich, 4, some .int)
def mX11_chance : fc_M := (yX11_chance, cX11_chance, 8, some .int)
def mX11_getsBy : fc_M := (yX11_getsBy, cX11_getsBy, 5, some .int)
def mX11_rests : fc_M := (yX11_rests, cX11_rests, 12, some .int)
def mX11_draw : fc_M := (yX11_draw, cX11_draw, 2, some .int)
def mX11_drawsDeed : fc_M := (yX11_drawsDeed, cX11_drawsDeed, 5, some .boolean)
def mX11_mornings : fc_M := (yX11_mornings, cX11_mornings, 6, some .int)
def mX11_mark : fc_M := (yX11_mark, cX11_mark, 3, some .boolean)
def mX11_pairsOf : fc_M := (yX11_pairsOf, cX11_pairsOf, 4, some .int)
def mX11_count : fc_M := (yX11_count, cX11_count, 2, some .int)
def mJ11_isValidCodePoint_9a6ad : fc_M := (yJ11_isValidCodePoint_9a6ad, cJ11_isValidCodePoint_9a6ad, 2, some .boolean)
def mJ11_highSurrogate_5068e : fc_M := (yJ11_highSurrogate_5068e, cJ11_highSurrogate_5068e, 1, some .char)
def mJ11_lowSurrogate_5068e : fc_M := (yJ11_lowSurrogate_5068e, cJ11_lowSurrogate_5068e, 1, some .char)
def mJ6_bitCount_0f7a4 : fc_M := (yJ6_bitCount_0f7a4, cJ6_bitCount_0f7a4, 1, some .int)
def mJ9_max_7cf53 : fc_M := (yJ9_max_7cf53, cJ9_max_7cf53, 2, some .int)
def mJ9_min_7cf53 : fc_M := (yJ9_min_7cf53, cJ9_min_7cf53, 2, some .int)
def mJ0_length_8abf5 : fc_M := (yJ0_length_8abf5, cJ0_length_8abf5, 1, some .int)
def mJ0_charAt_5068e : fc_M := (yJ0_charAt_5068e, cJ0_charAt_5068e, 2, some .char)
def mJ0_indexOf_0f7a4 : fc_M := (yJ0_indexOf_0f7a4, cJ0_indexOf_0f7a4, 2, some .int)
def mJ0_indexOf_7cf53 : fc_M := (yJ0_indexOf_7cf53, cJ0_indexOf_7cf53, 3, some .int)
def mJ0_coder_7d493 : fc_M := (yJ0_coder_7d493, cJ0_coder_7d493, 1, some .byte)
def mJ0_isLatin1_aae02 : fc_M := (yJ0_isLatin1_aae02, cJ0_isLatin1_aae02, 1, some .boolean)
def mJ0_checkIndex_df160 : fc_M := (yJ0_checkIndex_df160, cJ0_checkIndex_df160, 2, none)
def mJ0_checkBoundsBeginEnd_23922 : fc_M := (yJ0_checkBoundsBeginEnd_23922, cJ0_checkBoundsBeginEnd_23922, 3, none)
def mJ1_charAt_3b067 : fc_M := (yJ1_charAt_3b067, cJ1_charAt_3b067, 2, some .char)
def mJ1_canEncode_9a6ad : fc_M := (yJ1_canEncode_9a6ad, cJ1_canEncode_9a6ad, 1, some .boolean)
def mJ1_indexOf_4cfef : fc_M := (yJ1_indexOf_4cfef, cJ1_indexOf_4cfef, 4, some .int)
def mJ1_indexOfChar_4cfef : fc_M := (yJ1_indexOfChar_4cfef, cJ1_indexOfChar_4cfef, 6, some .int)
def mJ2_getChar_3b067 : fc_M := (yJ2_getChar_3b067, cJ2_getChar_3b067, 2, some .char)
def mJ2_length_9d52b : fc_M := (yJ2_length_9d52b, cJ2_length_9d52b, 1, some .int)
def mJ2_indexOf_4cfef : fc_M := (yJ2_indexOf_4cfef, cJ2_indexOf_4cfef, 4, some .int)
def mJ2_indexOfChar_4cfef : fc_M := (yJ2_indexOfChar_4cfef, cJ2_indexOfChar_4cfef, 4, some .int)
def mJ2_indexOfCharUnsafe_4cfef : fc_M := (yJ2_indexOfCharUnsafe_4cfef, cJ2_indexOfCharUnsafe_4cfef, 5, some .int)
def mJ2_indexOfSupplementary_4cfef : fc_M := (yJ2_indexOfSupplementary_4cfef, cJ2_indexOfSupplementary_4cfef, 7, some .int)
def mJ2_charAt_3b067 : fc_M := (yJ2_charAt_3b067, cJ2_charAt_3b067, 2, some .char)
def mJ2_checkIndex_2214a : fc_M := (yJ2_checkIndex_2214a, cJ2_checkIndex_2214a, 2, none)
def mJ2_checkBoundsBeginEnd_d044e : fc_M := (yJ2_checkBoundsBeginEnd_d044e, cJ2_checkBoundsBeginEnd_d044e, 3, none)
def mJ7_fill_53178 : fc_M := (yJ7_fill_53178, cJ7_fill_53178, 4, none)
def mJ3_checkIndex_8e157 : fc_M := (yJ3_checkIndex_8e157, cJ3_checkIndex_8e157, 3, some .int)
def mJ3_checkFromToIndex_8c36e : fc_M := (yJ3_checkFromToIndex_8c36e, cJ3_checkFromToIndex_8c36e, 4, some .int)
def fc_mp (t : fc_M × Nat × Nat) : Prop := fc_mw t.1 t.2.1 ∧ (t.2.2 = 0 → Cond.instanceMethod t.1.1 ∈ fc_G ∧ Cond.selects t.1.1.cls t.1.1 t.1.1 ∈ fc_G) ∧ (t.2.2 = 1 → Cond.static t.1.1 ∈ fc_G)
theorem kX0_clear : fc_mp (mX0_clear, 0, 0) := ⟨⟨fc_G_of 525 (by decide +kernel) rfl, fc_G_of 114 (by decide +kernel) rfl, by decide +kernel, by decide⟩, fun _ => ⟨fc_G_of 523 (by decide +kernel) rfl, fc_G_of 524 (by decide +kernel) rfl⟩, fun h => absurd h (by decide)⟩
theorem kX0_indexOf : fc_mp (mX0_indexOf, 3, 1) := ⟨⟨fc_G_of 677 (by decide +kernel) rfl, fc_G_of 114 (by decide +kernel) rfl, by decide +kernel, by decide⟩, fun h => absurd h (by decide), fun _ => fc_G_of 676 (by decide +kernel) rfl⟩
theorem kX0_isTold : fc_mp (mX0_isTold, 1, 0) := ⟨⟨fc_G_of 674 (by decide +kernel) rfl, fc_G_of 114 (by decide +kernel) rfl, by decide +kernel, by decide⟩, fun _ => ⟨fc_G_of 672 (by decide +kernel) rfl, fc_G_of 673 (by decide +kernel) rfl⟩, fun h => absurd h (by decide)⟩
theorem kX0_hasPlace : fc_mp (mX0_hasPlace, 1, 0) := ⟨⟨fc_G_of 807 (by decide +kernel) rfl, fc_G_of 114 (by decide +kernel) rfl, by decide +kernel, by decide⟩, fun _ => ⟨fc_G_of 805 (by decide +kernel) rfl, fc_G_of 806 (by decide +kernel) rfl⟩, fun h => absurd h (by decide)⟩
theorem kX0_hasPerson : fc_mp (mX0_hasPerson, 1, 0) := ⟨⟨fc_G_of 827 (by decide +kernel) rfl, fc_G_of 114 (by decide +kernel) rfl, by decide +kernel, by decide⟩, fun _ => ⟨fc_G_of 825 (by decide +kernel) rfl, fc_G_of 826 (by decide +kernel) rfl⟩, fun h => absurd h (by decide)⟩
theorem kX0_hasThing : fc_mp (mX0_hasThing, 1, 0) := ⟨⟨fc_G_of 845 (by decide +kernel) rfl, fc_G_of 114 (by decide +kernel) rfl, by decide +kernel, by decide⟩, fun _ => ⟨fc_G_of 843 (by decide +kernel) rfl, fc_G_of 844 (by decide +kernel) rfl⟩, fun h => absurd h (by decide)⟩
theorem kX0_isAwake : fc_mp (mX0_isAwake, 2, 0) := ⟨⟨fc_G_of 819 (by decide +kernel) rfl, fc_G_of 114 (by decide +kernel) rfl, by decide +kernel, by decide⟩, fun _ => ⟨fc_G_of 817 (by decide +kernel) rfl, fc_G_of 818 (by decide +kernel) rfl⟩, fun h => absurd h (by decide)⟩
theorem kX0_sleepOf : fc_mp (mX0_sleepOf, 2, 0) := ⟨⟨fc_G_of 985 (by decide +kernel) rfl, fc_G_of 114 (by decide +kernel) rfl, by decide +kernel, by decide⟩, fun _ => ⟨fc_G_of 983 (by decide +kernel) rfl, fc_G_of 984 (by decide +kernel) rfl⟩, fun h => absurd h (by decide)⟩
theorem kX0_awakeBits : fc_mp (mX0_awakeBits, 1, 0) := ⟨⟨fc_G_of 815 (by decide +kernel) rfl, fc_G_of 114 (by decide +kernel) rfl, by decide +kernel, by decide⟩, fun _ => ⟨fc_G_of 813 (by decide +kernel) rfl, fc_G_of 814 (by decide +kernel) rfl⟩, fun h => absurd h (by decide)⟩
theorem kX1_read : fc_mp (mX1_read, 2, 0) := ⟨⟨fc_G_of 521 (by decide +kernel) rfl, fc_G_of 108 (by decide +kernel) rfl, by decide +kernel, by decide⟩, fun _ => ⟨fc_G_of 519 (by decide +kernel) rfl, fc_G_of 520 (by decide +kernel) rfl⟩, fun h => absurd h (by decide)⟩
theorem kX1_isNewName : fc_mp (mX1_isNewName, 2, 1) := ⟨⟨fc_G_of 670 (by decide +kernel) rfl, fc_G_of 108 (by decide +kernel) rfl, by decide +kernel, by decide⟩, fun h => absurd h (by decide), fun _ => fc_G_of 669 (by decide +kernel) rfl⟩
theorem kX1_readPlace : fc_mp (mX1_readPlace, 2, 0) := ⟨⟨fc_G_of 662 (by decide +kernel) rfl, fc_G_of 108 (by decide +kernel) rfl, by decide +kernel, by decide⟩, fun _ => ⟨fc_G_of 661 (by decide +kernel) rfl, fc_G_of 2 (by decide +kernel) rfl⟩, fun h => absurd h (by decide)⟩
theorem kX1_readPath : fc_mp (mX1_readPath, 2, 0) := ⟨⟨fc_G_of 681 (by decide +kernel) rfl, fc_G_of 108 (by decide +kernel) rfl, by decide +kernel, by decide⟩, fun _ => ⟨fc_G_of 680 (by decide +kernel) rfl, fc_G_of 3 (by decide +kernel) rfl⟩, fun h => absurd h (by decide)⟩
theorem kX1_readPerson : fc_mp (mX1_readPerson, 2, 0) := ⟨⟨fc_G_of 694 (by decide +kernel) rfl, fc_G_of 108 (by decide +kernel) rfl, by decide +kernel, by decide⟩, fun _ => ⟨fc_G_of 693 (by decide +kernel) rfl, fc_G_of 4 (by decide +kernel) rfl⟩, fun h => absurd h (by decide)⟩
theorem kX1_readThing : fc_mp (mX1_readThing, 2, 0) := ⟨⟨fc_G_of 707 (by decide +kernel) rfl, fc_G_of 108 (by decide +kernel) rfl, by decide +kernel, by decide⟩, fun _ => ⟨fc_G_of 706 (by decide +kernel) rfl, fc_G_of 5 (by decide +kernel) rfl⟩, fun h => absurd h (by decide)⟩
theorem kX1_readSmoke : fc_mp (mX1_readSmoke, 2, 0) := ⟨⟨fc_G_of 711 (by decide +kernel) rfl, fc_G_of 108 (by decide +kernel) rfl, by decide +kernel, by decide⟩, fun _ => ⟨fc_G_of 710 (by decide +kernel) rfl, fc_G_of 6 (by decide +kernel) rfl⟩, fun h => absurd h (by decide)⟩
theorem kX1_readBinds : fc_mp (mX1_readBinds, 2, 0) := ⟨⟨fc_G_of 715 (by decide +kernel) rfl, fc_G_of 108 (by decide +kernel) rfl, by decide +kernel, by decide⟩, fun _ => ⟨fc_G_of 714 (by decide +kernel) rfl, fc_G_of 7 (by decide +kernel) rfl⟩, fun h => absurd h (by decide)⟩
theorem kX2_write : fc_mp (mX2_write, 1, 0) := ⟨⟨fc_G_of 731 (by decide +kernel) rfl, fc_G_of 115 (by decide +kernel) rfl, by decide +kernel, by decide⟩, fun _ => ⟨fc_G_of 729 (by decide +kernel) rfl, fc_G_of 730 (by decide +kernel) rfl⟩, fun h => absurd h (by decide)⟩
theorem kX2_valueAt : fc_mp (mX2_valueAt, 4, 0) := ⟨⟨fc_G_of 906 (by decide +kernel) rfl, fc_G_of 115 (by decide +kernel) rfl, by decide +kernel, by decide⟩, fun _ => ⟨fc_G_of 904 (by decide +kernel) rfl, fc_G_of 905 (by decide +kernel) rfl⟩, fun h => absurd h (by decide)⟩
theorem kX2_operand : fc_mp (mX2_operand, 5, 1) := ⟨⟨fc_G_of 909 (by decide +kernel) rfl, fc_G_of 115 (by decide +kernel) rfl, by decide +kernel, by decide⟩, fun h => absurd h (by decide), fun _ => fc_G_of 908 (by decide +kernel) rfl⟩
theorem kX2_joined : fc_mp (mX2_joined, 3, 1) := ⟨⟨fc_G_of 912 (by decide +kernel) rfl, fc_G_of 115 (by decide +kernel) rfl, by decide +kernel, by decide⟩, fun h => absurd h (by decide), fun _ => fc_G_of 911 (by decide +kernel) rfl⟩
theorem kX3_read : fc_mp (mX3_read, 2, 0) := ⟨⟨fc_G_of 719 (by decide +kernel) rfl, fc_G_of 109 (by decide +kernel) rfl, by decide +kernel, by decide⟩, fun _ => ⟨fc_G_of 717 (by decide +kernel) rfl, fc_G_of 718 (by decide +kernel) rfl⟩, fun h => absurd h (by decide)⟩
theorem kX3_readPart : fc_mp (mX3_readPart, 2, 0) := ⟨⟨fc_G_of 735 (by decide +kernel) rfl, fc_G_of 109 (by decide +kernel) rfl, by decide +kernel, by decide⟩, fun _ => ⟨fc_G_of 734 (by decide +kernel) rfl, fc_G_of 9 (by decide +kernel) rfl⟩, fun h => absurd h (by decide)⟩
theorem kX3_readBehind : fc_mp (mX3_readBehind, 2, 0) := ⟨⟨fc_G_of 750 (by decide +kernel) rfl, fc_G_of 109 (by decide +kernel) rfl, by decide +kernel, by decide⟩, fun _ => ⟨fc_G_of 749 (by decide +kernel) rfl, fc_G_of 12 (by decide +kernel) rfl⟩, fun h => absurd h (by decide)⟩
theorem kX3_closeNots : fc_mp (mX3_closeNots, 1, 0) := ⟨⟨fc_G_of 746 (by decide +kernel) rfl, fc_G_of 109 (by decide +kernel) rfl, by decide +kernel, by decide⟩, fun _ => ⟨fc_G_of 745 (by decide +kernel) rfl, fc_G_of 11 (by decide +kernel) rfl⟩, fun h => absurd h (by decide)⟩
theorem kX3_await : fc_mp (mX3_await, 1, 0) := ⟨⟨fc_G_of 742 (by decide +kernel) rfl, fc_G_of 109 (by decide +kernel) rfl, by decide +kernel, by decide⟩, fun _ => ⟨fc_G_of 741 (by decide +kernel) rfl, fc_G_of 10 (by decide +kernel) rfl⟩, fun h => absurd h (by decide)⟩
theorem kX3_writeDown : fc_mp (mX3_writeDown, 2, 0) := ⟨⟨fc_G_of 724 (by decide +kernel) rfl, fc_G_of 109 (by decide +kernel) rfl, by decide +kernel, by decide⟩, fun _ => ⟨fc_G_of 723 (by decide +kernel) rfl, fc_G_of 8 (by decide +kernel) rfl⟩, fun h => absurd h (by decide)⟩
theorem kX3_rankOf : fc_mp (mX3_rankOf, 1, 1) := ⟨⟨fc_G_of 727 (by decide +kernel) rfl, fc_G_of 109 (by decide +kernel) rfl, by decide +kernel, by decide⟩, fun h => absurd h (by decide), fun _ => fc_G_of 726 (by decide +kernel) rfl⟩
theorem kX4_forget : fc_mp (mX4_forget, 0, 0) := ⟨⟨fc_G_of 776 (by decide +kernel) rfl, fc_G_of 112 (by decide +kernel) rfl, by decide +kernel, by decide⟩, fun _ => ⟨fc_G_of 774 (by decide +kernel) rfl, fc_G_of 775 (by decide +kernel) rfl⟩, fun h => absurd h (by decide)⟩
theorem kX4_keep : fc_mp (mX4_keep, 1, 0) := ⟨⟨fc_G_of 861 (by decide +kernel) rfl, fc_G_of 112 (by decide +kernel) rfl, by decide +kernel, by decide⟩, fun _ => ⟨fc_G_of 859 (by decide +kernel) rfl, fc_G_of 860 (by decide +kernel) rfl⟩, fun h => absurd h (by decide)⟩
theorem kX4_bringBack : fc_mp (mX4_bringBack, 1, 0) := ⟨⟨fc_G_of 950 (by decide +kernel) rfl, fc_G_of 112 (by decide +kernel) rfl, by decide +kernel, by decide⟩, fun _ => ⟨fc_G_of 948 (by decide +kernel) rfl, fc_G_of 949 (by decide +kernel) rfl⟩, fun h => absurd h (by decide)⟩
theorem kX4_lay : fc_mp (mX4_lay, 3, 0) := ⟨⟨fc_G_of 1188 (by decide +kernel) rfl, fc_G_of 112 (by decide +kernel) rfl, by decide +kernel, by decide⟩, fun _ => ⟨fc_G_of 1186 (by decide +kernel) rfl, fc_G_of 1187 (by decide +kernel) rfl⟩, fun h => absurd h (by decide)⟩
theorem kX4_goBack : fc_mp (mX4_goBack, 3, 0) := ⟨⟨fc_G_of 1180 (by decide +kernel) rfl, fc_G_of 112 (by decide +kernel) rfl, by decide +kernel, by decide⟩, fun _ => ⟨fc_G_of 1178 (by decide +kernel) rfl, fc_G_of 1179 (by decide +kernel) rfl⟩, fun h => absurd h (by decide)⟩
theorem kX5_read : fc_mp (mX5_read, 2, 0) := ⟨⟨fc_G_of 785 (by decide +kernel) rfl, fc_G_of 116 (by decide +kernel) rfl, by decide +kernel, by decide⟩, fun _ => ⟨fc_G_of 783 (by decide +kernel) rfl, fc_G_of 784 (by decide +kernel) rfl⟩, fun h => absurd h (by decide)⟩
theorem kX5_readLine : fc_mp (mX5_readLine, 2, 0) := ⟨⟨fc_G_of 790 (by decide +kernel) rfl, fc_G_of 116 (by decide +kernel) rfl, by decide +kernel, by decide⟩, fun _ => ⟨fc_G_of 789 (by decide +kernel) rfl, fc_G_of 14 (by decide +kernel) rfl⟩, fun h => absurd h (by decide)⟩
theorem kX5_readNames : fc_mp (mX5_readNames, 3, 0) := ⟨⟨fc_G_of 797 (by decide +kernel) rfl, fc_G_of 116 (by decide +kernel) rfl, by decide +kernel, by decide⟩, fun _ => ⟨fc_G_of 796 (by decide +kernel) rfl, fc_G_of 15 (by decide +kernel) rfl⟩, fun h => absurd h (by decide)⟩
theorem kX5_play : fc_mp (mX5_play, 3, 0) := ⟨⟨fc_G_of 958 (by decide +kernel) rfl, fc_G_of 116 (by decide +kernel) rfl, by decide +kernel, by decide⟩, fun _ => ⟨fc_G_of 956 (by decide +kernel) rfl, fc_G_of 957 (by decide +kernel) rfl⟩, fun h => absurd h (by decide)⟩
theorem kX6_add : fc_mp (mX6_add, 3, 0) := ⟨⟨fc_G_of 1114 (by decide +kernel) rfl, fc_G_of 113 (by decide +kernel) rfl, by decide +kernel, by decide⟩, fun _ => ⟨fc_G_of 1112 (by decide +kernel) rfl, fc_G_of 1113 (by decide +kernel) rfl⟩, fun h => absurd h (by decide)⟩
theorem kX6_copy : fc_mp (mX6_copy, 1, 0) := ⟨⟨fc_G_of 1184 (by decide +kernel) rfl, fc_G_of 113 (by decide +kernel) rfl, by decide +kernel, by decide⟩, fun _ => ⟨fc_G_of 1182 (by decide +kernel) rfl, fc_G_of 1183 (by decide +kernel) rfl⟩, fun h => absurd h (by decide)⟩
theorem kX7_begin : fc_mp (mX7_begin, 1, 0) := ⟨⟨fc_G_of 772 (by decide +kernel) rfl, fc_G_of 111 (by decide +kernel) rfl, by decide +kernel, by decide⟩, fun _ => ⟨fc_G_of 770 (by decide +kernel) rfl, fc_G_of 771 (by decide +kernel) rfl⟩, fun h => absurd h (by decide)⟩
theorem kX7_copy : fc_mp (mX7_copy, 1, 0) := ⟨⟨fc_G_of 865 (by decide +kernel) rfl, fc_G_of 111 (by decide +kernel) rfl, by decide +kernel, by decide⟩, fun _ => ⟨fc_G_of 863 (by decide +kernel) rfl, fc_G_of 864 (by decide +kernel) rfl⟩, fun h => absurd h (by decide)⟩
theorem kX7_bitsAt : fc_mp (mX7_bitsAt, 2, 0) := ⟨⟨fc_G_of 811 (by decide +kernel) rfl, fc_G_of 111 (by decide +kernel) rfl, by decide +kernel, by decide⟩, fun _ => ⟨fc_G_of 809 (by decide +kernel) rfl, fc_G_of 810 (by decide +kernel) rfl⟩, fun h => absurd h (by decide)⟩
theorem kX7_strayThings : fc_mp (mX7_strayThings, 1, 0) := ⟨⟨fc_G_of 1031 (by decide +kernel) rfl, fc_G_of 111 (by decide +kernel) rfl, by decide +kernel, by decide⟩, fun _ => ⟨fc_G_of 1029 (by decide +kernel) rfl, fc_G_of 1030 (by decide +kernel) rfl⟩, fun h => absurd h (by decide)⟩
theorem kX7_newsOfAll : fc_mp (mX7_newsOfAll, 1, 0) := ⟨⟨fc_G_of 1070 (by decide +kernel) rfl, fc_G_of 111 (by decide +kernel) rfl, by decide +kernel, by decide⟩, fun _ => ⟨fc_G_of 1068 (by decide +kernel) rfl, fc_G_of 1069 (by decide +kernel) rfl⟩, fun h => absurd h (by decide)⟩
theorem kX7_isReady : fc_mp (mX7_isReady, 2, 0) := ⟨⟨fc_G_of 832 (by decide +kernel) rfl, fc_G_of 111 (by decide +kernel) rfl, by decide +kernel, by decide⟩, fun _ => ⟨fc_G_of 830 (by decide +kernel) rfl, fc_G_of 831 (by decide +kernel) rfl⟩, fun h => absurd h (by decide)⟩
theorem kX7_minutesOver : fc_mp (mX7_minutesOver, 3, 0) := ⟨⟨fc_G_of 981 (by decide +kernel) rfl, fc_G_of 111 (by decide +kernel) rfl, by decide +kernel, by decide⟩, fun _ => ⟨fc_G_of 979 (by decide +kernel) rfl, fc_G_of 980 (by decide +kernel) rfl⟩, fun h => absurd h (by decide)⟩
theorem kX7_canWalk : fc_mp (mX7_canWalk, 3, 0) := ⟨⟨fc_G_of 853 (by decide +kernel) rfl, fc_G_of 111 (by decide +kernel) rfl, by decide +kernel, by decide⟩, fun _ => ⟨fc_G_of 851 (by decide +kernel) rfl, fc_G_of 852 (by decide +kernel) rfl⟩, fun h => absurd h (by decide)⟩
theorem kX7_goTo : fc_mp (mX7_goTo, 3, 0) := ⟨⟨fc_G_of 873 (by decide +kernel) rfl, fc_G_of 111 (by decide +kernel) rfl, by decide +kernel, by decide⟩, fun _ => ⟨fc_G_of 871 (by decide +kernel) rfl, fc_G_of 872 (by decide +kernel) rfl⟩, fun h => absurd h (by decide)⟩
theorem kX7_canGive : fc_mp (mX7_canGive, 3, 0) := ⟨⟨fc_G_of 881 (by decide +kernel) rfl, fc_G_of 111 (by decide +kernel) rfl, by decide +kernel, by decide⟩, fun _ => ⟨fc_G_of 879 (by decide +kernel) rfl, fc_G_of 880 (by decide +kernel) rfl⟩, fun h => absurd h (by decide)⟩
theorem kX7_handOver : fc_mp (mX7_handOver, 3, 0) := ⟨⟨fc_G_of 886 (by decide +kernel) rfl, fc_G_of 111 (by decide +kernel) rfl, by decide +kernel, by decide⟩, fun _ => ⟨fc_G_of 884 (by decide +kernel) rfl, fc_G_of 885 (by decide +kernel) rfl⟩, fun h => absurd h (by decide)⟩
theorem kX7_canVow : fc_mp (mX7_canVow, 3, 0) := ⟨⟨fc_G_of 920 (by decide +kernel) rfl, fc_G_of 111 (by decide +kernel) rfl, by decide +kernel, by decide⟩, fun _ => ⟨fc_G_of 918 (by decide +kernel) rfl, fc_G_of 919 (by decide +kernel) rfl⟩, fun h => absurd h (by decide)⟩
theorem kX7_pledge : fc_mp (mX7_pledge, 3, 0) := ⟨⟨fc_G_of 924 (by decide +kernel) rfl, fc_G_of 111 (by decide +kernel) rfl, by decide +kernel, by decide⟩, fun _ => ⟨fc_G_of 922 (by decide +kernel) rfl, fc_G_of 923 (by decide +kernel) rfl⟩, fun h => absurd h (by decide)⟩
theorem kX7_giftBinds : fc_mp (mX7_giftBinds, 4, 0) := ⟨⟨fc_G_of 890 (by decide +kernel) rfl, fc_G_of 111 (by decide +kernel) rfl, by decide +kernel, by decide⟩, fun _ => ⟨fc_G_of 888 (by decide +kernel) rfl, fc_G_of 889 (by decide +kernel) rfl⟩, fun h => absurd h (by decide)⟩
theorem kX7_isBinding : fc_mp (mX7_isBinding, 5, 0) := ⟨⟨fc_G_of 894 (by decide +kernel) rfl, fc_G_of 111 (by decide +kernel) rfl, by decide +kernel, by decide⟩, fun _ => ⟨fc_G_of 893 (by decide +kernel) rfl, fc_G_of 17 (by decide +kernel) rfl⟩, fun h => absurd h (by decide)⟩
theorem kX7_pass : fc_mp (mX7_pass, 1, 0) := ⟨⟨fc_G_of 932 (by decide +kernel) rfl, fc_G_of 111 (by decide +kernel) rfl, by decide +kernel, by decide⟩, fun _ => ⟨fc_G_of 930 (by decide +kernel) rfl, fc_G_of 931 (by decide +kernel) rfl⟩, fun h => absurd h (by decide)⟩
theorem kX7_shareNews : fc_mp (mX7_shareNews, 2, 0) := ⟨⟨fc_G_of 936 (by decide +kernel) rfl, fc_G_of 111 (by decide +kernel) rfl, by decide +kernel, by decide⟩, fun _ => ⟨fc_G_of 935 (by decide +kernel) rfl, fc_G_of 18 (by decide +kernel) rfl⟩, fun h => absurd h (by decide)⟩
theorem kX7_riseSmoke : fc_mp (mX7_riseSmoke, 1, 0) := ⟨⟨fc_G_of 941 (by decide +kernel) rfl, fc_G_of 111 (by decide +kernel) rfl, by decide +kernel, by decide⟩, fun _ => ⟨fc_G_of 940 (by decide +kernel) rfl, fc_G_of 19 (by decide +kernel) rfl⟩, fun h => absurd h (by decide)⟩
theorem kX8_put : fc_mp (mX8_put, 1, 0) := ⟨⟨fc_G_of 510 (by decide +kernel) rfl, fc_G_of 107 (by decide +kernel) rfl, by decide +kernel, by decide⟩, fun _ => ⟨fc_G_of 508 (by decide +kernel) rfl, fc_G_of 509 (by decide +kernel) rfl⟩, fun h => absurd h (by decide)⟩
theorem kX8_clear : fc_mp (mX8_clear, 0, 0) := ⟨⟨fc_G_of 755 (by decide +kernel) rfl, fc_G_of 107 (by decide +kernel) rfl, by decide +kernel, by decide⟩, fun _ => ⟨fc_G_of 753 (by decide +kernel) rfl, fc_G_of 754 (by decide +kernel) rfl⟩, fun h => absurd h (by decide)⟩
theorem kX8_open : fc_mp (mX8_open, 0, 0) := ⟨⟨fc_G_of 532 (by decide +kernel) rfl, fc_G_of 107 (by decide +kernel) rfl, by decide +kernel, by decide⟩, fun _ => ⟨fc_G_of 530 (by decide +kernel) rfl, fc_G_of 531 (by decide +kernel) rfl⟩, fun h => absurd h (by decide)⟩
theorem kX8_next : fc_mp (mX8_next, 0, 0) := ⟨⟨fc_G_of 536 (by decide +kernel) rfl, fc_G_of 107 (by decide +kernel) rfl, by decide +kernel, by decide⟩, fun _ => ⟨fc_G_of 534 (by decide +kernel) rfl, fc_G_of 535 (by decide +kernel) rfl⟩, fun h => absurd h (by decide)⟩
theorem kX8_readWord : fc_mp (mX8_readWord, 0, 0) := ⟨⟨fc_G_of 540 (by decide +kernel) rfl, fc_G_of 107 (by decide +kernel) rfl, by decide +kernel, by decide⟩, fun _ => ⟨fc_G_of 539 (by decide +kernel) rfl, fc_G_of 0 (by decide +kernel) rfl⟩, fun h => absurd h (by decide)⟩
theorem kX8_readNumber : fc_mp (mX8_readNumber, 0, 0) := ⟨⟨fc_G_of 598 (by decide +kernel) rfl, fc_G_of 107 (by decide +kernel) rfl, by decide +kernel, by decide⟩, fun _ => ⟨fc_G_of 597 (by decide +kernel) rfl, fc_G_of 1 (by decide +kernel) rfl⟩, fun h => absurd h (by decide)⟩
theorem kX8_cellIn : fc_mp (mX8_cellIn, 1, 0) := ⟨⟨fc_G_of 546 (by decide +kernel) rfl, fc_G_of 107 (by decide +kernel) rfl, by decide +kernel, by decide⟩, fun _ => ⟨fc_G_of 544 (by decide +kernel) rfl, fc_G_of 545 (by decide +kernel) rfl⟩, fun h => absurd h (by decide)⟩
theorem kX8_fail : fc_mp (mX8_fail, 1, 0) := ⟨⟨fc_G_of 666 (by decide +kernel) rfl, fc_G_of 107 (by decide +kernel) rfl, by decide +kernel, by decide⟩, fun _ => ⟨fc_G_of 664 (by decide +kernel) rfl, fc_G_of 665 (by decide +kernel) rfl⟩, fun h => absurd h (by decide)⟩
theorem kX8_take : fc_mp (mX8_take, 1, 0) := ⟨⟨fc_G_of 699 (by decide +kernel) rfl, fc_G_of 107 (by decide +kernel) rfl, by decide +kernel, by decide⟩, fun _ => ⟨fc_G_of 697 (by decide +kernel) rfl, fc_G_of 698 (by decide +kernel) rfl⟩, fun h => absurd h (by decide)⟩
theorem kX8_isNumber : fc_mp (mX8_isNumber, 2, 0) := ⟨⟨fc_G_of 703 (by decide +kernel) rfl, fc_G_of 107 (by decide +kernel) rfl, by decide +kernel, by decide⟩, fun _ => ⟨fc_G_of 701 (by decide +kernel) rfl, fc_G_of 702 (by decide +kernel) rfl⟩, fun h => absurd h (by decide)⟩
theorem kX8_known : fc_mp (mX8_known, 2, 0) := ⟨⟨fc_G_of 685 (by decide +kernel) rfl, fc_G_of 107 (by decide +kernel) rfl, by decide +kernel, by decide⟩, fun _ => ⟨fc_G_of 683 (by decide +kernel) rfl, fc_G_of 684 (by decide +kernel) rfl⟩, fun h => absurd h (by decide)⟩
theorem kX9_measure : fc_mp (mX9_measure, 1, 0) := ⟨⟨fc_G_of 759 (by decide +kernel) rfl, fc_G_of 110 (by decide +kernel) rfl, by decide +kernel, by decide⟩, fun _ => ⟨fc_G_of 757 (by decide +kernel) rfl, fc_G_of 758 (by decide +kernel) rfl⟩, fun h => absurd h (by decide)⟩
theorem kX9_measureFrom : fc_mp (mX9_measureFrom, 2, 0) := ⟨⟨fc_G_of 763 (by decide +kernel) rfl, fc_G_of 110 (by decide +kernel) rfl, by decide +kernel, by decide⟩, fun _ => ⟨fc_G_of 762 (by decide +kernel) rfl, fc_G_of 13 (by decide +kernel) rfl⟩, fun h => absurd h (by decide)⟩
theorem kX9_neighbours : fc_mp (mX9_neighbours, 2, 1) := ⟨⟨fc_G_of 768 (by decide +kernel) rfl, fc_G_of 110 (by decide +kernel) rfl, by decide +kernel, by decide⟩, fun h => absurd h (by decide), fun _ => fc_G_of 767 (by decide +kernel) rfl⟩
theorem kX9_spread : fc_mp (mX9_spread, 3, 0) := ⟨⟨fc_G_of 1015 (by decide +kernel) rfl, fc_G_of 110 (by decide +kernel) rfl, by decide +kernel, by decide⟩, fun _ => ⟨fc_G_of 1013 (by decide +kernel) rfl, fc_G_of 1014 (by decide +kernel) rfl⟩, fun h => absurd h (by decide)⟩
theorem kX9_isCut : fc_mp (mX9_isCut, 2, 0) := ⟨⟨fc_G_of 1092 (by decide +kernel) rfl, fc_G_of 110 (by decide +kernel) rfl, by decide +kernel, by decide⟩, fun _ => ⟨fc_G_of 1090 (by decide +kernel) rfl, fc_G_of 1091 (by decide +kernel) rfl⟩, fun h => absurd h (by decide)⟩
theorem kX9_farthestFrom : fc_mp (mX9_farthestFrom, 2, 0) := ⟨⟨fc_G_of 1100 (by decide +kernel) rfl, fc_G_of 110 (by decide +kernel) rfl, by decide +kernel, by decide⟩, fun _ => ⟨fc_G_of 1098 (by decide +kernel) rfl, fc_G_of 1099 (by decide +kernel) rfl⟩, fun h => absurd h (by decide)⟩
theorem kX9_pathsOfTour : fc_mp (mX9_pathsOfTour, 2, 0) := ⟨⟨fc_G_of 1011 (by decide +kernel) rfl, fc_G_of 110 (by decide +kernel) rfl, by decide +kernel, by decide⟩, fun _ => ⟨fc_G_of 1009 (by decide +kernel) rfl, fc_G_of 1010 (by decide +kernel) rfl⟩, fun h => absurd h (by decide)⟩
theorem kX9_stepOn : fc_mp (mX9_stepOn, 1, 0) := ⟨⟨fc_G_of 1019 (by decide +kernel) rfl, fc_G_of 110 (by decide +kernel) rfl, by decide +kernel, by decide⟩, fun _ => ⟨fc_G_of 1018 (by decide +kernel) rfl, fc_G_of 23 (by decide +kernel) rfl⟩, fun h => absurd h (by decide)⟩
theorem kX10_feed : fc_mp (mX10_feed, 3, 0) := ⟨⟨fc_G_of 506 (by decide +kernel) rfl, fc_G_of 106 (by decide +kernel) rfl, by decide +kernel, by decide⟩, fun _ => ⟨fc_G_of 504 (by decide +kernel) rfl, fc_G_of 505 (by decide +kernel) rfl⟩, fun h => absurd h (by decide)⟩
theorem kX10_land : fc_mp (mX10_land, 0, 0) := ⟨⟨fc_G_of 517 (by decide +kernel) rfl, fc_G_of 106 (by decide +kernel) rfl, by decide +kernel, by decide⟩, fun _ => ⟨fc_G_of 515 (by decide +kernel) rfl, fc_G_of 516 (by decide +kernel) rfl⟩, fun h => absurd h (by decide)⟩
theorem kX10_morning : fc_mp (mX10_morning, 0, 0) := ⟨⟨fc_G_of 781 (by decide +kernel) rfl, fc_G_of 106 (by decide +kernel) rfl, by decide +kernel, by decide⟩, fun _ => ⟨fc_G_of 779 (by decide +kernel) rfl, fc_G_of 780 (by decide +kernel) rfl⟩, fun h => absurd h (by decide)⟩
theorem kX10_place : fc_mp (mX10_place, 2, 0) := ⟨⟨fc_G_of 803 (by decide +kernel) rfl, fc_G_of 106 (by decide +kernel) rfl, by decide +kernel, by decide⟩, fun _ => ⟨fc_G_of 801 (by decide +kernel) rfl, fc_G_of 802 (by decide +kernel) rfl⟩, fun h => absurd h (by decide)⟩
theorem kX10_person : fc_mp (mX10_person, 2, 0) := ⟨⟨fc_G_of 823 (by decide +kernel) rfl, fc_G_of 106 (by decide +kernel) rfl, by decide +kernel, by decide⟩, fun _ => ⟨fc_G_of 821 (by decide +kernel) rfl, fc_G_of 822 (by decide +kernel) rfl⟩, fun h => absurd h (by decide)⟩
theorem kX10_thing : fc_mp (mX10_thing, 2, 0) := ⟨⟨fc_G_of 841 (by decide +kernel) rfl, fc_G_of 106 (by decide +kernel) rfl, by decide +kernel, by decide⟩, fun _ => ⟨fc_G_of 839 (by decide +kernel) rfl, fc_G_of 840 (by decide +kernel) rfl⟩, fun h => absurd h (by decide)⟩
theorem kX10_walk : fc_mp (mX10_walk, 2, 0) := ⟨⟨fc_G_of 849 (by decide +kernel) rfl, fc_G_of 106 (by decide +kernel) rfl, by decide +kernel, by decide⟩, fun _ => ⟨fc_G_of 847 (by decide +kernel) rfl, fc_G_of 848 (by decide +kernel) rfl⟩, fun h => absurd h (by decide)⟩
theorem kX10_give : fc_mp (mX10_give, 2, 0) := ⟨⟨fc_G_of 877 (by decide +kernel) rfl, fc_G_of 106 (by decide +kernel) rfl, by decide +kernel, by decide⟩, fun _ => ⟨fc_G_of 875 (by decide +kernel) rfl, fc_G_of 876 (by decide +kernel) rfl⟩, fun h => absurd h (by decide)⟩
theorem kX10_vow : fc_mp (mX10_vow, 2, 0) := ⟨⟨fc_G_of 916 (by decide +kernel) rfl, fc_G_of 106 (by decide +kernel) rfl, by decide +kernel, by decide⟩, fun _ => ⟨fc_G_of 914 (by decide +kernel) rfl, fc_G_of 915 (by decide +kernel) rfl⟩, fun h => absurd h (by decide)⟩
theorem kX10_minute : fc_mp (mX10_minute, 0, 0) := ⟨⟨fc_G_of 928 (by decide +kernel) rfl, fc_G_of 106 (by decide +kernel) rfl, by decide +kernel, by decide⟩, fun _ => ⟨fc_G_of 926 (by decide +kernel) rfl, fc_G_of 927 (by decide +kernel) rfl⟩, fun h => absurd h (by decide)⟩
theorem kX10_undo : fc_mp (mX10_undo, 0, 0) := ⟨⟨fc_G_of 946 (by decide +kernel) rfl, fc_G_of 106 (by decide +kernel) rfl, by decide +kernel, by decide⟩, fun _ => ⟨fc_G_of 944 (by decide +kernel) rfl, fc_G_of 945 (by decide +kernel) rfl⟩, fun h => absurd h (by decide)⟩
theorem kX10_judged : fc_mp (mX10_judged, 1, 0) := ⟨⟨fc_G_of 954 (by decide +kernel) rfl, fc_G_of 106 (by decide +kernel) rfl, by decide +kernel, by decide⟩, fun _ => ⟨fc_G_of 952 (by decide +kernel) rfl, fc_G_of 953 (by decide +kernel) rfl⟩, fun h => absurd h (by decide)⟩
theorem kX10_soon : fc_mp (mX10_soon, 2, 0) := ⟨⟨fc_G_of 973 (by decide +kernel) rfl, fc_G_of 106 (by decide +kernel) rfl, by decide +kernel, by decide⟩, fun _ => ⟨fc_G_of 971 (by decide +kernel) rfl, fc_G_of 972 (by decide +kernel) rfl⟩, fun h => absurd h (by decide)⟩
theorem kX10_meet : fc_mp (mX10_meet, 2, 0) := ⟨⟨fc_G_of 993 (by decide +kernel) rfl, fc_G_of 106 (by decide +kernel) rfl, by decide +kernel, by decide⟩, fun _ => ⟨fc_G_of 991 (by decide +kernel) rfl, fc_G_of 992 (by decide +kernel) rfl⟩, fun h => absurd h (by decide)⟩
theorem kX10_all : fc_mp (mX10_all, 1, 0) := ⟨⟨fc_G_of 999 (by decide +kernel) rfl, fc_G_of 106 (by decide +kernel) rfl, by decide +kernel, by decide⟩, fun _ => ⟨fc_G_of 997 (by decide +kernel) rfl, fc_G_of 998 (by decide +kernel) rfl⟩, fun h => absurd h (by decide)⟩
theorem kX10_tour : fc_mp (mX10_tour, 1, 0) := ⟨⟨fc_G_of 1007 (by decide +kernel) rfl, fc_G_of 106 (by decide +kernel) rfl, by decide +kernel, by decide⟩, fun _ => ⟨fc_G_of 1005 (by decide +kernel) rfl, fc_G_of 1006 (by decide +kernel) rfl⟩, fun h => absurd h (by decide)⟩
theorem kX10_intime : fc_mp (mX10_intime, 2, 0) := ⟨⟨fc_G_of 1023 (by decide +kernel) rfl, fc_G_of 106 (by decide +kernel) rfl, by decide +kernel, by decide⟩, fun _ => ⟨fc_G_of 1021 (by decide +kernel) rfl, fc_G_of 1022 (by decide +kernel) rfl⟩, fun h => absurd h (by decide)⟩
theorem kX10_back : fc_mp (mX10_back, 0, 0) := ⟨⟨fc_G_of 1027 (by decide +kernel) rfl, fc_G_of 106 (by decide +kernel) rfl, by decide +kernel, by decide⟩, fun _ => ⟨fc_G_of 1025 (by decide +kernel) rfl, fc_G_of 1026 (by decide +kernel) rfl⟩, fun h => absurd h (by decide)⟩
theorem kX10_could : fc_mp (mX10_could, 1, 0) := ⟨⟨fc_G_of 1035 (by decide +kernel) rfl, fc_G_of 106 (by decide +kernel) rfl, by decide +kernel, by decide⟩, fun _ => ⟨fc_G_of 1033 (by decide +kernel) rfl, fc_G_of 1034 (by decide +kernel) rfl⟩, fun h => absurd h (by decide)⟩
theorem kX10_would : fc_mp (mX10_would, 2, 0) := ⟨⟨fc_G_of 1039 (by decide +kernel) rfl, fc_G_of 106 (by decide +kernel) rfl, by decide +kernel, by decide⟩, fun _ => ⟨fc_G_of 1037 (by decide +kernel) rfl, fc_G_of 1038 (by decide +kernel) rfl⟩, fun h => absurd h (by decide)⟩
theorem kX10_when : fc_mp (mX10_when, 2, 0) := ⟨⟨fc_G_of 1048 (by decide +kernel) rfl, fc_G_of 106 (by decide +kernel) rfl, by decide +kernel, by decide⟩, fun _ => ⟨fc_G_of 1046 (by decide +kernel) rfl, fc_G_of 1047 (by decide +kernel) rfl⟩, fun h => absurd h (by decide)⟩
theorem kX10_vows : fc_mp (mX10_vows, 2, 0) := ⟨⟨fc_G_of 1052 (by decide +kernel) rfl, fc_G_of 106 (by decide +kernel) rfl, by decide +kernel, by decide⟩, fun _ => ⟨fc_G_of 1050 (by decide +kernel) rfl, fc_G_of 1051 (by decide +kernel) rfl⟩, fun h => absurd h (by decide)⟩
theorem kX10_sees : fc_mp (mX10_sees, 1, 0) := ⟨⟨fc_G_of 1056 (by decide +kernel) rfl, fc_G_of 106 (by decide +kernel) rfl, by decide +kernel, by decide⟩, fun _ => ⟨fc_G_of 1054 (by decide +kernel) rfl, fc_G_of 1055 (by decide +kernel) rfl⟩, fun h => absurd h (by decide)⟩
theorem kX10_heard : fc_mp (mX10_heard, 1, 0) := ⟨⟨fc_G_of 1061 (by decide +kernel) rfl, fc_G_of 106 (by decide +kernel) rfl, by decide +kernel, by decide⟩, fun _ => ⟨fc_G_of 1059 (by decide +kernel) rfl, fc_G_of 1060 (by decide +kernel) rfl⟩, fun h => absurd h (by decide)⟩
theorem kX10_news : fc_mp (mX10_news, 0, 0) := ⟨⟨fc_G_of 1065 (by decide +kernel) rfl, fc_G_of 106 (by decide +kernel) rfl, by decide +kernel, by decide⟩, fun _ => ⟨fc_G_of 1063 (by decide +kernel) rfl, fc_G_of 1064 (by decide +kernel) rfl⟩, fun h => absurd h (by decide)⟩
theorem kX10_alone : fc_mp (mX10_alone, 0, 0) := ⟨⟨fc_G_of 1074 (by decide +kernel) rfl, fc_G_of 106 (by decide +kernel) rfl, by decide +kernel, by decide⟩, fun _ => ⟨fc_G_of 1072 (by decide +kernel) rfl, fc_G_of 1073 (by decide +kernel) rfl⟩, fun h => absurd h (by decide)⟩
theorem kX10_reach : fc_mp (mX10_reach, 1, 0) := ⟨⟨fc_G_of 1079 (by decide +kernel) rfl, fc_G_of 106 (by decide +kernel) rfl, by decide +kernel, by decide⟩, fun _ => ⟨fc_G_of 1077 (by decide +kernel) rfl, fc_G_of 1078 (by decide +kernel) rfl⟩, fun h => absurd h (by decide)⟩
theorem kX10_far : fc_mp (mX10_far, 2, 0) := ⟨⟨fc_G_of 1084 (by decide +kernel) rfl, fc_G_of 106 (by decide +kernel) rfl, by decide +kernel, by decide⟩, fun _ => ⟨fc_G_of 1082 (by decide +kernel) rfl, fc_G_of 1083 (by decide +kernel) rfl⟩, fun h => absurd h (by decide)⟩
theorem kX10_cuts : fc_mp (mX10_cuts, 0, 0) := ⟨⟨fc_G_of 1088 (by decide +kernel) rfl, fc_G_of 106 (by decide +kernel) rfl, by decide +kernel, by decide⟩, fun _ => ⟨fc_G_of 1086 (by decide +kernel) rfl, fc_G_of 1087 (by decide +kernel) rfl⟩, fun h => absurd h (by decide)⟩
theorem kX10_hub : fc_mp (mX10_hub, 0, 0) := ⟨⟨fc_G_of 1096 (by decide +kernel) rfl, fc_G_of 106 (by decide +kernel) rfl, by decide +kernel, by decide⟩, fun _ => ⟨fc_G_of 1094 (by decide +kernel) rfl, fc_G_of 1095 (by decide +kernel) rfl⟩, fun h => absurd h (by decide)⟩
theorem kX10_links : fc_mp (mX10_links, 1, 0) := ⟨⟨fc_G_of 1105 (by decide +kernel) rfl, fc_G_of 106 (by decide +kernel) rfl, by decide +kernel, by decide⟩, fun _ => ⟨fc_G_of 1103 (by decide +kernel) rfl, fc_G_of 1104 (by decide +kernel) rfl⟩, fun h => absurd h (by decide)⟩
theorem kX10_see : fc_mp (mX10_see, 3, 0) := ⟨⟨fc_G_of 1109 (by decide +kernel) rfl, fc_G_of 106 (by decide +kernel) rfl, by decide +kernel, by decide⟩, fun _ => ⟨fc_G_of 1107 (by decide +kernel) rfl, fc_G_of 1108 (by decide +kernel) rfl⟩, fun h => absurd h (by decide)⟩
theorem kX10_who : fc_mp (mX10_who, 0, 0) := ⟨⟨fc_G_of 1118 (by decide +kernel) rfl, fc_G_of 106 (by decide +kernel) rfl, by decide +kernel, by decide⟩, fun _ => ⟨fc_G_of 1116 (by decide +kernel) rfl, fc_G_of 1117 (by decide +kernel) rfl⟩, fun h => absurd h (by decide)⟩
theorem kX10_ask : fc_mp (mX10_ask, 0, 0) := ⟨⟨fc_G_of 1126 (by decide +kernel) rfl, fc_G_of 106 (by decide +kernel) rfl, by decide +kernel, by decide⟩, fun _ => ⟨fc_G_of 1124 (by decide +kernel) rfl, fc_G_of 1125 (by decide +kernel) rfl⟩, fun h => absurd h (by decide)⟩
theorem kX10_wide : fc_mp (mX10_wide, 0, 0) := ⟨⟨fc_G_of 1135 (by decide +kernel) rfl, fc_G_of 106 (by decide +kernel) rfl, by decide +kernel, by decide⟩, fun _ => ⟨fc_G_of 1133 (by decide +kernel) rfl, fc_G_of 1134 (by decide +kernel) rfl⟩, fun h => absurd h (by decide)⟩
theorem kX10_has : fc_mp (mX10_has, 2, 0) := ⟨⟨fc_G_of 1139 (by decide +kernel) rfl, fc_G_of 106 (by decide +kernel) rfl, by decide +kernel, by decide⟩, fun _ => ⟨fc_G_of 1137 (by decide +kernel) rfl, fc_G_of 1138 (by decide +kernel) rfl⟩, fun h => absurd h (by decide)⟩
theorem kX10_sleeps : fc_mp (mX10_sleeps, 1, 0) := ⟨⟨fc_G_of 1147 (by decide +kernel) rfl, fc_G_of 106 (by decide +kernel) rfl, by decide +kernel, by decide⟩, fun _ => ⟨fc_G_of 1145 (by decide +kernel) rfl, fc_G_of 1146 (by decide +kernel) rfl⟩, fun h => absurd h (by decide)⟩
theorem kX10_rich : fc_mp (mX10_rich, 1, 0) := ⟨⟨fc_G_of 1152 (by decide +kernel) rfl, fc_G_of 106 (by decide +kernel) rfl, by decide +kernel, by decide⟩, fun _ => ⟨fc_G_of 1150 (by decide +kernel) rfl, fc_G_of 1151 (by decide +kernel) rfl⟩, fun h => absurd h (by decide)⟩
theorem kX10_chance : fc_mp (mX10_chance, 2, 0) := ⟨⟨fc_G_of 1156 (by decide +kernel) rfl, fc_G_of 106 (by decide +kernel) rfl, by decide +kernel, by decide⟩, fun _ => ⟨fc_G_of 1154 (by decide +kernel) rfl, fc_G_of 1155 (by decide +kernel) rfl⟩, fun h => absurd h (by decide)⟩
theorem kX10_rests : fc_mp (mX10_rests, 4, 0) := ⟨⟨fc_G_of 1203 (by decide +kernel) rfl, fc_G_of 106 (by decide +kernel) rfl, by decide +kernel, by decide⟩, fun _ => ⟨fc_G_of 1201 (by decide +kernel) rfl, fc_G_of 1202 (by decide +kernel) rfl⟩, fun h => absurd h (by decide)⟩
theorem kX10_mornings : fc_mp (mX10_mornings, 3, 0) := ⟨⟨fc_G_of 1160 (by decide +kernel) rfl, fc_G_of 106 (by decide +kernel) rfl, by decide +kernel, by decide⟩, fun _ => ⟨fc_G_of 1158 (by decide +kernel) rfl, fc_G_of 1159 (by decide +kernel) rfl⟩, fun h => absurd h (by decide)⟩
theorem kX10_mark : fc_mp (mX10_mark, 2, 0) := ⟨⟨fc_G_of 1176 (by decide +kernel) rfl, fc_G_of 106 (by decide +kernel) rfl, by decide +kernel, by decide⟩, fun _ => ⟨fc_G_of 1174 (by decide +kernel) rfl, fc_G_of 1175 (by decide +kernel) rfl⟩, fun h => absurd h (by decide)⟩
theorem kX10_count : fc_mp (mX10_count, 1, 0) := ⟨⟨fc_G_of 1192 (by decide +kernel) rfl, fc_G_of 106 (by decide +kernel) rfl, by decide +kernel, by decide⟩, fun _ => ⟨fc_G_of 1190 (by decide +kernel) rfl, fc_G_of 1191 (by decide +kernel) rfl⟩, fun h => absurd h (by decide)⟩
theorem kX10_isFrom : fc_mp (mX10_isFrom, 3, 1) := ⟨⟨fc_G_of 513 (by decide +kernel) rfl, fc_G_of 106 (by decide +kernel) rfl, by decide +kernel, by decide⟩, fun h => absurd h (by decide), fun _ => fc_G_of 512 (by decide +kernel) rfl⟩
theorem kX10_isIn : fc_mp (mX10_isIn, 2, 1) := ⟨⟨fc_G_of 690 (by decide +kernel) rfl, fc_G_of 106 (by decide +kernel) rfl, by decide +kernel, by decide⟩, fun h => absurd h (by decide), fun _ => fc_G_of 689 (by decide +kernel) rfl⟩
theorem kX10_orNone : fc_mp (mX10_orNone, 1, 1) := ⟨⟨fc_G_of 989 (by decide +kernel) rfl, fc_G_of 106 (by decide +kernel) rfl, by decide +kernel, by decide⟩, fun h => absurd h (by decide), fun _ => fc_G_of 988 (by decide +kernel) rfl⟩
theorem kX10_pairsIn : fc_mp (mX10_pairsIn, 1, 1) := ⟨⟨fc_G_of 1195 (by decide +kernel) rfl, fc_G_of 106 (by decide +kernel) rfl, by decide +kernel, by decide⟩, fun h => absurd h (by decide), fun _ => fc_G_of 1194 (by decide +kernel) rfl⟩
theorem kX10_thingsOf : fc_mp (mX10_thingsOf, 2, 0) := ⟨⟨fc_G_of 837 (by decide +kernel) rfl, fc_G_of 106 (by decide +kernel) rfl, by decide +kernel, by decide⟩, fun _ => ⟨fc_G_of 836 (by decide +kernel) rfl, fc_G_of 16 (by decide +kernel) rfl⟩, fun h => absurd h (by decide)⟩
theorem kX10_worthOf : fc_mp (mX10_worthOf, 2, 0) := ⟨⟨fc_G_of 1143 (by decide +kernel) rfl, fc_G_of 106 (by decide +kernel) rfl, by decide +kernel, by decide⟩, fun _ => ⟨fc_G_of 1142 (by decide +kernel) rfl, fc_G_of 27 (by decide +kernel) rfl⟩, fun h => absurd h (by decide)⟩
theorem kX10_movedThings : fc_mp (mX10_movedThings, 1, 0) := ⟨⟨fc_G_of 969 (by decide +kernel) rfl, fc_G_of 106 (by decide +kernel) rfl, by decide +kernel, by decide⟩, fun _ => ⟨fc_G_of 968 (by decide +kernel) rfl, fc_G_of 20 (by decide +kernel) rfl⟩, fun h => absurd h (by decide)⟩
theorem kX10_minutesTo : fc_mp (mX10_minutesTo, 2, 0) := ⟨⟨fc_G_of 977 (by decide +kernel) rfl, fc_G_of 106 (by decide +kernel) rfl, by decide +kernel, by decide⟩, fun _ => ⟨fc_G_of 976 (by decide +kernel) rfl, fc_G_of 21 (by decide +kernel) rfl⟩, fun h => absurd h (by decide)⟩
theorem kX10_minutesOfAllTo : fc_mp (mX10_minutesOfAllTo, 1, 0) := ⟨⟨fc_G_of 1003 (by decide +kernel) rfl, fc_G_of 106 (by decide +kernel) rfl, by decide +kernel, by decide⟩, fun _ => ⟨fc_G_of 1002 (by decide +kernel) rfl, fc_G_of 22 (by decide +kernel) rfl⟩, fun h => absurd h (by decide)⟩
theorem kX10_isGift : fc_mp (mX10_isGift, 2, 0) := ⟨⟨fc_G_of 1043 (by decide +kernel) rfl, fc_G_of 106 (by decide +kernel) rfl, by decide +kernel, by decide⟩, fun _ => ⟨fc_G_of 1042 (by decide +kernel) rfl, fc_G_of 24 (by decide +kernel) rfl⟩, fun h => absurd h (by decide)⟩
theorem kX10_fitsSeen : fc_mp (mX10_fitsSeen, 1, 0) := ⟨⟨fc_G_of 1122 (by decide +kernel) rfl, fc_G_of 106 (by decide +kernel) rfl, by decide +kernel, by decide⟩, fun _ => ⟨fc_G_of 1121 (by decide +kernel) rfl, fc_G_of 25 (by decide +kernel) rfl⟩, fun h => absurd h (by decide)⟩
theorem kX10_leftAtWorst : fc_mp (mX10_leftAtWorst, 3, 0) := ⟨⟨fc_G_of 1131 (by decide +kernel) rfl, fc_G_of 106 (by decide +kernel) rfl, by decide +kernel, by decide⟩, fun _ => ⟨fc_G_of 1130 (by decide +kernel) rfl, fc_G_of 26 (by decide +kernel) rfl⟩, fun h => absurd h (by decide)⟩
theorem kX10_isRest : fc_mp (mX10_isRest, 4, 1) := ⟨⟨fc_G_of 1271 (by decide +kernel) rfl, fc_G_of 106 (by decide +kernel) rfl, by decide +kernel, by decide⟩, fun h => absurd h (by decide), fun _ => fc_G_of 1270 (by decide +kernel) rfl⟩
theorem kX10_gets : fc_mp (mX10_gets, 5, 1) := ⟨⟨fc_G_of 1274 (by decide +kernel) rfl, fc_G_of 106 (by decide +kernel) rfl, by decide +kernel, by decide⟩, fun h => absurd h (by decide), fun _ => fc_G_of 1273 (by decide +kernel) rfl⟩
theorem kX10_drawBelow : fc_mp (mX10_drawBelow, 1, 0) := ⟨⟨fc_G_of 1168 (by decide +kernel) rfl, fc_G_of 106 (by decide +kernel) rfl, by decide +kernel, by decide⟩, fun _ => ⟨fc_G_of 1167 (by decide +kernel) rfl, fc_G_of 29 (by decide +kernel) rfl⟩, fun h => absurd h (by decide)⟩
theorem kX10_playDrawn : fc_mp (mX10_playDrawn, 0, 0) := ⟨⟨fc_G_of 1164 (by decide +kernel) rfl, fc_G_of 106 (by decide +kernel) rfl, by decide +kernel, by decide⟩, fun _ => ⟨fc_G_of 1163 (by decide +kernel) rfl, fc_G_of 28 (by decide +kernel) rfl⟩, fun h => absurd h (by decide)⟩
theorem kX11_thrown : fc_mp (mX11_thrown, 0, 0) := ⟨⟨fc_G_of 1279 (by decide +kernel) rfl, fc_G_of 117 (by decide +kernel) rfl, by decide +kernel, by decide⟩, fun _ => ⟨fc_G_of 1277 (by decide +kernel) rfl, fc_G_of 1278 (by decide +kernel) rfl⟩, fun h => absurd h (by decide)⟩
theorem kX11_feed : fc_mp (mX11_feed, 3, 0) := ⟨⟨fc_G_of 1283 (by decide +kernel) rfl, fc_G_of 117 (by decide +kernel) rfl, by decide +kernel, by decide⟩, fun _ => ⟨fc_G_of 1281 (by decide +kernel) rfl, fc_G_of 1282 (by decide +kernel) rfl⟩, fun h => absurd h (by decide)⟩
theorem kX11_lay : fc_mp (mX11_lay, 1, 0) := ⟨⟨fc_G_of 1288 (by decide +kernel) rfl, fc_G_of 117 (by decide +kernel) rfl, by decide +kernel, by decide⟩, fun _ => ⟨fc_G_of 1286 (by decide +kernel) rfl, fc_G_of 31 (by decide +kernel) rfl⟩, fun h => absurd h (by decide)⟩
theorem kX11_isLetter : fc_mp (mX11_isLetter, 1, 1) := ⟨⟨fc_G_of 1448 (by decide +kernel) rfl, fc_G_of 117 (by decide +kernel) rfl, by decide +kernel, by decide⟩, fun h => absurd h (by decide), fun _ => fc_G_of 1447 (by decide +kernel) rfl⟩
theorem kX11_isDigit : fc_mp (mX11_isDigit, 1, 1) := ⟨⟨fc_G_of 1455 (by decide +kernel) rfl, fc_G_of 117 (by decide +kernel) rfl, by decide +kernel, by decide⟩, fun h => absurd h (by decide), fun _ => fc_G_of 1454 (by decide +kernel) rfl⟩
theorem kX11_rank : fc_mp (mX11_rank, 1, 1) := ⟨⟨fc_G_of 1452 (by decide +kernel) rfl, fc_G_of 117 (by decide +kernel) rfl, by decide +kernel, by decide⟩, fun h => absurd h (by decide), fun _ => fc_G_of 1451 (by decide +kernel) rfl⟩
theorem kX11_isSignOf : fc_mp (mX11_isSignOf, 1, 1) := ⟨⟨fc_G_of 1460 (by decide +kernel) rfl, fc_G_of 117 (by decide +kernel) rfl, by decide +kernel, by decide⟩, fun h => absurd h (by decide), fun _ => fc_G_of 1459 (by decide +kernel) rfl⟩
theorem kX11_cutAll : fc_mp (mX11_cutAll, 0, 0) := ⟨⟨fc_G_of 1445 (by decide +kernel) rfl, fc_G_of 117 (by decide +kernel) rfl, by decide +kernel, by decide⟩, fun _ => ⟨fc_G_of 1444 (by decide +kernel) rfl, fc_G_of 39 (by decide +kernel) rfl⟩, fun h => absurd h (by decide)⟩
theorem kX11_wrong : fc_mp (mX11_wrong, 1, 0) := ⟨⟨fc_G_of 1476 (by decide +kernel) rfl, fc_G_of 117 (by decide +kernel) rfl, by decide +kernel, by decide⟩, fun _ => ⟨fc_G_of 1475 (by decide +kernel) rfl, fc_G_of 43 (by decide +kernel) rfl⟩, fun h => absurd h (by decide)⟩
theorem kX11_isSign : fc_mp (mX11_isSign, 1, 0) := ⟨⟨fc_G_of 1547 (by decide +kernel) rfl, fc_G_of 117 (by decide +kernel) rfl, by decide +kernel, by decide⟩, fun _ => ⟨fc_G_of 1546 (by decide +kernel) rfl, fc_G_of 60 (by decide +kernel) rfl⟩, fun h => absurd h (by decide)⟩
theorem kX11_isWord : fc_mp (mX11_isWord, 1, 0) := ⟨⟨fc_G_of 1468 (by decide +kernel) rfl, fc_G_of 117 (by decide +kernel) rfl, by decide +kernel, by decide⟩, fun _ => ⟨fc_G_of 1467 (by decide +kernel) rfl, fc_G_of 41 (by decide +kernel) rfl⟩, fun h => absurd h (by decide)⟩
theorem kX11_takeSign : fc_mp (mX11_takeSign, 1, 0) := ⟨⟨fc_G_of 1559 (by decide +kernel) rfl, fc_G_of 117 (by decide +kernel) rfl, by decide +kernel, by decide⟩, fun _ => ⟨fc_G_of 1558 (by decide +kernel) rfl, fc_G_of 63 (by decide +kernel) rfl⟩, fun h => absurd h (by decide)⟩
theorem kX11_hasSign : fc_mp (mX11_hasSign, 1, 0) := ⟨⟨fc_G_of 1555 (by decide +kernel) rfl, fc_G_of 117 (by decide +kernel) rfl, by decide +kernel, by decide⟩, fun _ => ⟨fc_G_of 1554 (by decide +kernel) rfl, fc_G_of 62 (by decide +kernel) rfl⟩, fun h => absurd h (by decide)⟩
theorem kX11_hasWord : fc_mp (mX11_hasWord, 1, 0) := ⟨⟨fc_G_of 1511 (by decide +kernel) rfl, fc_G_of 117 (by decide +kernel) rfl, by decide +kernel, by decide⟩, fun _ => ⟨fc_G_of 1510 (by decide +kernel) rfl, fc_G_of 51 (by decide +kernel) rfl⟩, fun h => absurd h (by decide)⟩
theorem kX11_takeWord : fc_mp (mX11_takeWord, 1, 0) := ⟨⟨fc_G_of 1507 (by decide +kernel) rfl, fc_G_of 117 (by decide +kernel) rfl, by decide +kernel, by decide⟩, fun _ => ⟨fc_G_of 1506 (by decide +kernel) rfl, fc_G_of 50 (by decide +kernel) rfl⟩, fun h => absurd h (by decide)⟩
theorem kX11_within : fc_mp (mX11_within, 3, 1) := ⟨⟨fc_G_of 1499 (by decide +kernel) rfl, fc_G_of 117 (by decide +kernel) rfl, by decide +kernel, by decide⟩, fun h => absurd h (by decide), fun _ => fc_G_of 1498 (by decide +kernel) rfl⟩
theorem kX11_standsAsAlways : fc_mp (mX11_standsAsAlways, 1, 0) := ⟨⟨fc_G_of 1322 (by decide +kernel) rfl, fc_G_of 117 (by decide +kernel) rfl, by decide +kernel, by decide⟩, fun _ => ⟨fc_G_of 1321 (by decide +kernel) rfl, fc_G_of 32 (by decide +kernel) rfl⟩, fun h => absurd h (by decide)⟩
theorem kX11_takeNumber : fc_mp (mX11_takeNumber, 2, 0) := ⟨⟨fc_G_of 1519 (by decide +kernel) rfl, fc_G_of 117 (by decide +kernel) rfl, by decide +kernel, by decide⟩, fun _ => ⟨fc_G_of 1518 (by decide +kernel) rfl, fc_G_of 53 (by decide +kernel) rfl⟩, fun h => absurd h (by decide)⟩
theorem kX11_takeAfter : fc_mp (mX11_takeAfter, 3, 0) := ⟨⟨fc_G_of 1515 (by decide +kernel) rfl, fc_G_of 117 (by decide +kernel) rfl, by decide +kernel, by decide⟩, fun _ => ⟨fc_G_of 1514 (by decide +kernel) rfl, fc_G_of 52 (by decide +kernel) rfl⟩, fun h => absurd h (by decide)⟩
theorem kX11_wordHere : fc_mp (mX11_wordHere, 2, 0) := ⟨⟨fc_G_of 1484 (by decide +kernel) rfl, fc_G_of 117 (by decide +kernel) rfl, by decide +kernel, by decide⟩, fun _ => ⟨fc_G_of 1483 (by decide +kernel) rfl, fc_G_of 45 (by decide +kernel) rfl⟩, fun h => absurd h (by decide)⟩
theorem kX11_takeOne : fc_mp (mX11_takeOne, 2, 0) := ⟨⟨fc_G_of 1503 (by decide +kernel) rfl, fc_G_of 117 (by decide +kernel) rfl, by decide +kernel, by decide⟩, fun _ => ⟨fc_G_of 1502 (by decide +kernel) rfl, fc_G_of 49 (by decide +kernel) rfl⟩, fun h => absurd h (by decide)⟩
theorem kX11_isName : fc_mp (mX11_isName, 0, 0) := ⟨⟨fc_G_of 1480 (by decide +kernel) rfl, fc_G_of 117 (by decide +kernel) rfl, by decide +kernel, by decide⟩, fun _ => ⟨fc_G_of 1479 (by decide +kernel) rfl, fc_G_of 44 (by decide +kernel) rfl⟩, fun h => absurd h (by decide)⟩
theorem kX11_nameAt : fc_mp (mX11_nameAt, 1, 0) := ⟨⟨fc_G_of 1488 (by decide +kernel) rfl, fc_G_of 117 (by decide +kernel) rfl, by decide +kernel, by decide⟩, fun _ => ⟨fc_G_of 1487 (by decide +kernel) rfl, fc_G_of 46 (by decide +kernel) rfl⟩, fun h => absurd h (by decide)⟩
theorem kX11_takeTold : fc_mp (mX11_takeTold, 3, 0) := ⟨⟨fc_G_of 1496 (by decide +kernel) rfl, fc_G_of 117 (by decide +kernel) rfl, by decide +kernel, by decide⟩, fun _ => ⟨fc_G_of 1495 (by decide +kernel) rfl, fc_G_of 48 (by decide +kernel) rfl⟩, fun h => absurd h (by decide)⟩
theorem kX11_land : fc_mp (mX11_land, 0, 0) := ⟨⟨fc_G_of 1441 (by decide +kernel) rfl, fc_G_of 117 (by decide +kernel) rfl, by decide +kernel, by decide⟩, fun _ => ⟨fc_G_of 1439 (by decide +kernel) rfl, fc_G_of 1440 (by decide +kernel) rfl⟩, fun h => absurd h (by decide)⟩
theorem kX11_readLine : fc_mp (mX11_readLine, 0, 0) := ⟨⟨fc_G_of 1464 (by decide +kernel) rfl, fc_G_of 117 (by decide +kernel) rfl, by decide +kernel, by decide⟩, fun _ => ⟨fc_G_of 1463 (by decide +kernel) rfl, fc_G_of 40 (by decide +kernel) rfl⟩, fun h => absurd h (by decide)⟩
theorem kX11_readName : fc_mp (mX11_readName, 3, 0) := ⟨⟨fc_G_of 1472 (by decide +kernel) rfl, fc_G_of 117 (by decide +kernel) rfl, by decide +kernel, by decide⟩, fun _ => ⟨fc_G_of 1471 (by decide +kernel) rfl, fc_G_of 42 (by decide +kernel) rfl⟩, fun h => absurd h (by decide)⟩
theorem kX11_readPath : fc_mp (mX11_readPath, 0, 0) := ⟨⟨fc_G_of 1492 (by decide +kernel) rfl, fc_G_of 117 (by decide +kernel) rfl, by decide +kernel, by decide⟩, fun _ => ⟨fc_G_of 1491 (by decide +kernel) rfl, fc_G_of 47 (by decide +kernel) rfl⟩, fun h => absurd h (by decide)⟩
theorem kX11_readOnce : fc_mp (mX11_readOnce, 0, 0) := ⟨⟨fc_G_of 1523 (by decide +kernel) rfl, fc_G_of 117 (by decide +kernel) rfl, by decide +kernel, by decide⟩, fun _ => ⟨fc_G_of 1522 (by decide +kernel) rfl, fc_G_of 54 (by decide +kernel) rfl⟩, fun h => absurd h (by decide)⟩
theorem kX11_morning : fc_mp (mX11_morning, 0, 0) := ⟨⟨fc_G_of 1563 (by decide +kernel) rfl, fc_G_of 117 (by decide +kernel) rfl, by decide +kernel, by decide⟩, fun _ => ⟨fc_G_of 1561 (by decide +kernel) rfl, fc_G_of 1562 (by decide +kernel) rfl⟩, fun h => absurd h (by decide)⟩
theorem kX11_readMorning : fc_mp (mX11_readMorning, 2, 0) := ⟨⟨fc_G_of 1567 (by decide +kernel) rfl, fc_G_of 117 (by decide +kernel) rfl, by decide +kernel, by decide⟩, fun _ => ⟨fc_G_of 1566 (by decide +kernel) rfl, fc_G_of 64 (by decide +kernel) rfl⟩, fun h => absurd h (by decide)⟩
theorem kX11_emit : fc_mp (mX11_emit, 2, 0) := ⟨⟨fc_G_of 1551 (by decide +kernel) rfl, fc_G_of 117 (by decide +kernel) rfl, by decide +kernel, by decide⟩, fun _ => ⟨fc_G_of 1550 (by decide +kernel) rfl, fc_G_of 61 (by decide +kernel) rfl⟩, fun h => absurd h (by decide)⟩
theorem kX11_whole : fc_mp (mX11_whole, 1, 0) := ⟨⟨fc_G_of 1527 (by decide +kernel) rfl, fc_G_of 117 (by decide +kernel) rfl, by decide +kernel, by decide⟩, fun _ => ⟨fc_G_of 1526 (by decide +kernel) rfl, fc_G_of 55 (by decide +kernel) rfl⟩, fun h => absurd h (by decide)⟩
theorem kX11_test : fc_mp (mX11_test, 1, 0) := ⟨⟨fc_G_of 1531 (by decide +kernel) rfl, fc_G_of 117 (by decide +kernel) rfl, by decide +kernel, by decide⟩, fun _ => ⟨fc_G_of 1530 (by decide +kernel) rfl, fc_G_of 56 (by decide +kernel) rfl⟩, fun h => absurd h (by decide)⟩
theorem kX11_sums : fc_mp (mX11_sums, 1, 0) := ⟨⟨fc_G_of 1535 (by decide +kernel) rfl, fc_G_of 117 (by decide +kernel) rfl, by decide +kernel, by decide⟩, fun _ => ⟨fc_G_of 1534 (by decide +kernel) rfl, fc_G_of 57 (by decide +kernel) rfl⟩, fun h => absurd h (by decide)⟩
theorem kX11_products : fc_mp (mX11_products, 1, 0) := ⟨⟨fc_G_of 1539 (by decide +kernel) rfl, fc_G_of 117 (by decide +kernel) rfl, by decide +kernel, by decide⟩, fun _ => ⟨fc_G_of 1538 (by decide +kernel) rfl, fc_G_of 58 (by decide +kernel) rfl⟩, fun h => absurd h (by decide)⟩
theorem kX11_takePart : fc_mp (mX11_takePart, 1, 0) := ⟨⟨fc_G_of 1543 (by decide +kernel) rfl, fc_G_of 117 (by decide +kernel) rfl, by decide +kernel, by decide⟩, fun _ => ⟨fc_G_of 1542 (by decide +kernel) rfl, fc_G_of 59 (by decide +kernel) rfl⟩, fun h => absurd h (by decide)⟩
theorem kX11_worthAt : fc_mp (mX11_worthAt, 1, 0) := ⟨⟨fc_G_of 1666 (by decide +kernel) rfl, fc_G_of 117 (by decide +kernel) rfl, by decide +kernel, by decide⟩, fun _ => ⟨fc_G_of 1665 (by decide +kernel) rfl, fc_G_of 83 (by decide +kernel) rfl⟩, fun h => absurd h (by decide)⟩
theorem kX11_both : fc_mp (mX11_both, 3, 1) := ⟨⟨fc_G_of 1669 (by decide +kernel) rfl, fc_G_of 117 (by decide +kernel) rfl, by decide +kernel, by decide⟩, fun h => absurd h (by decide), fun _ => fc_G_of 1668 (by decide +kernel) rfl⟩
theorem kX11_copies : fc_mp (mX11_copies, 3, 0) := ⟨⟨fc_G_of 1635 (by decide +kernel) rfl, fc_G_of 117 (by decide +kernel) rfl, by decide +kernel, by decide⟩, fun _ => ⟨fc_G_of 1634 (by decide +kernel) rfl, fc_G_of 77 (by decide +kernel) rfl⟩, fun h => absurd h (by decide)⟩
theorem kX11_starts : fc_mp (mX11_starts, 1, 0) := ⟨⟨fc_G_of 1330 (by decide +kernel) rfl, fc_G_of 117 (by decide +kernel) rfl, by decide +kernel, by decide⟩, fun _ => ⟨fc_G_of 1329 (by decide +kernel) rfl, fc_G_of 34 (by decide +kernel) rfl⟩, fun h => absurd h (by decide)⟩
theorem kX11_begins : fc_mp (mX11_begins, 0, 0) := ⟨⟨fc_G_of 1326 (by decide +kernel) rfl, fc_G_of 117 (by decide +kernel) rfl, by decide +kernel, by decide⟩, fun _ => ⟨fc_G_of 1325 (by decide +kernel) rfl, fc_G_of 33 (by decide +kernel) rfl⟩, fun h => absurd h (by decide)⟩
theorem kX11_keeps : fc_mp (mX11_keeps, 0, 0) := ⟨⟨fc_G_of 1631 (by decide +kernel) rfl, fc_G_of 117 (by decide +kernel) rfl, by decide +kernel, by decide⟩, fun _ => ⟨fc_G_of 1630 (by decide +kernel) rfl, fc_G_of 76 (by decide +kernel) rfl⟩, fun h => absurd h (by decide)⟩
theorem kX11_places : fc_mp (mX11_places, 0, 0) := ⟨⟨fc_G_of 1579 (by decide +kernel) rfl, fc_G_of 117 (by decide +kernel) rfl, by decide +kernel, by decide⟩, fun _ => ⟨fc_G_of 1578 (by decide +kernel) rfl, fc_G_of 66 (by decide +kernel) rfl⟩, fun h => absurd h (by decide)⟩
theorem kX11_persons : fc_mp (mX11_persons, 0, 0) := ⟨⟨fc_G_of 1334 (by decide +kernel) rfl, fc_G_of 117 (by decide +kernel) rfl, by decide +kernel, by decide⟩, fun _ => ⟨fc_G_of 1333 (by decide +kernel) rfl, fc_G_of 35 (by decide +kernel) rfl⟩, fun h => absurd h (by decide)⟩
theorem kX11_things : fc_mp (mX11_things, 0, 0) := ⟨⟨fc_G_of 1342 (by decide +kernel) rfl, fc_G_of 117 (by decide +kernel) rfl, by decide +kernel, by decide⟩, fun _ => ⟨fc_G_of 1341 (by decide +kernel) rfl, fc_G_of 37 (by decide +kernel) rfl⟩, fun h => absurd h (by decide)⟩
theorem kX11_smokeAt : fc_mp (mX11_smokeAt, 0, 0) := ⟨⟨fc_G_of 1693 (by decide +kernel) rfl, fc_G_of 117 (by decide +kernel) rfl, by decide +kernel, by decide⟩, fun _ => ⟨fc_G_of 1692 (by decide +kernel) rfl, fc_G_of 87 (by decide +kernel) rfl⟩, fun h => absurd h (by decide)⟩
theorem kX11_pathsFrom : fc_mp (mX11_pathsFrom, 1, 0) := ⟨⟨fc_G_of 1583 (by decide +kernel) rfl, fc_G_of 117 (by decide +kernel) rfl, by decide +kernel, by decide⟩, fun _ => ⟨fc_G_of 1582 (by decide +kernel) rfl, fc_G_of 67 (by decide +kernel) rfl⟩, fun h => absurd h (by decide)⟩
theorem kX11_personOf : fc_mp (mX11_personOf, 2, 0) := ⟨⟨fc_G_of 1338 (by decide +kernel) rfl, fc_G_of 117 (by decide +kernel) rfl, by decide +kernel, by decide⟩, fun _ => ⟨fc_G_of 1337 (by decide +kernel) rfl, fc_G_of 36 (by decide +kernel) rfl⟩, fun h => absurd h (by decide)⟩
theorem kX11_thingOf : fc_mp (mX11_thingOf, 2, 0) := ⟨⟨fc_G_of 1346 (by decide +kernel) rfl, fc_G_of 117 (by decide +kernel) rfl, by decide +kernel, by decide⟩, fun _ => ⟨fc_G_of 1345 (by decide +kernel) rfl, fc_G_of 38 (by decide +kernel) rfl⟩, fun h => absurd h (by decide)⟩
theorem kX11_isPlace : fc_mp (mX11_isPlace, 1, 0) := ⟨⟨fc_G_of 1575 (by decide +kernel) rfl, fc_G_of 117 (by decide +kernel) rfl, by decide +kernel, by decide⟩, fun _ => ⟨fc_G_of 1574 (by decide +kernel) rfl, fc_G_of 65 (by decide +kernel) rfl⟩, fun h => absurd h (by decide)⟩
theorem kX11_isPerson : fc_mp (mX11_isPerson, 1, 0) := ⟨⟨fc_G_of 1599 (by decide +kernel) rfl, fc_G_of 117 (by decide +kernel) rfl, by decide +kernel, by decide⟩, fun _ => ⟨fc_G_of 1598 (by decide +kernel) rfl, fc_G_of 70 (by decide +kernel) rfl⟩, fun h => absurd h (by decide)⟩
theorem kX11_isThing : fc_mp (mX11_isThing, 1, 0) := ⟨⟨fc_G_of 1619 (by decide +kernel) rfl, fc_G_of 117 (by decide +kernel) rfl, by decide +kernel, by decide⟩, fun _ => ⟨fc_G_of 1618 (by decide +kernel) rfl, fc_G_of 74 (by decide +kernel) rfl⟩, fun h => absurd h (by decide)⟩
theorem kX11_bits : fc_mp (mX11_bits, 1, 1) := ⟨⟨fc_G_of 1658 (by decide +kernel) rfl, fc_G_of 117 (by decide +kernel) rfl, by decide +kernel, by decide⟩, fun h => absurd h (by decide), fun _ => fc_G_of 1657 (by decide +kernel) rfl⟩
theorem kX11_awakeAt : fc_mp (mX11_awakeAt, 1, 0) := ⟨⟨fc_G_of 1591 (by decide +kernel) rfl, fc_G_of 117 (by decide +kernel) rfl, by decide +kernel, by decide⟩, fun _ => ⟨fc_G_of 1590 (by decide +kernel) rfl, fc_G_of 69 (by decide +kernel) rfl⟩, fun h => absurd h (by decide)⟩
theorem kX11_isAwake : fc_mp (mX11_isAwake, 2, 0) := ⟨⟨fc_G_of 1603 (by decide +kernel) rfl, fc_G_of 117 (by decide +kernel) rfl, by decide +kernel, by decide⟩, fun _ => ⟨fc_G_of 1602 (by decide +kernel) rfl, fc_G_of 71 (by decide +kernel) rfl⟩, fun h => absurd h (by decide)⟩
theorem kX11_isReady : fc_mp (mX11_isReady, 2, 0) := ⟨⟨fc_G_of 1607 (by decide +kernel) rfl, fc_G_of 117 (by decide +kernel) rfl, by decide +kernel, by decide⟩, fun _ => ⟨fc_G_of 1606 (by decide +kernel) rfl, fc_G_of 72 (by decide +kernel) rfl⟩, fun h => absurd h (by decide)⟩
theorem kX11_whoIn : fc_mp (mX11_whoIn, 2, 0) := ⟨⟨fc_G_of 1587 (by decide +kernel) rfl, fc_G_of 117 (by decide +kernel) rfl, by decide +kernel, by decide⟩, fun _ => ⟨fc_G_of 1586 (by decide +kernel) rfl, fc_G_of 68 (by decide +kernel) rfl⟩, fun h => absurd h (by decide)⟩
theorem kX11_benches : fc_mp (mX11_benches, 0, 0) := ⟨⟨fc_G_of 1662 (by decide +kernel) rfl, fc_G_of 117 (by decide +kernel) rfl, by decide +kernel, by decide⟩, fun _ => ⟨fc_G_of 1661 (by decide +kernel) rfl, fc_G_of 82 (by decide +kernel) rfl⟩, fun h => absurd h (by decide)⟩
theorem kX11_doesBind : fc_mp (mX11_doesBind, 5, 0) := ⟨⟨fc_G_of 1655 (by decide +kernel) rfl, fc_G_of 117 (by decide +kernel) rfl, by decide +kernel, by decide⟩, fun _ => ⟨fc_G_of 1654 (by decide +kernel) rfl, fc_G_of 81 (by decide +kernel) rfl⟩, fun h => absurd h (by decide)⟩
theorem kX11_mayWalk : fc_mp (mX11_mayWalk, 3, 0) := ⟨⟨fc_G_of 1627 (by decide +kernel) rfl, fc_G_of 117 (by decide +kernel) rfl, by decide +kernel, by decide⟩, fun _ => ⟨fc_G_of 1626 (by decide +kernel) rfl, fc_G_of 75 (by decide +kernel) rfl⟩, fun h => absurd h (by decide)⟩
theorem kX11_walks : fc_mp (mX11_walks, 3, 0) := ⟨⟨fc_G_of 1639 (by decide +kernel) rfl, fc_G_of 117 (by decide +kernel) rfl, by decide +kernel, by decide⟩, fun _ => ⟨fc_G_of 1638 (by decide +kernel) rfl, fc_G_of 78 (by decide +kernel) rfl⟩, fun h => absurd h (by decide)⟩
theorem kX11_mayGive : fc_mp (mX11_mayGive, 3, 0) := ⟨⟨fc_G_of 1647 (by decide +kernel) rfl, fc_G_of 117 (by decide +kernel) rfl, by decide +kernel, by decide⟩, fun _ => ⟨fc_G_of 1646 (by decide +kernel) rfl, fc_G_of 79 (by decide +kernel) rfl⟩, fun h => absurd h (by decide)⟩
theorem kX11_gives : fc_mp (mX11_gives, 3, 0) := ⟨⟨fc_G_of 1651 (by decide +kernel) rfl, fc_G_of 117 (by decide +kernel) rfl, by decide +kernel, by decide⟩, fun _ => ⟨fc_G_of 1650 (by decide +kernel) rfl, fc_G_of 80 (by decide +kernel) rfl⟩, fun h => absurd h (by decide)⟩
theorem kX11_mayVow : fc_mp (mX11_mayVow, 3, 0) := ⟨⟨fc_G_of 1677 (by decide +kernel) rfl, fc_G_of 117 (by decide +kernel) rfl, by decide +kernel, by decide⟩, fun _ => ⟨fc_G_of 1676 (by decide +kernel) rfl, fc_G_of 84 (by decide +kernel) rfl⟩, fun h => absurd h (by decide)⟩
theorem kX11_vowsBy : fc_mp (mX11_vowsBy, 3, 0) := ⟨⟨fc_G_of 1681 (by decide +kernel) rfl, fc_G_of 117 (by decide +kernel) rfl, by decide +kernel, by decide⟩, fun _ => ⟨fc_G_of 1680 (by decide +kernel) rfl, fc_G_of 85 (by decide +kernel) rfl⟩, fun h => absurd h (by decide)⟩
theorem kX11_smokes : fc_mp (mX11_smokes, 1, 0) := ⟨⟨fc_G_of 1697 (by decide +kernel) rfl, fc_G_of 117 (by decide +kernel) rfl, by decide +kernel, by decide⟩, fun _ => ⟨fc_G_of 1696 (by decide +kernel) rfl, fc_G_of 88 (by decide +kernel) rfl⟩, fun h => absurd h (by decide)⟩
theorem kX11_passes : fc_mp (mX11_passes, 1, 0) := ⟨⟨fc_G_of 1689 (by decide +kernel) rfl, fc_G_of 117 (by decide +kernel) rfl, by decide +kernel, by decide⟩, fun _ => ⟨fc_G_of 1688 (by decide +kernel) rfl, fc_G_of 86 (by decide +kernel) rfl⟩, fun h => absurd h (by decide)⟩
theorem kX11_thingsWith : fc_mp (mX11_thingsWith, 2, 0) := ⟨⟨fc_G_of 1611 (by decide +kernel) rfl, fc_G_of 117 (by decide +kernel) rfl, by decide +kernel, by decide⟩, fun _ => ⟨fc_G_of 1610 (by decide +kernel) rfl, fc_G_of 73 (by decide +kernel) rfl⟩, fun h => absurd h (by decide)⟩
theorem kX11_wrongThings : fc_mp (mX11_wrongThings, 1, 0) := ⟨⟨fc_G_of 1784 (by decide +kernel) rfl, fc_G_of 117 (by decide +kernel) rfl, by decide +kernel, by decide⟩, fun _ => ⟨fc_G_of 1783 (by decide +kernel) rfl, fc_G_of 95 (by decide +kernel) rfl⟩, fun h => absurd h (by decide)⟩
theorem kX11_place : fc_mp (mX11_place, 2, 0) := ⟨⟨fc_G_of 1571 (by decide +kernel) rfl, fc_G_of 117 (by decide +kernel) rfl, by decide +kernel, by decide⟩, fun _ => ⟨fc_G_of 1569 (by decide +kernel) rfl, fc_G_of 1570 (by decide +kernel) rfl⟩, fun h => absurd h (by decide)⟩
theorem kX11_person : fc_mp (mX11_person, 2, 0) := ⟨⟨fc_G_of 1595 (by decide +kernel) rfl, fc_G_of 117 (by decide +kernel) rfl, by decide +kernel, by decide⟩, fun _ => ⟨fc_G_of 1593 (by decide +kernel) rfl, fc_G_of 1594 (by decide +kernel) rfl⟩, fun h => absurd h (by decide)⟩
theorem kX11_thing : fc_mp (mX11_thing, 2, 0) := ⟨⟨fc_G_of 1615 (by decide +kernel) rfl, fc_G_of 117 (by decide +kernel) rfl, by decide +kernel, by decide⟩, fun _ => ⟨fc_G_of 1613 (by decide +kernel) rfl, fc_G_of 1614 (by decide +kernel) rfl⟩, fun h => absurd h (by decide)⟩
theorem kX11_walk : fc_mp (mX11_walk, 2, 0) := ⟨⟨fc_G_of 1623 (by decide +kernel) rfl, fc_G_of 117 (by decide +kernel) rfl, by decide +kernel, by decide⟩, fun _ => ⟨fc_G_of 1621 (by decide +kernel) rfl, fc_G_of 1622 (by decide +kernel) rfl⟩, fun h => absurd h (by decide)⟩
theorem kX11_give : fc_mp (mX11_give, 2, 0) := ⟨⟨fc_G_of 1643 (by decide +kernel) rfl, fc_G_of 117 (by decide +kernel) rfl, by decide +kernel, by decide⟩, fun _ => ⟨fc_G_of 1641 (by decide +kernel) rfl, fc_G_of 1642 (by decide +kernel) rfl⟩, fun h => absurd h (by decide)⟩
theorem kX11_vow : fc_mp (mX11_vow, 2, 0) := ⟨⟨fc_G_of 1673 (by decide +kernel) rfl, fc_G_of 117 (by decide +kernel) rfl, by decide +kernel, by decide⟩, fun _ => ⟨fc_G_of 1671 (by decide +kernel) rfl, fc_G_of 1672 (by decide +kernel) rfl⟩, fun h => absurd h (by decide)⟩
theorem kX11_minute : fc_mp (mX11_minute, 0, 0) := ⟨⟨fc_G_of 1685 (by decide +kernel) rfl, fc_G_of 117 (by decide +kernel) rfl, by decide +kernel, by decide⟩, fun _ => ⟨fc_G_of 1683 (by decide +kernel) rfl, fc_G_of 1684 (by decide +kernel) rfl⟩, fun h => absurd h (by decide)⟩
theorem kX11_undo : fc_mp (mX11_undo, 0, 0) := ⟨⟨fc_G_of 1701 (by decide +kernel) rfl, fc_G_of 117 (by decide +kernel) rfl, by decide +kernel, by decide⟩, fun _ => ⟨fc_G_of 1699 (by decide +kernel) rfl, fc_G_of 1700 (by decide +kernel) rfl⟩, fun h => absurd h (by decide)⟩
theorem kX11_judged : fc_mp (mX11_judged, 1, 0) := ⟨⟨fc_G_of 1705 (by decide +kernel) rfl, fc_G_of 117 (by decide +kernel) rfl, by decide +kernel, by decide⟩, fun _ => ⟨fc_G_of 1703 (by decide +kernel) rfl, fc_G_of 1704 (by decide +kernel) rfl⟩, fun h => absurd h (by decide)⟩
theorem kX11_onFrom : fc_mp (mX11_onFrom, 2, 0) := ⟨⟨fc_G_of 1717 (by decide +kernel) rfl, fc_G_of 117 (by decide +kernel) rfl, by decide +kernel, by decide⟩, fun _ => ⟨fc_G_of 1716 (by decide +kernel) rfl, fc_G_of 90 (by decide +kernel) rfl⟩, fun h => absurd h (by decide)⟩
theorem kX11_reachBy : fc_mp (mX11_reachBy, 2, 0) := ⟨⟨fc_G_of 1713 (by decide +kernel) rfl, fc_G_of 117 (by decide +kernel) rfl, by decide +kernel, by decide⟩, fun _ => ⟨fc_G_of 1712 (by decide +kernel) rfl, fc_G_of 89 (by decide +kernel) rfl⟩, fun h => absurd h (by decide)⟩
theorem kX11_farOf : fc_mp (mX11_farOf, 2, 0) := ⟨⟨fc_G_of 1725 (by decide +kernel) rfl, fc_G_of 117 (by decide +kernel) rfl, by decide +kernel, by decide⟩, fun _ => ⟨fc_G_of 1724 (by decide +kernel) rfl, fc_G_of 91 (by decide +kernel) rfl⟩, fun h => absurd h (by decide)⟩
theorem kX11_reach : fc_mp (mX11_reach, 1, 0) := ⟨⟨fc_G_of 1709 (by decide +kernel) rfl, fc_G_of 117 (by decide +kernel) rfl, by decide +kernel, by decide⟩, fun _ => ⟨fc_G_of 1707 (by decide +kernel) rfl, fc_G_of 1708 (by decide +kernel) rfl⟩, fun h => absurd h (by decide)⟩
theorem kX11_far : fc_mp (mX11_far, 2, 0) := ⟨⟨fc_G_of 1721 (by decide +kernel) rfl, fc_G_of 117 (by decide +kernel) rfl, by decide +kernel, by decide⟩, fun _ => ⟨fc_G_of 1719 (by decide +kernel) rfl, fc_G_of 1720 (by decide +kernel) rfl⟩, fun h => absurd h (by decide)⟩
theorem kX11_cuts : fc_mp (mX11_cuts, 0, 0) := ⟨⟨fc_G_of 1729 (by decide +kernel) rfl, fc_G_of 117 (by decide +kernel) rfl, by decide +kernel, by decide⟩, fun _ => ⟨fc_G_of 1727 (by decide +kernel) rfl, fc_G_of 1728 (by decide +kernel) rfl⟩, fun h => absurd h (by decide)⟩
theorem kX11_hub : fc_mp (mX11_hub, 0, 0) := ⟨⟨fc_G_of 1733 (by decide +kernel) rfl, fc_G_of 117 (by decide +kernel) rfl, by decide +kernel, by decide⟩, fun _ => ⟨fc_G_of 1731 (by decide +kernel) rfl, fc_G_of 1732 (by decide +kernel) rfl⟩, fun h => absurd h (by decide)⟩
theorem kX11_links : fc_mp (mX11_links, 1, 0) := ⟨⟨fc_G_of 1737 (by decide +kernel) rfl, fc_G_of 117 (by decide +kernel) rfl, by decide +kernel, by decide⟩, fun _ => ⟨fc_G_of 1735 (by decide +kernel) rfl, fc_G_of 1736 (by decide +kernel) rfl⟩, fun h => absurd h (by decide)⟩
theorem kX11_wide : fc_mp (mX11_wide, 0, 0) := ⟨⟨fc_G_of 1741 (by decide +kernel) rfl, fc_G_of 117 (by decide +kernel) rfl, by decide +kernel, by decide⟩, fun _ => ⟨fc_G_of 1739 (by decide +kernel) rfl, fc_G_of 1740 (by decide +kernel) rfl⟩, fun h => absurd h (by decide)⟩
theorem kX11_readyIn : fc_mp (mX11_readyIn, 1, 0) := ⟨⟨fc_G_of 1753 (by decide +kernel) rfl, fc_G_of 117 (by decide +kernel) rfl, by decide +kernel, by decide⟩, fun _ => ⟨fc_G_of 1752 (by decide +kernel) rfl, fc_G_of 93 (by decide +kernel) rfl⟩, fun h => absurd h (by decide)⟩
theorem kX11_paceOf : fc_mp (mX11_paceOf, 1, 0) := ⟨⟨fc_G_of 1757 (by decide +kernel) rfl, fc_G_of 117 (by decide +kernel) rfl, by decide +kernel, by decide⟩, fun _ => ⟨fc_G_of 1756 (by decide +kernel) rfl, fc_G_of 94 (by decide +kernel) rfl⟩, fun h => absurd h (by decide)⟩
theorem kX11_soonOf : fc_mp (mX11_soonOf, 2, 0) := ⟨⟨fc_G_of 1749 (by decide +kernel) rfl, fc_G_of 117 (by decide +kernel) rfl, by decide +kernel, by decide⟩, fun _ => ⟨fc_G_of 1748 (by decide +kernel) rfl, fc_G_of 92 (by decide +kernel) rfl⟩, fun h => absurd h (by decide)⟩
theorem kX11_told : fc_mp (mX11_told, 1, 1) := ⟨⟨fc_G_of 1760 (by decide +kernel) rfl, fc_G_of 117 (by decide +kernel) rfl, by decide +kernel, by decide⟩, fun h => absurd h (by decide), fun _ => fc_G_of 1759 (by decide +kernel) rfl⟩
theorem kX11_soon : fc_mp (mX11_soon, 2, 0) := ⟨⟨fc_G_of 1745 (by decide +kernel) rfl, fc_G_of 117 (by decide +kernel) rfl, by decide +kernel, by decide⟩, fun _ => ⟨fc_G_of 1743 (by decide +kernel) rfl, fc_G_of 1744 (by decide +kernel) rfl⟩, fun h => absurd h (by decide)⟩
theorem kX11_meet : fc_mp (mX11_meet, 2, 0) := ⟨⟨fc_G_of 1764 (by decide +kernel) rfl, fc_G_of 117 (by decide +kernel) rfl, by decide +kernel, by decide⟩, fun _ => ⟨fc_G_of 1762 (by decide +kernel) rfl, fc_G_of 1763 (by decide +kernel) rfl⟩, fun h => absurd h (by decide)⟩
theorem kX11_all : fc_mp (mX11_all, 1, 0) := ⟨⟨fc_G_of 1768 (by decide +kernel) rfl, fc_G_of 117 (by decide +kernel) rfl, by decide +kernel, by decide⟩, fun _ => ⟨fc_G_of 1766 (by decide +kernel) rfl, fc_G_of 1767 (by decide +kernel) rfl⟩, fun h => absurd h (by decide)⟩
theorem kX11_tour : fc_mp (mX11_tour, 1, 0) := ⟨⟨fc_G_of 1772 (by decide +kernel) rfl, fc_G_of 117 (by decide +kernel) rfl, by decide +kernel, by decide⟩, fun _ => ⟨fc_G_of 1770 (by decide +kernel) rfl, fc_G_of 1771 (by decide +kernel) rfl⟩, fun h => absurd h (by decide)⟩
theorem kX11_intime : fc_mp (mX11_intime, 2, 0) := ⟨⟨fc_G_of 1776 (by decide +kernel) rfl, fc_G_of 117 (by decide +kernel) rfl, by decide +kernel, by decide⟩, fun _ => ⟨fc_G_of 1774 (by decide +kernel) rfl, fc_G_of 1775 (by decide +kernel) rfl⟩, fun h => absurd h (by decide)⟩
theorem kX11_back : fc_mp (mX11_back, 0, 0) := ⟨⟨fc_G_of 1780 (by decide +kernel) rfl, fc_G_of 117 (by decide +kernel) rfl, by decide +kernel, by decide⟩, fun _ => ⟨fc_G_of 1778 (by decide +kernel) rfl, fc_G_of 1779 (by decide +kernel) rfl⟩, fun h => absurd h (by decide)⟩
theorem kX11_could : fc_mp (mX11_could, 1, 0) := ⟨⟨fc_G_of 1788 (by decide +kernel) rfl, fc_G_of 117 (by decide +kernel) rfl, by decide +kernel, by decide⟩, fun _ => ⟨fc_G_of 1786 (by decide +kernel) rfl, fc_G_of 1787 (by decide +kernel) rfl⟩, fun h => absurd h (by decide)⟩
theorem kX11_wouldBind : fc_mp (mX11_wouldBind, 3, 0) := ⟨⟨fc_G_of 1800 (by decide +kernel) rfl, fc_G_of 117 (by decide +kernel) rfl, by decide +kernel, by decide⟩, fun _ => ⟨fc_G_of 1799 (by decide +kernel) rfl, fc_G_of 97 (by decide +kernel) rfl⟩, fun h => absurd h (by decide)⟩
theorem kX11_isGift : fc_mp (mX11_isGift, 2, 0) := ⟨⟨fc_G_of 1796 (by decide +kernel) rfl, fc_G_of 117 (by decide +kernel) rfl, by decide +kernel, by decide⟩, fun _ => ⟨fc_G_of 1795 (by decide +kernel) rfl, fc_G_of 96 (by decide +kernel) rfl⟩, fun h => absurd h (by decide)⟩
theorem kX11_would : fc_mp (mX11_would, 2, 0) := ⟨⟨fc_G_of 1792 (by decide +kernel) rfl, fc_G_of 117 (by decide +kernel) rfl, by decide +kernel, by decide⟩, fun _ => ⟨fc_G_of 1790 (by decide +kernel) rfl, fc_G_of 1791 (by decide +kernel) rfl⟩, fun h => absurd h (by decide)⟩
theorem kX11_when : fc_mp (mX11_when, 2, 0) := ⟨⟨fc_G_of 1804 (by decide +kernel) rfl, fc_G_of 117 (by decide +kernel) rfl, by decide +kernel, by decide⟩, fun _ => ⟨fc_G_of 1802 (by decide +kernel) rfl, fc_G_of 1803 (by decide +kernel) rfl⟩, fun h => absurd h (by decide)⟩
theorem kX11_vows : fc_mp (mX11_vows, 2, 0) := ⟨⟨fc_G_of 1808 (by decide +kernel) rfl, fc_G_of 117 (by decide +kernel) rfl, by decide +kernel, by decide⟩, fun _ => ⟨fc_G_of 1806 (by decide +kernel) rfl, fc_G_of 1807 (by decide +kernel) rfl⟩, fun h => absurd h (by decide)⟩
theorem kX11_sees : fc_mp (mX11_sees, 1, 0) := ⟨⟨fc_G_of 1812 (by decide +kernel) rfl, fc_G_of 117 (by decide +kernel) rfl, by decide +kernel, by decide⟩, fun _ => ⟨fc_G_of 1810 (by decide +kernel) rfl, fc_G_of 1811 (by decide +kernel) rfl⟩, fun h => absurd h (by decide)⟩
theorem kX11_heard : fc_mp (mX11_heard, 1, 0) := ⟨⟨fc_G_of 1816 (by decide +kernel) rfl, fc_G_of 117 (by decide +kernel) rfl, by decide +kernel, by decide⟩, fun _ => ⟨fc_G_of 1814 (by decide +kernel) rfl, fc_G_of 1815 (by decide +kernel) rfl⟩, fun h => absurd h (by decide)⟩
theorem kX11_heardOfAll : fc_mp (mX11_heardOfAll, 1, 0) := ⟨⟨fc_G_of 1828 (by decide +kernel) rfl, fc_G_of 117 (by decide +kernel) rfl, by decide +kernel, by decide⟩, fun _ => ⟨fc_G_of 1827 (by decide +kernel) rfl, fc_G_of 99 (by decide +kernel) rfl⟩, fun h => absurd h (by decide)⟩
theorem kX11_triesNow : fc_mp (mX11_triesNow, 0, 0) := ⟨⟨fc_G_of 1824 (by decide +kernel) rfl, fc_G_of 117 (by decide +kernel) rfl, by decide +kernel, by decide⟩, fun _ => ⟨fc_G_of 1823 (by decide +kernel) rfl, fc_G_of 98 (by decide +kernel) rfl⟩, fun h => absurd h (by decide)⟩
theorem kX11_news : fc_mp (mX11_news, 0, 0) := ⟨⟨fc_G_of 1820 (by decide +kernel) rfl, fc_G_of 117 (by decide +kernel) rfl, by decide +kernel, by decide⟩, fun _ => ⟨fc_G_of 1818 (by decide +kernel) rfl, fc_G_of 1819 (by decide +kernel) rfl⟩, fun h => absurd h (by decide)⟩
theorem kX11_alone : fc_mp (mX11_alone, 0, 0) := ⟨⟨fc_G_of 1832 (by decide +kernel) rfl, fc_G_of 117 (by decide +kernel) rfl, by decide +kernel, by decide⟩, fun _ => ⟨fc_G_of 1830 (by decide +kernel) rfl, fc_G_of 1831 (by decide +kernel) rfl⟩, fun h => absurd h (by decide)⟩
theorem kX11_see : fc_mp (mX11_see, 3, 0) := ⟨⟨fc_G_of 1836 (by decide +kernel) rfl, fc_G_of 117 (by decide +kernel) rfl, by decide +kernel, by decide⟩, fun _ => ⟨fc_G_of 1834 (by decide +kernel) rfl, fc_G_of 1835 (by decide +kernel) rfl⟩, fun h => absurd h (by decide)⟩
theorem kX11_whoNow : fc_mp (mX11_whoNow, 0, 0) := ⟨⟨fc_G_of 1844 (by decide +kernel) rfl, fc_G_of 117 (by decide +kernel) rfl, by decide +kernel, by decide⟩, fun _ => ⟨fc_G_of 1843 (by decide +kernel) rfl, fc_G_of 100 (by decide +kernel) rfl⟩, fun h => absurd h (by decide)⟩
theorem kX11_who : fc_mp (mX11_who, 0, 0) := ⟨⟨fc_G_of 1840 (by decide +kernel) rfl, fc_G_of 117 (by decide +kernel) rfl, by decide +kernel, by decide⟩, fun _ => ⟨fc_G_of 1838 (by decide +kernel) rfl, fc_G_of 1839 (by decide +kernel) rfl⟩, fun h => absurd h (by decide)⟩
theorem kX11_ask : fc_mp (mX11_ask, 0, 0) := ⟨⟨fc_G_of 1848 (by decide +kernel) rfl, fc_G_of 117 (by decide +kernel) rfl, by decide +kernel, by decide⟩, fun _ => ⟨fc_G_of 1846 (by decide +kernel) rfl, fc_G_of 1847 (by decide +kernel) rfl⟩, fun h => absurd h (by decide)⟩
theorem kX11_worthOf : fc_mp (mX11_worthOf, 2, 0) := ⟨⟨fc_G_of 1856 (by decide +kernel) rfl, fc_G_of 117 (by decide +kernel) rfl, by decide +kernel, by decide⟩, fun _ => ⟨fc_G_of 1855 (by decide +kernel) rfl, fc_G_of 101 (by decide +kernel) rfl⟩, fun h => absurd h (by decide)⟩
theorem kX11_has : fc_mp (mX11_has, 2, 0) := ⟨⟨fc_G_of 1852 (by decide +kernel) rfl, fc_G_of 117 (by decide +kernel) rfl, by decide +kernel, by decide⟩, fun _ => ⟨fc_G_of 1850 (by decide +kernel) rfl, fc_G_of 1851 (by decide +kernel) rfl⟩, fun h => absurd h (by decide)⟩
theorem kX11_sleeps : fc_mp (mX11_sleeps, 1, 0) := ⟨⟨fc_G_of 1860 (by decide +kernel) rfl, fc_G_of 117 (by decide +kernel) rfl, by decide +kernel, by decide⟩, fun _ => ⟨fc_G_of 1858 (by decide +kernel) rfl, fc_G_of 1859 (by decide +kernel) rfl⟩, fun h => absurd h (by decide)⟩
theorem kX11_rich : fc_mp (mX11_rich, 1, 0) := ⟨⟨fc_G_of 1864 (by decide +kernel) rfl, fc_G_of 117 (by decide +kernel) rfl, by decide +kernel, by decide⟩, fun _ => ⟨fc_G_of 1862 (by decide +kernel) rfl, fc_G_of 1863 (by decide +kernel) rfl⟩, fun h => absurd h (by decide)⟩
theorem kX11_chance : fc_mp (mX11_chance, 2, 0) := ⟨⟨fc_G_of 1868 (by decide +kernel) rfl, fc_G_of 117 (by decide +kernel) rfl, by decide +kernel, by decide⟩, fun _ => ⟨fc_G_of 1866 (by decide +kernel) rfl, fc_G_of 1867 (by decide +kernel) rfl⟩, fun h => absurd h (by decide)⟩
theorem kX11_getsBy : fc_mp (mX11_getsBy, 5, 1) := ⟨⟨fc_G_of 1876 (by decide +kernel) rfl, fc_G_of 117 (by decide +kernel) rfl, by decide +kernel, by decide⟩, fun h => absurd h (by decide), fun _ => fc_G_of 1875 (by decide +kernel) rfl⟩
theorem kX11_rests : fc_mp (mX11_rests, 4, 0) := ⟨⟨fc_G_of 1873 (by decide +kernel) rfl, fc_G_of 117 (by decide +kernel) rfl, by decide +kernel, by decide⟩, fun _ => ⟨fc_G_of 1871 (by decide +kernel) rfl, fc_G_of 1872 (by decide +kernel) rfl⟩, fun h => absurd h (by decide)⟩
theorem kX11_draw : fc_mp (mX11_draw, 1, 0) := ⟨⟨fc_G_of 1888 (by decide +kernel) rfl, fc_G_of 117 (by decide +kernel) rfl, by decide +kernel, by decide⟩, fun _ => ⟨fc_G_of 1887 (by decide +kernel) rfl, fc_G_of 103 (by decide +kernel) rfl⟩, fun h => absurd h (by decide)⟩
theorem kX11_drawsDeed : fc_mp (mX11_drawsDeed, 0, 0) := ⟨⟨fc_G_of 1884 (by decide +kernel) rfl, fc_G_of 117 (by decide +kernel) rfl, by decide +kernel, by decide⟩, fun _ => ⟨fc_G_of 1883 (by decide +kernel) rfl, fc_G_of 102 (by decide +kernel) rfl⟩, fun h => absurd h (by decide)⟩
theorem kX11_mornings : fc_mp (mX11_mornings, 3, 0) := ⟨⟨fc_G_of 1880 (by decide +kernel) rfl, fc_G_of 117 (by decide +kernel) rfl, by decide +kernel, by decide⟩, fun _ => ⟨fc_G_of 1878 (by decide +kernel) rfl, fc_G_of 1879 (by decide +kernel) rfl⟩, fun h => absurd h (by decide)⟩
theorem kX11_mark : fc_mp (mX11_mark, 2, 0) := ⟨⟨fc_G_of 1896 (by decide +kernel) rfl, fc_G_of 117 (by decide +kernel) rfl, by decide +kernel, by decide⟩, fun _ => ⟨fc_G_of 1894 (by decide +kernel) rfl, fc_G_of 1895 (by decide +kernel) rfl⟩, fun h => absurd h (by decide)⟩
theorem kX11_pairsOf : fc_mp (mX11_pairsOf, 1, 0) := ⟨⟨fc_G_of 1904 (by decide +kernel) rfl, fc_G_of 117 (by decide +kernel) rfl, by decide +kernel, by decide⟩, fun _ => ⟨fc_G_of 1903 (by decide +kernel) rfl, fc_G_of 104 (by decide +kernel) rfl⟩, fun h => absurd h (by decide)⟩
theorem kX11_count : fc_mp (mX11_count, 1, 0) := ⟨⟨fc_G_of 1900 (by decide +kernel) rfl, fc_G_of 117 (by decide +kernel) rfl, by decide +kernel, by decide⟩, fun _ => ⟨fc_G_of 1898 (by decide +kernel) rfl, fc_G_of 1899 (by decide +kernel) rfl⟩, fun h => absurd h (by decide)⟩
theorem kJ11_isValidCodePoint_9a6ad : fc_mp (mJ11_isValidCodePoint_9a6ad, 1, 1) := ⟨⟨fc_G_of 650 (by decide +kernel) rfl, fc_G_of 124 (by decide +kernel) rfl, by decide +kernel, by decide⟩, fun h => absurd h (by decide), fun _ => fc_G_of 649 (by decide +kernel) rfl⟩
theorem kJ11_highSurrogate_5068e : fc_mp (mJ11_highSurrogate_5068e, 1, 1) := ⟨⟨fc_G_of 653 (by decide +kernel) rfl, fc_G_of 124 (by decide +kernel) rfl, by decide +kernel, by decide⟩, fun h => absurd h (by decide), fun _ => fc_G_of 652 (by decide +kernel) rfl⟩
theorem kJ11_lowSurrogate_5068e : fc_mp (mJ11_lowSurrogate_5068e, 1, 1) := ⟨⟨fc_G_of 657 (by decide +kernel) rfl, fc_G_of 124 (by decide +kernel) rfl, by decide +kernel, by decide⟩, fun h => absurd h (by decide), fun _ => fc_G_of 656 (by decide +kernel) rfl⟩
theorem kJ6_bitCount_0f7a4 : fc_mp (mJ6_bitCount_0f7a4, 1, 1) := ⟨⟨fc_G_of 899 (by decide +kernel) rfl, fc_G_of 126 (by decide +kernel) rfl, by decide +kernel, by decide⟩, fun h => absurd h (by decide), fun _ => fc_G_of 898 (by decide +kernel) rfl⟩
theorem kJ9_max_7cf53 : fc_mp (mJ9_max_7cf53, 2, 1) := ⟨⟨fc_G_of 617 (by decide +kernel) rfl, fc_G_of 123 (by decide +kernel) rfl, by decide +kernel, by decide⟩, fun h => absurd h (by decide), fun _ => fc_G_of 616 (by decide +kernel) rfl⟩
theorem kJ9_min_7cf53 : fc_mp (mJ9_min_7cf53, 2, 1) := ⟨⟨fc_G_of 620 (by decide +kernel) rfl, fc_G_of 123 (by decide +kernel) rfl, by decide +kernel, by decide⟩, fun h => absurd h (by decide), fun _ => fc_G_of 619 (by decide +kernel) rfl⟩
theorem kJ0_length_8abf5 : fc_mp (mJ0_length_8abf5, 0, 0) := ⟨⟨fc_G_of 550 (by decide +kernel) rfl, fc_G_of 119 (by decide +kernel) rfl, by decide +kernel, by decide⟩, fun _ => ⟨fc_G_of 548 (by decide +kernel) rfl, fc_G_of 549 (by decide +kernel) rfl⟩, fun h => absurd h (by decide)⟩
theorem kJ0_charAt_5068e : fc_mp (mJ0_charAt_5068e, 1, 0) := ⟨⟨fc_G_of 560 (by decide +kernel) rfl, fc_G_of 119 (by decide +kernel) rfl, by decide +kernel, by decide⟩, fun _ => ⟨fc_G_of 558 (by decide +kernel) rfl, fc_G_of 559 (by decide +kernel) rfl⟩, fun h => absurd h (by decide)⟩
theorem kJ0_indexOf_0f7a4 : fc_mp (mJ0_indexOf_0f7a4, 1, 0) := ⟨⟨fc_G_of 603 (by decide +kernel) rfl, fc_G_of 119 (by decide +kernel) rfl, by decide +kernel, by decide⟩, fun _ => ⟨fc_G_of 601 (by decide +kernel) rfl, fc_G_of 602 (by decide +kernel) rfl⟩, fun h => absurd h (by decide)⟩
theorem kJ0_indexOf_7cf53 : fc_mp (mJ0_indexOf_7cf53, 2, 0) := ⟨⟨fc_G_of 607 (by decide +kernel) rfl, fc_G_of 119 (by decide +kernel) rfl, by decide +kernel, by decide⟩, fun _ => ⟨fc_G_of 605 (by decide +kernel) rfl, fc_G_of 606 (by decide +kernel) rfl⟩, fun h => absurd h (by decide)⟩
theorem kJ0_coder_7d493 : fc_mp (mJ0_coder_7d493, 0, 0) := ⟨⟨fc_G_of 554 (by decide +kernel) rfl, fc_G_of 119 (by decide +kernel) rfl, by decide +kernel, by decide⟩, fun _ => ⟨fc_G_of 552 (by decide +kernel) rfl, fc_G_of 553 (by decide +kernel) rfl⟩, fun h => absurd h (by decide)⟩
theorem kJ0_isLatin1_aae02 : fc_mp (mJ0_isLatin1_aae02, 0, 0) := ⟨⟨fc_G_of 564 (by decide +kernel) rfl, fc_G_of 119 (by decide +kernel) rfl, by decide +kernel, by decide⟩, fun _ => ⟨fc_G_of 562 (by decide +kernel) rfl, fc_G_of 563 (by decide +kernel) rfl⟩, fun h => absurd h (by decide)⟩
theorem kJ0_checkIndex_df160 : fc_mp (mJ0_checkIndex_df160, 2, 1) := ⟨⟨fc_G_of 570 (by decide +kernel) rfl, fc_G_of 119 (by decide +kernel) rfl, by decide +kernel, by decide⟩, fun h => absurd h (by decide), fun _ => fc_G_of 569 (by decide +kernel) rfl⟩
theorem kJ0_checkBoundsBeginEnd_23922 : fc_mp (mJ0_checkBoundsBeginEnd_23922, 3, 1) := ⟨⟨fc_G_of 638 (by decide +kernel) rfl, fc_G_of 119 (by decide +kernel) rfl, by decide +kernel, by decide⟩, fun h => absurd h (by decide), fun _ => fc_G_of 637 (by decide +kernel) rfl⟩
theorem kJ1_charAt_3b067 : fc_mp (mJ1_charAt_3b067, 2, 1) := ⟨⟨fc_G_of 567 (by decide +kernel) rfl, fc_G_of 120 (by decide +kernel) rfl, by decide +kernel, by decide⟩, fun h => absurd h (by decide), fun _ => fc_G_of 566 (by decide +kernel) rfl⟩
theorem kJ1_canEncode_9a6ad : fc_mp (mJ1_canEncode_9a6ad, 1, 1) := ⟨⟨fc_G_of 614 (by decide +kernel) rfl, fc_G_of 120 (by decide +kernel) rfl, by decide +kernel, by decide⟩, fun h => absurd h (by decide), fun _ => fc_G_of 613 (by decide +kernel) rfl⟩
theorem kJ1_indexOf_4cfef : fc_mp (mJ1_indexOf_4cfef, 4, 1) := ⟨⟨fc_G_of 611 (by decide +kernel) rfl, fc_G_of 120 (by decide +kernel) rfl, by decide +kernel, by decide⟩, fun h => absurd h (by decide), fun _ => fc_G_of 610 (by decide +kernel) rfl⟩
theorem kJ1_indexOfChar_4cfef : fc_mp (mJ1_indexOfChar_4cfef, 4, 1) := ⟨⟨fc_G_of 623 (by decide +kernel) rfl, fc_G_of 120 (by decide +kernel) rfl, by decide +kernel, by decide⟩, fun h => absurd h (by decide), fun _ => fc_G_of 622 (by decide +kernel) rfl⟩
theorem kJ2_getChar_3b067 : fc_mp (mJ2_getChar_3b067, 2, 1) := ⟨⟨fc_G_of 588 (by decide +kernel) rfl, fc_G_of 122 (by decide +kernel) rfl, by decide +kernel, by decide⟩, fun h => absurd h (by decide), fun _ => fc_G_of 587 (by decide +kernel) rfl⟩
theorem kJ2_length_9d52b : fc_mp (mJ2_length_9d52b, 1, 1) := ⟨⟨fc_G_of 584 (by decide +kernel) rfl, fc_G_of 122 (by decide +kernel) rfl, by decide +kernel, by decide⟩, fun h => absurd h (by decide), fun _ => fc_G_of 583 (by decide +kernel) rfl⟩
theorem kJ2_indexOf_4cfef : fc_mp (mJ2_indexOf_4cfef, 4, 1) := ⟨⟨fc_G_of 626 (by decide +kernel) rfl, fc_G_of 122 (by decide +kernel) rfl, by decide +kernel, by decide⟩, fun h => absurd h (by decide), fun _ => fc_G_of 625 (by decide +kernel) rfl⟩
theorem kJ2_indexOfChar_4cfef : fc_mp (mJ2_indexOfChar_4cfef, 4, 1) := ⟨⟨fc_G_of 632 (by decide +kernel) rfl, fc_G_of 122 (by decide +kernel) rfl, by decide +kernel, by decide⟩, fun h => absurd h (by decide), fun _ => fc_G_of 631 (by decide +kernel) rfl⟩
theorem kJ2_indexOfCharUnsafe_4cfef : fc_mp (mJ2_indexOfCharUnsafe_4cfef, 4, 1) := ⟨⟨fc_G_of 644 (by decide +kernel) rfl, fc_G_of 122 (by decide +kernel) rfl, by decide +kernel, by decide⟩, fun h => absurd h (by decide), fun _ => fc_G_of 643 (by decide +kernel) rfl⟩
theorem kJ2_indexOfSupplementary_4cfef : fc_mp (mJ2_indexOfSupplementary_4cfef, 4, 1) := ⟨⟨fc_G_of 647 (by decide +kernel) rfl, fc_G_of 122 (by decide +kernel) rfl, by decide +kernel, by decide⟩, fun h => absurd h (by decide), fun _ => fc_G_of 646 (by decide +kernel) rfl⟩
theorem kJ2_charAt_3b067 : fc_mp (mJ2_charAt_3b067, 2, 1) := ⟨⟨fc_G_of 578 (by decide +kernel) rfl, fc_G_of 122 (by decide +kernel) rfl, by decide +kernel, by decide⟩, fun h => absurd h (by decide), fun _ => fc_G_of 577 (by decide +kernel) rfl⟩
theorem kJ2_checkIndex_2214a : fc_mp (mJ2_checkIndex_2214a, 2, 1) := ⟨⟨fc_G_of 581 (by decide +kernel) rfl, fc_G_of 122 (by decide +kernel) rfl, by decide +kernel, by decide⟩, fun h => absurd h (by decide), fun _ => fc_G_of 580 (by decide +kernel) rfl⟩
theorem kJ2_checkBoundsBeginEnd_d044e : fc_mp (mJ2_checkBoundsBeginEnd_d044e, 3, 1) := ⟨⟨fc_G_of 635 (by decide +kernel) rfl, fc_G_of 122 (by decide +kernel) rfl, by decide +kernel, by decide⟩, fun h => absurd h (by decide), fun _ => fc_G_of 634 (by decide +kernel) rfl⟩
theorem kJ7_fill_53178 : fc_mp (mJ7_fill_53178, 2, 1) := ⟨⟨fc_G_of 528 (by decide +kernel) rfl, fc_G_of 118 (by decide +kernel) rfl, by decide +kernel, by decide⟩, fun h => absurd h (by decide), fun _ => fc_G_of 527 (by decide +kernel) rfl⟩
theorem kJ3_checkIndex_8e157 : fc_mp (mJ3_checkIndex_8e157, 3, 1) := ⟨⟨fc_G_of 575 (by decide +kernel) rfl, fc_G_of 121 (by decide +kernel) rfl, by decide +kernel, by decide⟩, fun h => absurd h (by decide), fun _ => fc_G_of 574 (by decide +kernel) rfl⟩
theorem kJ3_checkFromToIndex_8c36e : fc_mp (mJ3_checkFromToIndex_8c36e, 4, 1) := ⟨⟨fc_G_of 641 (by decide +kernel) rfl, fc_G_of 121 (by decide +kernel) rfl, by decide +kernel, by decide⟩, fun h => absurd h (by decide), fun _ => fc_G_of 640 (by decide +kernel) rfl⟩
def fc_mt0 : List (fc_M × Nat × Nat) := [(mX0_clear, 0, 0), (mX0_indexOf, 3, 1), (mX0_isTold, 1, 0), (mX0_hasPlace, 1, 0), (mX0_hasPerson, 1, 0), (mX0_hasThing, 1, 0), (mX0_isAwake, 2, 0), (mX0_sleepOf, 2, 0), (mX0_awakeBits, 1, 0), (mX1_read, 2, 0), (mX1_isNewName, 2, 1), (mX1_readPlace, 2, 0), (mX1_readPath, 2, 0), (mX1_readPerson, 2, 0), (mX1_readThing, 2, 0), (mX1_readSmoke, 2, 0)]
theorem fc_mo0 : ∀ t ∈ fc_mt0, fc_mp t := List.forall_mem_cons.mpr ⟨kX0_clear, List.forall_mem_cons.mpr ⟨kX0_indexOf, List.forall_mem_cons.mpr ⟨kX0_isTold, List.forall_mem_cons.mpr ⟨kX0_hasPlace, List.forall_mem_cons.mpr ⟨kX0_hasPerson, List.forall_mem_cons.mpr ⟨kX0_hasThing, List.forall_mem_cons.mpr ⟨kX0_isAwake, List.forall_mem_cons.mpr ⟨kX0_sleepOf, List.forall_mem_cons.mpr ⟨kX0_awakeBits, List.forall_mem_cons.mpr ⟨kX1_read, List.forall_mem_cons.mpr ⟨kX1_isNewName, List.forall_mem_cons.mpr ⟨kX1_readPlace, List.forall_mem_cons.mpr ⟨kX1_readPath, List.forall_mem_cons.mpr ⟨kX1_readPerson, List.forall_mem_cons.mpr ⟨kX1_readThing, List.forall_mem_cons.mpr ⟨kX1_readSmoke, fun _ h => absurd h List.not_mem_nil⟩⟩⟩⟩⟩⟩⟩⟩⟩⟩⟩⟩⟩⟩⟩⟩
def fc_mt1 : List (fc_M × Nat × Nat) := [(mX1_readBinds, 2, 0), (mX2_write, 1, 0), (mX2_valueAt, 4, 0), (mX2_operand, 5, 1), (mX2_joined, 3, 1), (mX3_read, 2, 0), (mX3_readPart, 2, 0), (mX3_readBehind, 2, 0), (mX3_closeNots, 1, 0), (mX3_await, 1, 0), (mX3_writeDown, 2, 0), (mX3_rankOf, 1, 1), (mX4_forget, 0, 0), (mX4_keep, 1, 0), (mX4_bringBack, 1, 0), (mX4_lay, 3, 0)]
theorem fc_mo1 : ∀ t ∈ fc_mt1, fc_mp t := List.forall_mem_cons.mpr ⟨kX1_readBinds, List.forall_mem_cons.mpr ⟨kX2_write, List.forall_mem_cons.mpr ⟨kX2_valueAt, List.forall_mem_cons.mpr ⟨kX2_operand, List.forall_mem_cons.mpr ⟨kX2_joined, List.forall_mem_cons.mpr ⟨kX3_read, List.forall_mem_cons.mpr ⟨kX3_readPart, List.forall_mem_cons.mpr ⟨kX3_readBehind, List.forall_mem_cons.mpr ⟨kX3_closeNots, List.forall_mem_cons.mpr ⟨kX3_await, List.forall_mem_cons.mpr ⟨kX3_writeDown, List.forall_mem_cons.mpr ⟨kX3_rankOf, List.forall_mem_cons.mpr ⟨kX4_forget, List.forall_mem_cons.mpr ⟨kX4_keep, List.forall_mem_cons.mpr ⟨kX4_bringBack, List.forall_mem_cons.mpr ⟨kX4_lay, fun _ h => absurd h List.not_mem_nil⟩⟩⟩⟩⟩⟩⟩⟩⟩⟩⟩⟩⟩⟩⟩⟩
def fc_mt2 : List (fc_M × Nat × Nat) := [(mX4_goBack, 3, 0), (mX5_read, 2, 0), (mX5_readLine, 2, 0), (mX5_readNames, 3, 0), (mX5_play, 3, 0), (mX6_add, 3, 0), (mX6_copy, 1, 0), (mX7_begin, 1, 0), (mX7_copy, 1, 0), (mX7_bitsAt, 2, 0), (mX7_strayThings, 1, 0), (mX7_newsOfAll, 1, 0), (mX7_isReady, 2, 0), (mX7_minutesOver, 3, 0), (mX7_canWalk, 3, 0), (mX7_goTo, 3, 0)]
theorem fc_mo2 : ∀ t ∈ fc_mt2, fc_mp t := List.forall_mem_cons.mpr ⟨kX4_goBack, List.forall_mem_cons.mpr ⟨kX5_read, List.forall_mem_cons.mpr ⟨kX5_readLine, List.forall_mem_cons.mpr ⟨kX5_readNames, List.forall_mem_cons.mpr ⟨kX5_play, List.forall_mem_cons.mpr ⟨kX6_add, List.forall_mem_cons.mpr ⟨kX6_copy, List.forall_mem_cons.mpr ⟨kX7_begin, List.forall_mem_cons.mpr ⟨kX7_copy, List.forall_mem_cons.mpr ⟨kX7_bitsAt, List.forall_mem_cons.mpr ⟨kX7_strayThings, List.forall_mem_cons.mpr ⟨kX7_newsOfAll, List.forall_mem_cons.mpr ⟨kX7_isReady, List.forall_mem_cons.mpr ⟨kX7_minutesOver, List.forall_mem_cons.mpr ⟨kX7_canWalk, List.forall_mem_cons.mpr ⟨kX7_goTo, fun _ h => absurd h List.not_mem_nil⟩⟩⟩⟩⟩⟩⟩⟩⟩⟩⟩⟩⟩⟩⟩⟩
def fc_mt3 : List (fc_M × Nat × Nat) := [(mX7_canGive, 3, 0), (mX7_handOver, 3, 0), (mX7_canVow, 3, 0), (mX7_pledge, 3, 0), (mX7_giftBinds, 4, 0), (mX7_isBinding, 5, 0), (mX7_pass, 1, 0), (mX7_shareNews, 2, 0), (mX7_riseSmoke, 1, 0), (mX8_put, 1, 0), (mX8_clear, 0, 0), (mX8_open, 0, 0), (mX8_next, 0, 0), (mX8_readWord, 0, 0), (mX8_readNumber, 0, 0), (mX8_cellIn, 1, 0)]
theorem fc_mo3 : ∀ t ∈ fc_mt3, fc_mp t := List.forall_mem_cons.mpr ⟨kX7_canGive, List.forall_mem_cons.mpr ⟨kX7_handOver, List.forall_mem_cons.mpr ⟨kX7_canVow, List.forall_mem_cons.mpr ⟨kX7_pledge, List.forall_mem_cons.mpr ⟨kX7_giftBinds, List.forall_mem_cons.mpr ⟨kX7_isBinding, List.forall_mem_cons.mpr ⟨kX7_pass, List.forall_mem_cons.mpr ⟨kX7_shareNews, List.forall_mem_cons.mpr ⟨kX7_riseSmoke, List.forall_mem_cons.mpr ⟨kX8_put, List.forall_mem_cons.mpr ⟨kX8_clear, List.forall_mem_cons.mpr ⟨kX8_open, List.forall_mem_cons.mpr ⟨kX8_next, List.forall_mem_cons.mpr ⟨kX8_readWord, List.forall_mem_cons.mpr ⟨kX8_readNumber, List.forall_mem_cons.mpr ⟨kX8_cellIn, fun _ h => absurd h List.not_mem_nil⟩⟩⟩⟩⟩⟩⟩⟩⟩⟩⟩⟩⟩⟩⟩⟩
def fc_mt4 : List (fc_M × Nat × Nat) := [(mX8_fail, 1, 0), (mX8_take, 1, 0), (mX8_isNumber, 2, 0), (mX8_known, 2, 0), (mX9_measure, 1, 0), (mX9_measureFrom, 2, 0), (mX9_neighbours, 2, 1), (mX9_spread, 3, 0), (mX9_isCut, 2, 0), (mX9_farthestFrom, 2, 0), (mX9_pathsOfTour, 2, 0), (mX9_stepOn, 1, 0), (mX10_feed, 3, 0), (mX10_land, 0, 0), (mX10_morning, 0, 0), (mX10_place, 2, 0)]
theorem fc_mo4 : ∀ t ∈ fc_mt4, fc_mp t := List.forall_mem_cons.mpr ⟨kX8_fail, List.forall_mem_cons.mpr ⟨kX8_take, List.forall_mem_cons.mpr ⟨kX8_isNumber, List.forall_mem_cons.mpr ⟨kX8_known, List.forall_mem_cons.mpr ⟨kX9_measure, List.forall_mem_cons.mpr ⟨kX9_measureFrom, List.forall_mem_cons.mpr ⟨kX9_neighbours, List.forall_mem_cons.mpr ⟨kX9_spread, List.forall_mem_cons.mpr ⟨kX9_isCut, List.forall_mem_cons.mpr ⟨kX9_farthestFrom, List.forall_mem_cons.mpr ⟨kX9_pathsOfTour, List.forall_mem_cons.mpr ⟨kX9_stepOn, List.forall_mem_cons.mpr ⟨kX10_feed, List.forall_mem_cons.mpr ⟨kX10_land, List.forall_mem_cons.mpr ⟨kX10_morning, List.forall_mem_cons.mpr ⟨kX10_place, fun _ h => absurd h List.not_mem_nil⟩⟩⟩⟩⟩⟩⟩⟩⟩⟩⟩⟩⟩⟩⟩⟩
def fc_mt5 : List (fc_M × Nat × Nat) := [(mX10_person, 2, 0), (mX10_thing, 2, 0), (mX10_walk, 2, 0), (mX10_give, 2, 0), (mX10_vow, 2, 0), (mX10_minute, 0, 0), (mX10_undo, 0, 0), (mX10_judged, 1, 0), (mX10_soon, 2, 0), (mX10_meet, 2, 0), (mX10_all, 1, 0), (mX10_tour, 1, 0), (mX10_intime, 2, 0), (mX10_back, 0, 0), (mX10_could, 1, 0), (mX10_would, 2, 0)]
theorem fc_mo5 : ∀ t ∈ fc_mt5, fc_mp t := List.forall_mem_cons.mpr ⟨kX10_person, List.forall_mem_cons.mpr ⟨kX10_thing, List.forall_mem_cons.mpr ⟨kX10_walk, List.forall_mem_cons.mpr ⟨kX10_give, List.forall_mem_cons.mpr ⟨kX10_vow, List.forall_mem_cons.mpr ⟨kX10_minute, List.forall_mem_cons.mpr ⟨kX10_undo, List.forall_mem_cons.mpr ⟨kX10_judged, List.forall_mem_cons.mpr ⟨kX10_soon, List.forall_mem_cons.mpr ⟨kX10_meet, List.forall_mem_cons.mpr ⟨kX10_all, List.forall_mem_cons.mpr ⟨kX10_tour, List.forall_mem_cons.mpr ⟨kX10_intime, List.forall_mem_cons.mpr ⟨kX10_back, List.forall_mem_cons.mpr ⟨kX10_could, List.forall_mem_cons.mpr ⟨kX10_would, fun _ h => absurd h List.not_mem_nil⟩⟩⟩⟩⟩⟩⟩⟩⟩⟩⟩⟩⟩⟩⟩⟩
def fc_mt6 : List (fc_M × Nat × Nat) := [(mX10_when, 2, 0), (mX10_vows, 2, 0), (mX10_sees, 1, 0), (mX10_heard, 1, 0), (mX10_news, 0, 0), (mX10_alone, 0, 0), (mX10_reach, 1, 0), (mX10_far, 2, 0), (mX10_cuts, 0, 0), (mX10_hub, 0, 0), (mX10_links, 1, 0), (mX10_see, 3, 0), (mX10_who, 0, 0), (mX10_ask, 0, 0), (mX10_wide, 0, 0), (mX10_has, 2, 0)]
theorem fc_mo6 : ∀ t ∈ fc_mt6, fc_mp t := List.forall_mem_cons.mpr ⟨kX10_when, List.forall_mem_cons.mpr ⟨kX10_vows, List.forall_mem_cons.mpr ⟨kX10_sees, List.forall_mem_cons.mpr ⟨kX10_heard, List.forall_mem_cons.mpr ⟨kX10_news, List.forall_mem_cons.mpr ⟨kX10_alone, List.forall_mem_cons.mpr ⟨kX10_reach, List.forall_mem_cons.mpr ⟨kX10_far, List.forall_mem_cons.mpr ⟨kX10_cuts, List.forall_mem_cons.mpr ⟨kX10_hub, List.forall_mem_cons.mpr ⟨kX10_links, List.forall_mem_cons.mpr ⟨kX10_see, List.forall_mem_cons.mpr ⟨kX10_who, List.forall_mem_cons.mpr ⟨kX10_ask, List.forall_mem_cons.mpr ⟨kX10_wide, List.forall_mem_cons.mpr ⟨kX10_has, fun _ h => absurd h List.not_mem_nil⟩⟩⟩⟩⟩⟩⟩⟩⟩⟩⟩⟩⟩⟩⟩⟩
def fc_mt7 : List (fc_M × Nat × Nat) := [(mX10_sleeps, 1, 0), (mX10_rich, 1, 0), (mX10_chance, 2, 0), (mX10_rests, 4, 0), (mX10_mornings, 3, 0), (mX10_mark, 2, 0), (mX10_count, 1, 0), (mX10_isFrom, 3, 1), (mX10_isIn, 2, 1), (mX10_orNone, 1, 1), (mX10_pairsIn, 1, 1), (mX10_thingsOf, 2, 0), (mX10_worthOf, 2, 0), (mX10_movedThings, 1, 0), (mX10_minutesTo, 2, 0), (mX10_minutesOfAllTo, 1, 0)]
theorem fc_mo7 : ∀ t ∈ fc_mt7, fc_mp t := List.forall_mem_cons.mpr ⟨kX10_sleeps, List.forall_mem_cons.mpr ⟨kX10_rich, List.forall_mem_cons.mpr ⟨kX10_chance, List.forall_mem_cons.mpr ⟨kX10_rests, List.forall_mem_cons.mpr ⟨kX10_mornings, List.forall_mem_cons.mpr ⟨kX10_mark, List.forall_mem_cons.mpr ⟨kX10_count, List.forall_mem_cons.mpr ⟨kX10_isFrom, List.forall_mem_cons.mpr ⟨kX10_isIn, List.forall_mem_cons.mpr ⟨kX10_orNone, List.forall_mem_cons.mpr ⟨kX10_pairsIn, List.forall_mem_cons.mpr ⟨kX10_thingsOf, List.forall_mem_cons.mpr ⟨kX10_worthOf, List.forall_mem_cons.mpr ⟨kX10_movedThings, List.forall_mem_cons.mpr ⟨kX10_minutesTo, List.forall_mem_cons.mpr ⟨kX10_minutesOfAllTo, fun _ h => absurd h List.not_mem_nil⟩⟩⟩⟩⟩⟩⟩⟩⟩⟩⟩⟩⟩⟩⟩⟩
def fc_mt8 : List (fc_M × Nat × Nat) := [(mX10_isGift, 2, 0), (mX10_fitsSeen, 1, 0), (mX10_leftAtWorst, 3, 0), (mX10_isRest, 4, 1), (mX10_gets, 5, 1), (mX10_drawBelow, 1, 0), (mX10_playDrawn, 0, 0), (mX11_thrown, 0, 0), (mX11_feed, 3, 0), (mX11_lay, 1, 0), (mX11_isLetter, 1, 1), (mX11_isDigit, 1, 1), (mX11_rank, 1, 1), (mX11_isSignOf, 1, 1), (mX11_cutAll, 0, 0), (mX11_wrong, 1, 0)]
theorem fc_mo8 : ∀ t ∈ fc_mt8, fc_mp t := List.forall_mem_cons.mpr ⟨kX10_isGift, List.forall_mem_cons.mpr ⟨kX10_fitsSeen, List.forall_mem_cons.mpr ⟨kX10_leftAtWorst, List.forall_mem_cons.mpr ⟨kX10_isRest, List.forall_mem_cons.mpr ⟨kX10_gets, List.forall_mem_cons.mpr ⟨kX10_drawBelow, List.forall_mem_cons.mpr ⟨kX10_playDrawn, List.forall_mem_cons.mpr ⟨kX11_thrown, List.forall_mem_cons.mpr ⟨kX11_feed, List.forall_mem_cons.mpr ⟨kX11_lay, List.forall_mem_cons.mpr ⟨kX11_isLetter, List.forall_mem_cons.mpr ⟨kX11_isDigit, List.forall_mem_cons.mpr ⟨kX11_rank, List.forall_mem_cons.mpr ⟨kX11_isSignOf, List.forall_mem_cons.mpr ⟨kX11_cutAll, List.forall_mem_cons.mpr ⟨kX11_wrong, fun _ h => absurd h List.not_mem_nil⟩⟩⟩⟩⟩⟩⟩⟩⟩⟩⟩⟩⟩⟩⟩⟩
def fc_mt9 : List (fc_M × Nat × Nat) := [(mX11_isSign, 1, 0), (mX11_isWord, 1, 0), (mX11_takeSign, 1, 0), (mX11_hasSign, 1, 0), (mX11_hasWord, 1, 0), (mX11_takeWord, 1, 0), (mX11_within, 3, 1), (mX11_standsAsAlways, 1, 0), (mX11_takeNumber, 2, 0), (mX11_takeAfter, 3, 0), (mX11_wordHere, 2, 0), (mX11_takeOne, 2, 0), (mX11_isName, 0, 0), (mX11_nameAt, 1, 0), (mX11_takeTold, 3, 0), (mX11_land, 0, 0)]
theorem fc_mo9 : ∀ t ∈ fc_mt9, fc_mp t := List.forall_mem_cons.mpr ⟨kX11_isSign, List.forall_mem_cons.mpr ⟨kX11_isWord, List.forall_mem_cons.mpr ⟨kX11_takeSign, List.forall_mem_cons.mpr ⟨kX11_hasSign, List.forall_mem_cons.mpr ⟨kX11_hasWord, List.forall_mem_cons.mpr ⟨kX11_takeWord, List.forall_mem_cons.mpr ⟨kX11_within, List.forall_mem_cons.mpr ⟨kX11_standsAsAlways, List.forall_mem_cons.mpr ⟨kX11_takeNumber, List.forall_mem_cons.mpr ⟨kX11_takeAfter, List.forall_mem_cons.mpr ⟨kX11_wordHere, List.forall_mem_cons.mpr ⟨kX11_takeOne, List.forall_mem_cons.mpr ⟨kX11_isName, List.forall_mem_cons.mpr ⟨kX11_nameAt, List.forall_mem_cons.mpr ⟨kX11_takeTold, List.forall_mem_cons.mpr ⟨kX11_land, fun _ h => absurd h List.not_mem_nil⟩⟩⟩⟩⟩⟩⟩⟩⟩⟩⟩⟩⟩⟩⟩⟩
def fc_mt10 : List (fc_M × Nat × Nat) := [(mX11_readLine, 0, 0), (mX11_readName, 3, 0), (mX11_readPath, 0, 0), (mX11_readOnce, 0, 0), (mX11_morning, 0, 0), (mX11_readMorning, 2, 0), (mX11_emit, 2, 0), (mX11_whole, 1, 0), (mX11_test, 1, 0), (mX11_sums, 1, 0), (mX11_products, 1, 0), (mX11_takePart, 1, 0), (mX11_worthAt, 1, 0), (mX11_both, 3, 1), (mX11_copies, 3, 0), (mX11_starts, 1, 0)]
theorem fc_mo10 : ∀ t ∈ fc_mt10, fc_mp t := List.forall_mem_cons.mpr ⟨kX11_readLine, List.forall_mem_cons.mpr ⟨kX11_readName, List.forall_mem_cons.mpr ⟨kX11_readPath, List.forall_mem_cons.mpr ⟨kX11_readOnce, List.forall_mem_cons.mpr ⟨kX11_morning, List.forall_mem_cons.mpr ⟨kX11_readMorning, List.forall_mem_cons.mpr ⟨kX11_emit, List.forall_mem_cons.mpr ⟨kX11_whole, List.forall_mem_cons.mpr ⟨kX11_test, List.forall_mem_cons.mpr ⟨kX11_sums, List.forall_mem_cons.mpr ⟨kX11_products, List.forall_mem_cons.mpr ⟨kX11_takePart, List.forall_mem_cons.mpr ⟨kX11_worthAt, List.forall_mem_cons.mpr ⟨kX11_both, List.forall_mem_cons.mpr ⟨kX11_copies, List.forall_mem_cons.mpr ⟨kX11_starts, fun _ h => absurd h List.not_mem_nil⟩⟩⟩⟩⟩⟩⟩⟩⟩⟩⟩⟩⟩⟩⟩⟩
def fc_mt11 : List (fc_M × Nat × Nat) := [(mX11_begins, 0, 0), (mX11_keeps, 0, 0), (mX11_places, 0, 0), (mX11_persons, 0, 0), (mX11_things, 0, 0), (mX11_smokeAt, 0, 0), (mX11_pathsFrom, 1, 0), (mX11_personOf, 2, 0), (mX11_thingOf, 2, 0), (mX11_isPlace, 1, 0), (mX11_isPerson, 1, 0), (mX11_isThing, 1, 0), (mX11_bits, 1, 1), (mX11_awakeAt, 1, 0), (mX11_isAwake, 2, 0), (mX11_isReady, 2, 0)]
theorem fc_mo11 : ∀ t ∈ fc_mt11, fc_mp t := List.forall_mem_cons.mpr ⟨kX11_begins, List.forall_mem_cons.mpr ⟨kX11_keeps, List.forall_mem_cons.mpr ⟨kX11_places, List.forall_mem_cons.mpr ⟨kX11_persons, List.forall_mem_cons.mpr ⟨kX11_things, List.forall_mem_cons.mpr ⟨kX11_smokeAt, List.forall_mem_cons.mpr ⟨kX11_pathsFrom, List.forall_mem_cons.mpr ⟨kX11_personOf, List.forall_mem_cons.mpr ⟨kX11_thingOf, List.forall_mem_cons.mpr ⟨kX11_isPlace, List.forall_mem_cons.mpr ⟨kX11_isPerson, List.forall_mem_cons.mpr ⟨kX11_isThing, List.forall_mem_cons.mpr ⟨kX11_bits, List.forall_mem_cons.mpr ⟨kX11_awakeAt, List.forall_mem_cons.mpr ⟨kX11_isAwake, List.forall_mem_cons.mpr ⟨kX11_isReady, fun _ h => absurd h List.not_mem_nil⟩⟩⟩⟩⟩⟩⟩⟩⟩⟩⟩⟩⟩⟩⟩⟩
def fc_mt12 : List (fc_M × Nat × Nat) := [(mX11_whoIn, 2, 0), (mX11_benches, 0, 0), (mX11_doesBind, 5, 0), (mX11_mayWalk, 3, 0), (mX11_walks, 3, 0), (mX11_mayGive, 3, 0), (mX11_gives, 3, 0), (mX11_mayVow, 3, 0), (mX11_vowsBy, 3, 0), (mX11_smokes, 1, 0), (mX11_passes, 1, 0), (mX11_thingsWith, 2, 0), (mX11_wrongThings, 1, 0), (mX11_place, 2, 0), (mX11_person, 2, 0), (mX11_thing, 2, 0)]
theorem fc_mo12 : ∀ t ∈ fc_mt12, fc_mp t := List.forall_mem_cons.mpr ⟨kX11_whoIn, List.forall_mem_cons.mpr ⟨kX11_benches, List.forall_mem_cons.mpr ⟨kX11_doesBind, List.forall_mem_cons.mpr ⟨kX11_mayWalk, List.forall_mem_cons.mpr ⟨kX11_walks, List.forall_mem_cons.mpr ⟨kX11_mayGive, List.forall_mem_cons.mpr ⟨kX11_gives, List.forall_mem_cons.mpr ⟨kX11_mayVow, List.forall_mem_cons.mpr ⟨kX11_vowsBy, List.forall_mem_cons.mpr ⟨kX11_smokes, List.forall_mem_cons.mpr ⟨kX11_passes, List.forall_mem_cons.mpr ⟨kX11_thingsWith, List.forall_mem_cons.mpr ⟨kX11_wrongThings, List.forall_mem_cons.mpr ⟨kX11_place, List.forall_mem_cons.mpr ⟨kX11_person, List.forall_mem_cons.mpr ⟨kX11_thing, fun _ h => absurd h List.not_mem_nil⟩⟩⟩⟩⟩⟩⟩⟩⟩⟩⟩⟩⟩⟩⟩⟩
def fc_mt13 : List (fc_M × Nat × Nat) := [(mX11_walk, 2, 0), (mX11_give, 2, 0), (mX11_vow, 2, 0), (mX11_minute, 0, 0), (mX11_undo, 0, 0), (mX11_judged, 1, 0), (mX11_onFrom, 2, 0), (mX11_reachBy, 2, 0), (mX11_farOf, 2, 0), (mX11_reach, 1, 0), (mX11_far, 2, 0), (mX11_cuts, 0, 0), (mX11_hub, 0, 0), (mX11_links, 1, 0), (mX11_wide, 0, 0), (mX11_readyIn, 1, 0)]
theorem fc_mo13 : ∀ t ∈ fc_mt13, fc_mp t := List.forall_mem_cons.mpr ⟨kX11_walk, List.forall_mem_cons.mpr ⟨kX11_give, List.forall_mem_cons.mpr ⟨kX11_vow, List.forall_mem_cons.mpr ⟨kX11_minute, List.forall_mem_cons.mpr ⟨kX11_undo, List.forall_mem_cons.mpr ⟨kX11_judged, List.forall_mem_cons.mpr ⟨kX11_onFrom, List.forall_mem_cons.mpr ⟨kX11_reachBy, List.forall_mem_cons.mpr ⟨kX11_farOf, List.forall_mem_cons.mpr ⟨kX11_reach, List.forall_mem_cons.mpr ⟨kX11_far, List.forall_mem_cons.mpr ⟨kX11_cuts, List.forall_mem_cons.mpr ⟨kX11_hub, List.forall_mem_cons.mpr ⟨kX11_links, List.forall_mem_cons.mpr ⟨kX11_wide, List.forall_mem_cons.mpr ⟨kX11_readyIn, fun _ h => absurd h List.not_mem_nil⟩⟩⟩⟩⟩⟩⟩⟩⟩⟩⟩⟩⟩⟩⟩⟩
def fc_mt14 : List (fc_M × Nat × Nat) := [(mX11_paceOf, 1, 0), (mX11_soonOf, 2, 0), (mX11_told, 1, 1), (mX11_soon, 2, 0), (mX11_meet, 2, 0), (mX11_all, 1, 0), (mX11_tour, 1, 0), (mX11_intime, 2, 0), (mX11_back, 0, 0), (mX11_could, 1, 0), (mX11_wouldBind, 3, 0), (mX11_isGift, 2, 0), (mX11_would, 2, 0), (mX11_when, 2, 0), (mX11_vows, 2, 0), (mX11_sees, 1, 0)]
theorem fc_mo14 : ∀ t ∈ fc_mt14, fc_mp t := List.forall_mem_cons.mpr ⟨kX11_paceOf, List.forall_mem_cons.mpr ⟨kX11_soonOf, List.forall_mem_cons.mpr ⟨kX11_told, List.forall_mem_cons.mpr ⟨kX11_soon, List.forall_mem_cons.mpr ⟨kX11_meet, List.forall_mem_cons.mpr ⟨kX11_all, List.forall_mem_cons.mpr ⟨kX11_tour, List.forall_mem_cons.mpr ⟨kX11_intime, List.forall_mem_cons.mpr ⟨kX11_back, List.forall_mem_cons.mpr ⟨kX11_could, List.forall_mem_cons.mpr ⟨kX11_wouldBind, List.forall_mem_cons.mpr ⟨kX11_isGift, List.forall_mem_cons.mpr ⟨kX11_would, List.forall_mem_cons.mpr ⟨kX11_when, List.forall_mem_cons.mpr ⟨kX11_vows, List.forall_mem_cons.mpr ⟨kX11_sees, fun _ h => absurd h List.not_mem_nil⟩⟩⟩⟩⟩⟩⟩⟩⟩⟩⟩⟩⟩⟩⟩⟩
def fc_mt15 : List (fc_M × Nat × Nat) := [(mX11_heard, 1, 0), (mX11_heardOfAll, 1, 0), (mX11_triesNow, 0, 0), (mX11_news, 0, 0), (mX11_alone, 0, 0), (mX11_see, 3, 0), (mX11_whoNow, 0, 0), (mX11_who, 0, 0), (mX11_ask, 0, 0), (mX11_worthOf, 2, 0), (mX11_has, 2, 0), (mX11_sleeps, 1, 0), (mX11_rich, 1, 0), (mX11_chance, 2, 0), (mX11_getsBy, 5, 1), (mX11_rests, 4, 0)]
theorem fc_mo15 : ∀ t ∈ fc_mt15, fc_mp t := List.forall_mem_cons.mpr ⟨kX11_heard, List.forall_mem_cons.mpr ⟨kX11_heardOfAll, List.forall_mem_cons.mpr ⟨kX11_triesNow, List.forall_mem_cons.mpr ⟨kX11_news, List.forall_mem_cons.mpr ⟨kX11_alone, List.forall_mem_cons.mpr ⟨kX11_see, List.forall_mem_cons.mpr ⟨kX11_whoNow, List.forall_mem_cons.mpr ⟨kX11_who, List.forall_mem_cons.mpr ⟨kX11_ask, List.forall_mem_cons.mpr ⟨kX11_worthOf, List.forall_mem_cons.mpr ⟨kX11_has, List.forall_mem_cons.mpr ⟨kX11_sleeps, List.forall_mem_cons.mpr ⟨kX11_rich, List.forall_mem_cons.mpr ⟨kX11_chance, List.forall_mem_cons.mpr ⟨kX11_getsBy, List.forall_mem_cons.mpr ⟨kX11_rests, fun _ h => absurd h List.not_mem_nil⟩⟩⟩⟩⟩⟩⟩⟩⟩⟩⟩⟩⟩⟩⟩⟩
def fc_mt16 : List (fc_M × Nat × Nat) := [(mX11_draw, 1, 0), (mX11_drawsDeed, 0, 0), (mX11_mornings, 3, 0), (mX11_mark, 2, 0), (mX11_pairsOf, 1, 0), (mX11_count, 1, 0), (mJ11_isValidCodePoint_9a6ad, 1, 1), (mJ11_highSurrogate_5068e, 1, 1), (mJ11_lowSurrogate_5068e, 1, 1), (mJ6_bitCount_0f7a4, 1, 1), (mJ9_max_7cf53, 2, 1), (mJ9_min_7cf53, 2, 1), (mJ0_length_8abf5, 0, 0), (mJ0_charAt_5068e, 1, 0), (mJ0_indexOf_0f7a4, 1, 0), (mJ0_indexOf_7cf53, 2, 0)]
theorem fc_mo16 : ∀ t ∈ fc_mt16, fc_mp t := List.forall_mem_cons.mpr ⟨kX11_draw, List.forall_mem_cons.mpr ⟨kX11_drawsDeed, List.forall_mem_cons.mpr ⟨kX11_mornings, List.forall_mem_cons.mpr ⟨kX11_mark, List.forall_mem_cons.mpr ⟨kX11_pairsOf, List.forall_mem_cons.mpr ⟨kX11_count, List.forall_mem_cons.mpr ⟨kJ11_isValidCodePoint_9a6ad, List.forall_mem_cons.mpr ⟨kJ11_highSurrogate_5068e, List.forall_mem_cons.mpr ⟨kJ11_lowSurrogate_5068e, List.forall_mem_cons.mpr ⟨kJ6_bitCount_0f7a4, List.forall_mem_cons.mpr ⟨kJ9_max_7cf53, List.forall_mem_cons.mpr ⟨kJ9_min_7cf53, List.forall_mem_cons.mpr ⟨kJ0_length_8abf5, List.forall_mem_cons.mpr ⟨kJ0_charAt_5068e, List.forall_mem_cons.mpr ⟨kJ0_indexOf_0f7a4, List.forall_mem_cons.mpr ⟨kJ0_indexOf_7cf53, fun _ h => absurd h List.not_mem_nil⟩⟩⟩⟩⟩⟩⟩⟩⟩⟩⟩⟩⟩⟩⟩⟩
def fc_mt17 : List (fc_M × Nat × Nat) := [(mJ0_coder_7d493, 0, 0), (mJ0_isLatin1_aae02, 0, 0), (mJ0_checkIndex_df160, 2, 1), (mJ0_checkBoundsBeginEnd_23922, 3, 1), (mJ1_charAt_3b067, 2, 1), (mJ1_canEncode_9a6ad, 1, 1), (mJ1_indexOf_4cfef, 4, 1), (mJ1_indexOfChar_4cfef, 4, 1), (mJ2_getChar_3b067, 2, 1), (mJ2_length_9d52b, 1, 1), (mJ2_indexOf_4cfef, 4, 1), (mJ2_indexOfChar_4cfef, 4, 1), (mJ2_indexOfCharUnsafe_4cfef, 4, 1), (mJ2_indexOfSupplementary_4cfef, 4, 1), (mJ2_charAt_3b067, 2, 1), (mJ2_checkIndex_2214a, 2, 1)]
theorem fc_mo17 : ∀ t ∈ fc_mt17, fc_mp t := List.forall_mem_cons.mpr ⟨kJ0_coder_7d493, List.forall_mem_cons.mpr ⟨kJ0_isLatin1_aae02, List.forall_mem_cons.mpr ⟨kJ0_checkIndex_df160, List.forall_mem_cons.mpr ⟨kJ0_checkBoundsBeginEnd_23922, List.forall_mem_cons.mpr ⟨kJ1_charAt_3b067, List.forall_mem_cons.mpr ⟨kJ1_canEncode_9a6ad, List.forall_mem_cons.mpr ⟨kJ1_indexOf_4cfef, List.forall_mem_cons.mpr ⟨kJ1_indexOfChar_4cfef, List.forall_mem_cons.mpr ⟨kJ2_getChar_3b067, List.forall_mem_cons.mpr ⟨kJ2_length_9d52b, List.forall_mem_cons.mpr ⟨kJ2_indexOf_4cfef, List.forall_mem_cons.mpr ⟨kJ2_indexOfChar_4cfef, List.forall_mem_cons.mpr ⟨kJ2_indexOfCharUnsafe_4cfef, List.forall_mem_cons.mpr ⟨kJ2_indexOfSupplementary_4cfef, List.forall_mem_cons.mpr ⟨kJ2_charAt_3b067, List.forall_mem_cons.mpr ⟨kJ2_checkIndex_2214a, fun _ h => absurd h List.not_mem_nil⟩⟩⟩⟩⟩⟩⟩⟩⟩⟩⟩⟩⟩⟩⟩⟩
def fc_mt18 : List (fc_M × Nat × Nat) := [(mJ2_checkBoundsBeginEnd_d044e, 3, 1), (mJ7_fill_53178, 2, 1), (mJ3_checkIndex_8e157, 3, 1), (mJ3_checkFromToIndex_8c36e, 4, 1)]
theorem fc_mo18 : ∀ t ∈ fc_mt18, fc_mp t := List.forall_mem_cons.mpr ⟨kJ2_checkBoundsBeginEnd_d044e, List.forall_mem_cons.mpr ⟨kJ7_fill_53178, List.forall_mem_cons.mpr ⟨kJ3_checkIndex_8e157, List.forall_mem_cons.mpr ⟨kJ3_checkFromToIndex_8c36e, fun _ h => absurd h List.not_mem_nil⟩⟩⟩⟩
def fc_mtab : List (fc_M × Nat × Nat) := fc_mt0 ++ (fc_mt1 ++ (fc_mt2 ++ (fc_mt3 ++ (fc_mt4 ++ (fc_mt5 ++ (fc_mt6 ++ (fc_mt7 ++ (fc_mt8 ++ (fc_mt9 ++ (fc_mt10 ++ (fc_mt11 ++ (fc_mt12 ++ (fc_mt13 ++ (fc_mt14 ++ (fc_mt15 ++ (fc_mt16 ++ (fc_mt17 ++ (fc_mt18))))))))))))))))))
theorem fc_mtab_ok : ∀ t ∈ fc_mtab, fc_mp t := by
  intro t h
  simp only [fc_mtab, List.mem_append] at h
  rcases h with h | h | h | h | h | h | h | h | h | h | h | h | h | h | h | h | h | h | h
  · exact fc_mo0 t h
  · exact fc_mo1 t h
  · exact fc_mo2 t h
  · exact fc_mo3 t h
  · exact fc_mo4 t h
  · exact fc_mo5 t h
  · exact fc_mo6 t h
  · exact fc_mo7 t h
  · exact fc_mo8 t h
  · exact fc_mo9 t h
  · exact fc_mo10 t h
  · exact fc_mo11 t h
  · exact fc_mo12 t h
  · exact fc_mo13 t h
  · exact fc_mo14 t h
  · exact fc_mo15 t h
  · exact fc_mo16 t h
  · exact fc_mo17 t h
  · exact fc_mo18 t h
