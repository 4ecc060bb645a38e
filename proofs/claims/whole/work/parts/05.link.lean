/-! link tables of the classes: what a pool number names (with its word's place in lw_tbl) -/
def jcl : List vw_C := [(RX0, TX0, 4), (RX1, TX1, 7), (RX2, TX2, 12), (RX3, TX3, 8), (RX4, TX4, 1), (RX5, TX5, 3), (RX6, TX6, 13), (RX7, TX7, 10), (RX8, TX8, 4), (RX9, TX9, 1), (RX10, TX10, 20), (RX11, TX11, 47)]
def jty : Nat → Nat → FieldType := fun c => match c with
  | 0 => tyX0
  | 1 => tyX1
  | 2 => tyX2
  | 3 => tyX3
  | 4 => tyX4
  | 5 => tyX5
  | 6 => tyX6
  | 7 => tyX7
  | 8 => tyX8
  | 9 => tyX9
  | 10 => tyX10
  | _ => tyX11
def jown : Nat → String := fun o => match o with
  | 0 => RX0
  | 1 => RX1
  | 2 => RX2
  | 3 => RX3
  | 4 => RX4
  | 5 => RX5
  | 6 => RX6
  | 7 => RX7
  | 8 => RX8
  | 9 => RX9
  | 10 => RX10
  | 11 => RX11
  | 12 => RL
  | 13 => RJ6
  | 14 => RJ13
  | _ => RJ9
abbrev jE : Type := Nat × Nat × Nat × Nat × Nat × Nat × Bool
abbrev mJ13_numberOfLeadingZeros_95d88 : jMe := (14, yJ13_numberOfLeadingZeros_95d88, cJ13_numberOfLeadingZeros_95d88, 3, (some .int))
abbrev mJ6_bitCount_0f7a4 : jMe := (13, yJ6_bitCount_0f7a4, cJ6_bitCount_0f7a4, 1, (some .int))
abbrev mJ6_numberOfLeadingZeros_0f7a4 : jMe := (13, yJ6_numberOfLeadingZeros_0f7a4, cJ6_numberOfLeadingZeros_0f7a4, 2, (some .int))
abbrev mJ9_max_7cf53 : jMe := (15, yJ9_max_7cf53, cJ9_max_7cf53, 2, (some .int))
abbrev mJ9_max_f86c9 : jMe := (15, yJ9_max_f86c9, cJ9_max_f86c9, 4, (some .long))
abbrev mJ9_min_7cf53 : jMe := (15, yJ9_min_7cf53, cJ9_min_7cf53, 2, (some .int))
abbrev mJ9_min_f86c9 : jMe := (15, yJ9_min_f86c9, cJ9_min_f86c9, 4, (some .long))
abbrev mX0_bears : jMe := (0, yX0_bears, cX0_bears, 3, (some .boolean))
abbrev mX0_fewestFor : jMe := (0, yX0_fewestFor, cX0_fewestFor, 5, (some .int))
abbrev mX0_fewestGoings : jMe := (0, yX0_fewestGoings, cX0_fewestGoings, 4, (some .int))
abbrev mX0_init : jMe := (0, yX0_init, cX0_init, 1, none)
abbrev mX0_loadOf : jMe := (0, yX0_loadOf, cX0_loadOf, 5, (some .long))
abbrev mX0_mostAtOnce : jMe := (0, yX0_mostAtOnce, cX0_mostAtOnce, 4, (some .int))
abbrev mX0_stand : jMe := (0, yX0_stand, cX0_stand, 4, none)
abbrev mX10_allStandAtTheBridge : jMe := (10, yX10_allStandAtTheBridge, cX10_allStandAtTheBridge, 1, none)
abbrev mX10_areTwo : jMe := (10, yX10_areTwo, cX10_areTwo, 3, (some .boolean))
abbrev mX10_asTold : jMe := (10, yX10_asTold, cX10_asTold, 2, (some .int))
abbrev mX10_ask : jMe := (10, yX10_ask, cX10_ask, 2, (some .int))
abbrev mX10_at : jMe := (10, yX10_at, cX10_at, 2, (some .int))
abbrev mX10_back : jMe := (10, yX10_back, cX10_back, 1, (some .int))
abbrev mX10_behind : jMe := (10, yX10_behind, cX10_behind, 4, (some .int))
abbrev mX10_copyRow : jMe := (10, yX10_copyRow, cX10_copyRow, 3, none)
abbrev mX10_count : jMe := (10, yX10_count, cX10_count, 2, (some .int))
abbrev mX10_countOrFind : jMe := (10, yX10_countOrFind, cX10_countOrFind, 5, (some .int))
abbrev mX10_deepest : jMe := (10, yX10_deepest, cX10_deepest, 3, (some .int))
abbrev mX10_draw : jMe := (10, yX10_draw, cX10_draw, 2, (some .int))
abbrev mX10_drawWhatIsAhead : jMe := (10, yX10_drawWhatIsAhead, cX10_drawWhatIsAhead, 5, none)
abbrev mX10_eased : jMe := (10, yX10_eased, cX10_eased, 4, (some .int))
abbrev mX10_enact : jMe := (10, yX10_enact, cX10_enact, 3, (some .int))
abbrev mX10_end : jMe := (10, yX10_end, cX10_end, 2, (some .boolean))
abbrev mX10_fault : jMe := (10, yX10_fault, cX10_fault, 2, (some .int))
abbrev mX10_feed : jMe := (10, yX10_feed, cX10_feed, 7, (some .int))
abbrev mX10_fits : jMe := (10, yX10_fits, cX10_fits, 2, (some .int))
abbrev mX10_floatsIn : jMe := (10, yX10_floatsIn, cX10_floatsIn, 3, (some .int))
abbrev mX10_forget : jMe := (10, yX10_forget, cX10_forget, 5, (some .int))
abbrev mX10_fullMinds : jMe := (10, yX10_fullMinds, cX10_fullMinds, 3, (some .int))
abbrev mX10_gainOf : jMe := (10, yX10_gainOf, cX10_gainOf, 4, (some .int))
abbrev mX10_game : jMe := (10, yX10_game, cX10_game, 6, (some .int))
abbrev mX10_give : jMe := (10, yX10_give, cX10_give, 2, (some .int))
abbrev mX10_goes : jMe := (10, yX10_goes, cX10_goes, 3, (some .int))
abbrev mX10_goesInto : jMe := (10, yX10_goesInto, cX10_goesInto, 2, (some .boolean))
abbrev mX10_goings : jMe := (10, yX10_goings, cX10_goings, 1, (some .int))
abbrev mX10_grainOf : jMe := (10, yX10_grainOf, cX10_grainOf, 5, (some .int))
abbrev mX10_hasIsland : jMe := (10, yX10_hasIsland, cX10_hasIsland, 1, (some .boolean))
abbrev mX10_heaviest : jMe := (10, yX10_heaviest, cX10_heaviest, 3, (some .int))
abbrev mX10_heftOf : jMe := (10, yX10_heftOf, cX10_heftOf, 4, (some .int))
abbrev mX10_held : jMe := (10, yX10_held, cX10_held, 6, (some .int))
abbrev mX10_hem : jMe := (10, yX10_hem, cX10_hem, 4, (some .int))
abbrev mX10_hours : jMe := (10, yX10_hours, cX10_hours, 3, (some .int))
abbrev mX10_image : jMe := (10, yX10_image, cX10_image, 1, (some .int))
abbrev mX10_init : jMe := (10, yX10_init, cX10_init, 1, none)
abbrev mX10_isHeldBy : jMe := (10, yX10_isHeldBy, cX10_isHeldBy, 6, (some .boolean))
abbrev mX10_isKind : jMe := (10, yX10_isKind, cX10_isKind, 1, (some .boolean))
abbrev mX10_isPlace : jMe := (10, yX10_isPlace, cX10_isPlace, 1, (some .boolean))
abbrev mX10_isRest : jMe := (10, yX10_isRest, cX10_isRest, 4, (some .boolean))
abbrev mX10_law : jMe := (10, yX10_law, cX10_law, 2, (some .boolean))
abbrev mX10_letAnHourPass : jMe := (10, yX10_letAnHourPass, cX10_letAnHourPass, 1, none)
abbrev mX10_lightest : jMe := (10, yX10_lightest, cX10_lightest, 3, (some .int))
abbrev mX10_load : jMe := (10, yX10_load, cX10_load, 2, (some .int))
abbrev mX10_log : jMe := (10, yX10_log, cX10_log, 3, (some .int))
abbrev mX10_longAt : jMe := (10, yX10_longAt, cX10_longAt, 2, (some .long))
abbrev mX10_memory : jMe := (10, yX10_memory, cX10_memory, 2, (some .boolean))
abbrev mX10_most : jMe := (10, yX10_most, cX10_most, 2, (some .int))
abbrev mX10_mostThoughtOf : jMe := (10, yX10_mostThoughtOf, cX10_mostThoughtOf, 3, (some .int))
abbrev mX10_move : jMe := (10, yX10_move, cX10_move, 4, none)
abbrev mX10_nobodys : jMe := (10, yX10_nobodys, cX10_nobodys, 3, (some .int))
abbrev mX10_odds : jMe := (10, yX10_odds, cX10_odds, 4, (some .int))
abbrev mX10_pairs : jMe := (10, yX10_pairs, cX10_pairs, 4, (some .int))
abbrev mX10_person : jMe := (10, yX10_person, cX10_person, 5, (some .int))
abbrev mX10_play : jMe := (10, yX10_play, cX10_play, 5, none)
abbrev mX10_put : jMe := (10, yX10_put, cX10_put, 3, none)
abbrev mX10_putLong : jMe := (10, yX10_putLong, cX10_putLong, 4, none)
abbrev mX10_refuse : jMe := (10, yX10_refuse, cX10_refuse, 2, (some .int))
abbrev mX10_rests : jMe := (10, yX10_rests, cX10_rests, 6, (some .int))
abbrev mX10_rounded : jMe := (10, yX10_rounded, cX10_rounded, 12, (some .long))
abbrev mX10_rule : jMe := (10, yX10_rule, cX10_rule, 2, (some .int))
abbrev mX10_seen : jMe := (10, yX10_seen, cX10_seen, 5, (some .int))
abbrev mX10_settle : jMe := (10, yX10_settle, cX10_settle, 1, (some .int))
abbrev mX10_shares : jMe := (10, yX10_shares, cX10_shares, 7, (some .int))
abbrev mX10_signsOf : jMe := (10, yX10_signsOf, cX10_signsOf, 3, (some .int))
abbrev mX10_stateAt : jMe := (10, yX10_stateAt, cX10_stateAt, 2, (some (.object "RememberedWeight$State")))
abbrev mX10_status : jMe := (10, yX10_status, cX10_status, 2, (some .int))
abbrev mX10_text : jMe := (10, yX10_text, cX10_text, 2, (some .int))
abbrev mX10_think : jMe := (10, yX10_think, cX10_think, 6, (some .int))
abbrev mX10_thought : jMe := (10, yX10_thought, cX10_thought, 5, (some .int))
abbrev mX10_together : jMe := (10, yX10_together, cX10_together, 1, (some .int))
abbrev mX10_undo : jMe := (10, yX10_undo, cX10_undo, 1, (some .int))
abbrev mX10_wind : jMe := (10, yX10_wind, cX10_wind, 3, (some .int))
abbrev mX10_within : jMe := (10, yX10_within, cX10_within, 4, (some .int))
abbrev mX10_years : jMe := (10, yX10_years, cX10_years, 5, (some .int))
abbrev mX11_areHours : jMe := (11, yX11_areHours, cX11_areHours, 2, (some .boolean))
abbrev mX11_areTwo : jMe := (11, yX11_areTwo, cX11_areTwo, 3, (some .boolean))
abbrev mX11_asTold : jMe := (11, yX11_asTold, cX11_asTold, 2, (some .int))
abbrev mX11_ask : jMe := (11, yX11_ask, cX11_ask, 8, (some .int))
abbrev mX11_atEnd : jMe := (11, yX11_atEnd, cX11_atEnd, 1, (some .int))
abbrev mX11_atom : jMe := (11, yX11_atom, cX11_atom, 2, none)
abbrev mX11_back : jMe := (11, yX11_back, cX11_back, 2, (some .int))
abbrev mX11_bad : jMe := (11, yX11_bad, cX11_bad, 1, none)
abbrev mX11_behind : jMe := (11, yX11_behind, cX11_behind, 4, (some .int))
abbrev mX11_bounded : jMe := (11, yX11_bounded, cX11_bounded, 2, (some .int))
abbrev mX11_byteOf : jMe := (11, yX11_byteOf, cX11_byteOf, 7, (some .int))
abbrev mX11_choose : jMe := (11, yX11_choose, cX11_choose, 5, none)
abbrev mX11_clause : jMe := (11, yX11_clause, cX11_clause, 3, none)
abbrev mX11_closes : jMe := (11, yX11_closes, cX11_closes, 2, none)
abbrev mX11_compare : jMe := (11, yX11_compare, cX11_compare, 2, none)
abbrev mX11_condition : jMe := (11, yX11_condition, cX11_condition, 1, none)
abbrev mX11_count : jMe := (11, yX11_count, cX11_count, 2, (some .int))
abbrev mX11_doesBear : jMe := (11, yX11_doesBear, cX11_doesBear, 2, (some .boolean))
abbrev mX11_doesFloat : jMe := (11, yX11_doesFloat, cX11_doesFloat, 2, (some .boolean))
abbrev mX11_doesSink : jMe := (11, yX11_doesSink, cX11_doesSink, 2, (some .boolean))
abbrev mX11_draw : jMe := (11, yX11_draw, cX11_draw, 2, (some .int))
abbrev mX11_drawHour : jMe := (11, yX11_drawHour, cX11_drawHour, 5, none)
abbrev mX11_easeOnce : jMe := (11, yX11_easeOnce, cX11_easeOnce, 5, (some .boolean))
abbrev mX11_eased : jMe := (11, yX11_eased, cX11_eased, 3, (some .int))
abbrev mX11_emptyIn : jMe := (11, yX11_emptyIn, cX11_emptyIn, 3, (some .int))
abbrev mX11_end : jMe := (11, yX11_end, cX11_end, 2, (some .boolean))
abbrev mX11_fault : jMe := (11, yX11_fault, cX11_fault, 2, (some .int))
abbrev mX11_feed : jMe := (11, yX11_feed, cX11_feed, 9, (some .int))
abbrev mX11_fits : jMe := (11, yX11_fits, cX11_fits, 4, (some .int))
abbrev mX11_floating : jMe := (11, yX11_floating, cX11_floating, 3, (some .int))
abbrev mX11_floatsIn : jMe := (11, yX11_floatsIn, cX11_floatsIn, 4, (some .int))
abbrev mX11_forget : jMe := (11, yX11_forget, cX11_forget, 3, (some .int))
abbrev mX11_fullOnes : jMe := (11, yX11_fullOnes, cX11_fullOnes, 3, (some .int))
abbrev mX11_game : jMe := (11, yX11_game, cX11_game, 6, (some .int))
abbrev mX11_gameOf : jMe := (11, yX11_gameOf, cX11_gameOf, 6, (some .int))
abbrev mX11_give : jMe := (11, yX11_give, cX11_give, 2, (some .int))
abbrev mX11_goOnAnd : jMe := (11, yX11_goOnAnd, cX11_goOnAnd, 1, none)
abbrev mX11_goOnOr : jMe := (11, yX11_goOnOr, cX11_goOnOr, 1, none)
abbrev mX11_goes : jMe := (11, yX11_goes, cX11_goes, 3, (some .int))
abbrev mX11_goesInto : jMe := (11, yX11_goesInto, cX11_goesInto, 2, (some .boolean))
abbrev mX11_goesTo : jMe := (11, yX11_goesTo, cX11_goesTo, 3, (some .boolean))
abbrev mX11_goings : jMe := (11, yX11_goings, cX11_goings, 3, (some .int))
abbrev mX11_grainOf : jMe := (11, yX11_grainOf, cX11_grainOf, 7, (some .int))
abbrev mX11_has : jMe := (11, yX11_has, cX11_has, 2, (some .boolean))
abbrev mX11_heftOf : jMe := (11, yX11_heftOf, cX11_heftOf, 2, (some .int))
abbrev mX11_held : jMe := (11, yX11_held, cX11_held, 6, (some .int))
abbrev mX11_hem : jMe := (11, yX11_hem, cX11_hem, 3, (some .int))
abbrev mX11_here : jMe := (11, yX11_here, cX11_here, 1, (some .int))
abbrev mX11_highest : jMe := (11, yX11_highest, cX11_highest, 2, (some .int))
abbrev mX11_hours : jMe := (11, yX11_hours, cX11_hours, 3, (some .int))
abbrev mX11_image : jMe := (11, yX11_image, cX11_image, 2, (some .int))
abbrev mX11_in : jMe := (11, yX11_in, cX11_in, 3, (some .boolean))
abbrev mX11_init : jMe := (11, yX11_init, cX11_init, 1, none)
abbrev mX11_isCode : jMe := (11, yX11_isCode, cX11_isCode, 5, (some .boolean))
abbrev mX11_isDigit : jMe := (11, yX11_isDigit, cX11_isDigit, 1, (some .boolean))
abbrev mX11_isFit : jMe := (11, yX11_isFit, cX11_isFit, 3, (some .boolean))
abbrev mX11_isHeldBy : jMe := (11, yX11_isHeldBy, cX11_isHeldBy, 4, (some .boolean))
abbrev mX11_isOf : jMe := (11, yX11_isOf, cX11_isOf, 4, (some .boolean))
abbrev mX11_isPerson : jMe := (11, yX11_isPerson, cX11_isPerson, 2, (some .boolean))
abbrev mX11_isRefused : jMe := (11, yX11_isRefused, cX11_isRefused, 2, (some .boolean))
abbrev mX11_isRest : jMe := (11, yX11_isRest, cX11_isRest, 6, (some .boolean))
abbrev mX11_isSign : jMe := (11, yX11_isSign, cX11_isSign, 1, (some .boolean))
abbrev mX11_isWhole : jMe := (11, yX11_isWhole, cX11_isWhole, 7, (some .boolean))
abbrev mX11_itemOf : jMe := (11, yX11_itemOf, cX11_itemOf, 2, (some .int))
abbrev mX11_items : jMe := (11, yX11_items, cX11_items, 7, none)
abbrev mX11_keep : jMe := (11, yX11_keep, cX11_keep, 2, none)
abbrev mX11_law : jMe := (11, yX11_law, cX11_law, 2, (some .boolean))
abbrev mX11_layTold : jMe := (11, yX11_layTold, cX11_layTold, 2, none)
abbrev mX11_layTrail : jMe := (11, yX11_layTrail, cX11_layTrail, 5, (some .boolean))
abbrev mX11_layWeights : jMe := (11, yX11_layWeights, cX11_layWeights, 2, none)
abbrev mX11_lengthOf : jMe := (11, yX11_lengthOf, cX11_lengthOf, 2, (some .int))
abbrev mX11_letterOf : jMe := (11, yX11_letterOf, cX11_letterOf, 1, (some .int))
abbrev mX11_live : jMe := (11, yX11_live, cX11_live, 4, none)
abbrev mX11_load : jMe := (11, yX11_load, cX11_load, 2, (some .int))
abbrev mX11_loadOf : jMe := (11, yX11_loadOf, cX11_loadOf, 5, (some .long))
abbrev mX11_log : jMe := (11, yX11_log, cX11_log, 3, (some .int))
abbrev mX11_look : jMe := (11, yX11_look, cX11_look, 1, (some .int))
abbrev mX11_lowest : jMe := (11, yX11_lowest, cX11_lowest, 2, (some .int))
abbrev mX11_massOf : jMe := (11, yX11_massOf, cX11_massOf, 6, (some .long))
abbrev mX11_memory : jMe := (11, yX11_memory, cX11_memory, 2, (some .boolean))
abbrev mX11_most : jMe := (11, yX11_most, cX11_most, 2, (some .int))
abbrev mX11_nobodys : jMe := (11, yX11_nobodys, cX11_nobodys, 3, (some .int))
abbrev mX11_number : jMe := (11, yX11_number, cX11_number, 4, (some .int))
abbrev mX11_odds : jMe := (11, yX11_odds, cX11_odds, 4, (some .int))
abbrev mX11_oddsFrom : jMe := (11, yX11_oddsFrom, cX11_oddsFrom, 9, (some .int))
abbrev mX11_of : jMe := (11, yX11_of, cX11_of, 4, (some .int))
abbrev mX11_ofMany : jMe := (11, yX11_ofMany, cX11_ofMany, 4, (some .int))
abbrev mX11_oldest : jMe := (11, yX11_oldest, cX11_oldest, 4, (some .int))
abbrev mX11_open : jMe := (11, yX11_open, cX11_open, 2, none)
abbrev mX11_opens : jMe := (11, yX11_opens, cX11_opens, 1, none)
abbrev mX11_pairMany : jMe := (11, yX11_pairMany, cX11_pairMany, 4, (some .int))
abbrev mX11_passHour : jMe := (11, yX11_passHour, cX11_passHour, 2, none)
abbrev mX11_person : jMe := (11, yX11_person, cX11_person, 3, (some .int))
abbrev mX11_plainNumber : jMe := (11, yX11_plainNumber, cX11_plainNumber, 3, (some .int))
abbrev mX11_put : jMe := (11, yX11_put, cX11_put, 3, none)
abbrev mX11_putAside : jMe := (11, yX11_putAside, cX11_putAside, 3, none)
abbrev mX11_putThought : jMe := (11, yX11_putThought, cX11_putThought, 6, none)
abbrev mX11_readIsland : jMe := (11, yX11_readIsland, cX11_readIsland, 4, (some .int))
abbrev mX11_readLaw : jMe := (11, yX11_readLaw, cX11_readLaw, 2, (some .int))
abbrev mX11_rests : jMe := (11, yX11_rests, cX11_rests, 6, (some .int))
abbrev mX11_rounded : jMe := (11, yX11_rounded, cX11_rounded, 10, (some .long))
abbrev mX11_rule : jMe := (11, yX11_rule, cX11_rule, 2, (some .int))
abbrev mX11_seen : jMe := (11, yX11_seen, cX11_seen, 5, (some .int))
abbrev mX11_set : jMe := (11, yX11_set, cX11_set, 5, none)
abbrev mX11_shares : jMe := (11, yX11_shares, cX11_shares, 6, (some .int))
abbrev mX11_sinking : jMe := (11, yX11_sinking, cX11_sinking, 3, (some .int))
abbrev mX11_status : jMe := (11, yX11_status, cX11_status, 2, (some .int))
abbrev mX11_sum : jMe := (11, yX11_sum, cX11_sum, 2, none)
abbrev mX11_takeBack : jMe := (11, yX11_takeBack, cX11_takeBack, 3, none)
abbrev mX11_takeIsland : jMe := (11, yX11_takeIsland, cX11_takeIsland, 2, (some .int))
abbrev mX11_term : jMe := (11, yX11_term, cX11_term, 2, none)
abbrev mX11_text : jMe := (11, yX11_text, cX11_text, 2, (some .int))
abbrev mX11_think : jMe := (11, yX11_think, cX11_think, 6, (some .int))
abbrev mX11_thinksOf : jMe := (11, yX11_thinksOf, cX11_thinksOf, 4, (some .boolean))
abbrev mX11_thought : jMe := (11, yX11_thought, cX11_thought, 4, (some .int))
abbrev mX11_thoughtMany : jMe := (11, yX11_thoughtMany, cX11_thoughtMany, 4, (some .int))
abbrev mX11_thrown : jMe := (11, yX11_thrown, cX11_thrown, 1, (some .int))
abbrev mX11_together : jMe := (11, yX11_together, cX11_together, 3, (some .int))
abbrev mX11_topBy : jMe := (11, yX11_topBy, cX11_topBy, 4, (some .int))
abbrev mX11_tuneUp : jMe := (11, yX11_tuneUp, cX11_tuneUp, 4, none)
abbrev mX11_undo : jMe := (11, yX11_undo, cX11_undo, 2, (some .int))
abbrev mX11_unit : jMe := (11, yX11_unit, cX11_unit, 2, none)
abbrev mX11_usual : jMe := (11, yX11_usual, cX11_usual, 2, (some .int))
abbrev mX11_valueOf : jMe := (11, yX11_valueOf, cX11_valueOf, 3, (some .long))
abbrev mX11_weightOf : jMe := (11, yX11_weightOf, cX11_weightOf, 6, (some .long))
abbrev mX11_wind : jMe := (11, yX11_wind, cX11_wind, 3, (some .int))
abbrev mX11_workOut : jMe := (11, yX11_workOut, cX11_workOut, 6, (some .int))
abbrev mX11_worked : jMe := (11, yX11_worked, cX11_worked, 5, (some .int))
abbrev mX11_worthOf : jMe := (11, yX11_worthOf, cX11_worthOf, 3, (some .int))
abbrev mX11_years : jMe := (11, yX11_years, cX11_years, 5, (some .int))
abbrev mX1_ableToThinkPolitely : jMe := (1, yX1_ableToThinkPolitely, cX1_ableToThinkPolitely, 6, (some .int))
abbrev mX1_floating : jMe := (1, yX1_floating, cX1_floating, 4, (some .int))
abbrev mX1_has : jMe := (1, yX1_has, cX1_has, 2, (some .boolean))
abbrev mX1_init : jMe := (1, yX1_init, cX1_init, 1, none)
abbrev mX1_lookUp : jMe := (1, yX1_lookUp, cX1_lookUp, 4, none)
abbrev mX1_massOf : jMe := (1, yX1_massOf, cX1_massOf, 8, (some .int))
abbrev mX1_settle : jMe := (1, yX1_settle, cX1_settle, 2, none)
abbrev mX1_sinking : jMe := (1, yX1_sinking, cX1_sinking, 4, (some .int))
abbrev mX1_sinks : jMe := (1, yX1_sinks, cX1_sinks, 3, (some .boolean))
abbrev mX1_takes : jMe := (1, yX1_takes, cX1_takes, 3, (some .boolean))
abbrev mX1_weigh : jMe := (1, yX1_weigh, cX1_weigh, 4, none)
abbrev mX2_holdsTogether : jMe := (2, yX2_holdsTogether, cX2_holdsTogether, 3, (some .boolean))
abbrev mX2_init : jMe := (2, yX2_init, cX2_init, 1, none)
abbrev mX2_itemOf : jMe := (2, yX2_itemOf, cX2_itemOf, 4, (some .int))
abbrev mX2_keep : jMe := (2, yX2_keep, cX2_keep, 2, none)
abbrev mX2_layOutUntold : jMe := (2, yX2_layOutUntold, cX2_layOutUntold, 3, none)
abbrev mX2_read : jMe := (2, yX2_read, cX2_read, 3, (some .boolean))
abbrev mX2_readClause : jMe := (2, yX2_readClause, cX2_readClause, 3, (some .boolean))
abbrev mX2_readItems : jMe := (2, yX2_readItems, cX2_readItems, 8, (some .boolean))
abbrev mX2_sortThatMayBegin : jMe := (2, yX2_sortThatMayBegin, cX2_sortThatMayBegin, 2, (some .int))
abbrev mX2_toldAhead : jMe := (2, yX2_toldAhead, cX2_toldAhead, 4, (some .int))
abbrev mX3_add : jMe := (3, yX3_add, cX3_add, 3, none)
abbrev mX3_beginClause : jMe := (3, yX3_beginClause, cX3_beginClause, 1, none)
abbrev mX3_beginSum : jMe := (3, yX3_beginSum, cX3_beginSum, 1, none)
abbrev mX3_clear : jMe := (3, yX3_clear, cX3_clear, 1, none)
abbrev mX3_copy : jMe := (3, yX3_copy, cX3_copy, 2, none)
abbrev mX3_endClause : jMe := (3, yX3_endClause, cX3_endClause, 1, none)
abbrev mX3_init : jMe := (3, yX3_init, cX3_init, 1, none)
abbrev mX3_joined : jMe := (3, yX3_joined, cX3_joined, 5, (some .long))
abbrev mX3_reckon : jMe := (3, yX3_reckon, cX3_reckon, 9, (some .int))
abbrev mX3_worth : jMe := (3, yX3_worth, cX3_worth, 5, (some .int))
abbrev mX4_init : jMe := (4, yX4_init, cX4_init, 1, none)
abbrev mX4_isComparison : jMe := (4, yX4_isComparison, cX4_isComparison, 1, (some .boolean))
abbrev mX4_letterOf : jMe := (4, yX4_letterOf, cX4_letterOf, 1, (some .int))
abbrev mX4_read : jMe := (4, yX4_read, cX4_read, 3, (some .boolean))
abbrev mX4_readAtom : jMe := (4, yX4_readAtom, cX4_readAtom, 6, (some .boolean))
abbrev mX4_readClause : jMe := (4, yX4_readClause, cX4_readClause, 4, (some .boolean))
abbrev mX4_readCondition : jMe := (4, yX4_readCondition, cX4_readCondition, 5, (some .boolean))
abbrev mX4_readNested : jMe := (4, yX4_readNested, cX4_readNested, 4, (some .boolean))
abbrev mX4_readSum : jMe := (4, yX4_readSum, cX4_readSum, 5, (some .boolean))
abbrev mX4_readTerm : jMe := (4, yX4_readTerm, cX4_readTerm, 5, (some .boolean))
abbrev mX4_readTruth : jMe := (4, yX4_readTruth, cX4_readTruth, 5, (some .boolean))
abbrev mX4_readUnit : jMe := (4, yX4_readUnit, cX4_readUnit, 5, (some .boolean))
abbrev mX5_clear : jMe := (5, yX5_clear, cX5_clear, 1, none)
abbrev mX5_init : jMe := (5, yX5_init, cX5_init, 2, none)
abbrev mX5_keep : jMe := (5, yX5_keep, cX5_keep, 3, none)
abbrev mX5_takeBack : jMe := (5, yX5_takeBack, cX5_takeBack, 4, (some .boolean))
abbrev mX6_bestHoursToAsk : jMe := (6, yX6_bestHoursToAsk, cX6_bestHoursToAsk, 7, (some .int))
abbrev mX6_clear : jMe := (6, yX6_clear, cX6_clear, 1, none)
abbrev mX6_collect : jMe := (6, yX6_collect, cX6_collect, 8, none)
abbrev mX6_init : jMe := (6, yX6_init, cX6_init, 1, none)
abbrev mX6_isAsSeen : jMe := (6, yX6_isAsSeen, cX6_isAsSeen, 7, (some .boolean))
abbrev mX6_moreIndex : jMe := (6, yX6_moreIndex, cX6_moreIndex, 4, (some .int))
abbrev mX6_mostAlike : jMe := (6, yX6_mostAlike, cX6_mostAlike, 8, (some .int))
abbrev mX6_note : jMe := (6, yX6_note, cX6_note, 5, (some .boolean))
abbrev mX6_solve : jMe := (6, yX6_solve, cX6_solve, 5, none)
abbrev mX6_weighPossible : jMe := (6, yX6_weighPossible, cX6_weighPossible, 9, none)
abbrev mX6_weighTold : jMe := (6, yX6_weighTold, cX6_weighTold, 5, none)
abbrev mX6_weightWith : jMe := (6, yX6_weightWith, cX6_weightWith, 11, (some .long))
abbrev mX6_whomOf : jMe := (6, yX6_whomOf, cX6_whomOf, 1, (some .int))
abbrev mX7_copyAll : jMe := (7, yX7_copyAll, cX7_copyAll, 2, none)
abbrev mX7_copyMinds : jMe := (7, yX7_copyMinds, cX7_copyMinds, 2, none)
abbrev mX7_emptyPlace : jMe := (7, yX7_emptyPlace, cX7_emptyPlace, 3, (some .int))
abbrev mX7_floats : jMe := (7, yX7_floats, cX7_floats, 2, (some .boolean))
abbrev mX7_giveUpAll : jMe := (7, yX7_giveUpAll, cX7_giveUpAll, 4, none)
abbrev mX7_heaviestThoughtOf : jMe := (7, yX7_heaviestThoughtOf, cX7_heaviestThoughtOf, 4, (some .int))
abbrev mX7_init : jMe := (7, yX7_init, cX7_init, 1, none)
abbrev mX7_lay : jMe := (7, yX7_lay, cX7_lay, 7, none)
abbrev mX7_logLength : jMe := (7, yX7_logLength, cX7_logLength, 1, (some .int))
abbrev mX7_logged : jMe := (7, yX7_logged, cX7_logged, 3, (some .int))
abbrev mX7_note : jMe := (7, yX7_note, cX7_note, 3, none)
abbrev mX7_oldestAge : jMe := (7, yX7_oldestAge, cX7_oldestAge, 3, (some .int))
abbrev mX7_passHour : jMe := (7, yX7_passHour, cX7_passHour, 2, none)
abbrev mX7_renewTunesOf : jMe := (7, yX7_renewTunesOf, cX7_renewTunesOf, 3, none)
abbrev mX7_settle : jMe := (7, yX7_settle, cX7_settle, 4, none)
abbrev mX7_thinksOf : jMe := (7, yX7_thinksOf, cX7_thinksOf, 4, (some .boolean))
abbrev mX7_thoughtCount : jMe := (7, yX7_thoughtCount, cX7_thoughtCount, 3, (some .int))
abbrev mX7_thoughtsOf : jMe := (7, yX7_thoughtsOf, cX7_thoughtsOf, 4, (some .int))
abbrev mX7_weight : jMe := (7, yX7_weight, cX7_weight, 5, (some .long))
abbrev mX8_append : jMe := (8, yX8_append, cX8_append, 4, none)
abbrev mX8_fail : jMe := (8, yX8_fail, cX8_fail, 1, (some .boolean))
abbrev mX8_failAt : jMe := (8, yX8_failAt, cX8_failAt, 2, (some .boolean))
abbrev mX8_init : jMe := (8, yX8_init, cX8_init, 1, none)
abbrev mX8_isDigit : jMe := (8, yX8_isDigit, cX8_isDigit, 1, (some .boolean))
abbrev mX8_next : jMe := (8, yX8_next, cX8_next, 1, (some .int))
abbrev mX8_number : jMe := (8, yX8_number, cX8_number, 4, (some .int))
abbrev mX8_rewind : jMe := (8, yX8_rewind, cX8_rewind, 1, none)
abbrev mX8_step : jMe := (8, yX8_step, cX8_step, 1, none)
abbrev mX8_take : jMe := (8, yX8_take, cX8_take, 2, (some .boolean))
abbrev mX9_floating : jMe := (9, yX9_floating, cX9_floating, 13, (some .long))
abbrev mX9_init : jMe := (9, yX9_init, cX9_init, 2, none)
abbrev mX9_partsThatFloat : jMe := (9, yX9_partsThatFloat, cX9_partsThatFloat, 7, (some .long))
noncomputable def lkFt : List (jE) := [(0, 9, 0, 0, 2, 443, false),
  (0, 15, 0, 2, 2, 445, false),
  (0, 19, 0, 3, 2, 446, false),
  (0, 23, 0, 1, 0, 444, false),
  (1, 9, 1, 3, 2, 285, false),
  (1, 15, 1, 4, 2, 287, false),
  (1, 20, 1, 6, 2, 291, false),
  (1, 23, 2, 3, 0, 186, true),
  (1, 29, 1, 0, 0, 278, false),
  (1, 30, 2, 1, 2, 182, true),
  (1, 37, 1, 1, 0, 281, false),
  (1, 40, 1, 2, 0, 283, false),
  (1, 43, 2, 5, 2, 190, true),
  (1, 48, 2, 6, 2, 192, true),
  (1, 53, 7, 0, 2, 314, true),
  (1, 58, 7, 3, 2, 324, true),
  (1, 61, 7, 7, 0, 336, true),
  (1, 64, 7, 9, 0, 341, true),
  (1, 71, 7, 1, 2, 318, true),
  (1, 74, 7, 2, 2, 321, true),
  (1, 81, 7, 4, 2, 328, true),
  (1, 88, 1, 5, 2, 289, false),
  (2, 11, 2, 0, 2, 180, false),
  (2, 15, 2, 1, 2, 181, false),
  (2, 18, 2, 4, 2, 187, false),
  (2, 21, 2, 5, 2, 189, false),
  (2, 24, 2, 6, 2, 191, false),
  (2, 27, 2, 8, 2, 195, false),
  (2, 30, 2, 9, 2, 197, false),
  (2, 33, 2, 10, 2, 199, false),
  (2, 36, 2, 11, 2, 201, false),
  (2, 39, 2, 3, 0, 185, false),
  (2, 43, 2, 7, 0, 193, false),
  (2, 46, 2, 2, 3, 184, false),
  (2, 120, 8, 2, 0, 161, true),
  (3, 9, 3, 0, 2, 240, false),
  (3, 15, 3, 1, 2, 241, false),
  (3, 18, 3, 3, 2, 243, false),
  (3, 21, 3, 4, 2, 244, false),
  (3, 24, 3, 5, 2, 245, false),
  (3, 27, 3, 7, 2, 247, false),
  (3, 30, 3, 2, 0, 242, false),
  (3, 34, 3, 6, 0, 246, false),
  (4, 12, 4, 0, 2, 265, false),
  (5, 11, 5, 0, 2, 373, false),
  (5, 18, 5, 2, 0, 375, false),
  (5, 22, 5, 1, 0, 374, false),
  (6, 11, 6, 0, 2, 392, false),
  (6, 15, 6, 1, 2, 393, false),
  (6, 18, 6, 2, 2, 394, false),
  (6, 21, 6, 3, 2, 395, false),
  (6, 27, 6, 6, 2, 400, false),
  (6, 31, 6, 7, 2, 401, false),
  (6, 34, 6, 8, 2, 402, false),
  (6, 38, 6, 9, 2, 403, false),
  (6, 41, 6, 10, 2, 404, false),
  (6, 44, 6, 12, 2, 408, false),
  (6, 47, 6, 4, 0, 396, false),
  (6, 51, 6, 5, 3, 398, false),
  (6, 63, 6, 11, 0, 406, false),
  (6, 66, 1, 0, 0, 279, true),
  (6, 79, 7, 7, 0, 335, true),
  (6, 97, 7, 4, 2, 327, true),
  (6, 144, 7, 5, 2, 331, true),
  (6, 151, 7, 0, 2, 315, true),
  (7, 9, 7, 0, 2, 313, false),
  (7, 15, 7, 1, 2, 317, false),
  (7, 18, 7, 2, 2, 320, false),
  (7, 21, 7, 3, 2, 323, false),
  (7, 24, 7, 4, 2, 326, false),
  (7, 27, 7, 5, 2, 330, false),
  (7, 30, 7, 6, 2, 333, false),
  (7, 37, 2, 7, 0, 194, true),
  (7, 47, 2, 8, 2, 196, true),
  (7, 54, 2, 9, 2, 198, true),
  (7, 55, 2, 10, 2, 200, true),
  (7, 56, 2, 11, 2, 202, true),
  (7, 61, 2, 4, 2, 188, true),
  (7, 66, 2, 1, 2, 183, true),
  (7, 69, 7, 7, 0, 334, false),
  (7, 72, 7, 8, 0, 338, false),
  (7, 75, 7, 9, 0, 340, false),
  (8, 9, 8, 0, 2, 157, false),
  (8, 15, 8, 3, 0, 162, false),
  (8, 19, 8, 1, 0, 158, false),
  (8, 26, 8, 2, 0, 160, false),
  (9, 11, 9, 0, 2, 465, false),
  (10, 10, 10, 0, 2, 469, false),
  (10, 19, 10, 1, 2, 470, false),
  (10, 26, 10, 2, 2, 471, false),
  (10, 32, 10, 3, 2, 472, false),
  (10, 36, 10, 5, 0, 474, false),
  (10, 40, 10, 6, 0, 475, false),
  (10, 43, 10, 7, 2, 476, false),
  (10, 50, 10, 9, 2, 478, false),
  (10, 57, 10, 10, 2, 479, false),
  (10, 61, 10, 11, 2, 480, false),
  (10, 64, 10, 12, 2, 481, false),
  (10, 67, 10, 13, 2, 482, false),
  (10, 73, 10, 15, 2, 484, false),
  (10, 80, 10, 16, 2, 485, false),
  (10, 87, 10, 17, 2, 486, false),
  (10, 94, 10, 18, 2, 487, false),
  (10, 98, 10, 19, 2, 488, false),
  (10, 105, 8, 1, 0, 159, true),
  (10, 116, 8, 3, 0, 163, true),
  (10, 124, 10, 4, 0, 473, false),
  (10, 142, 10, 14, 3, 483, false),
  (10, 146, 1, 0, 0, 280, true),
  (10, 150, 4, 0, 2, 266, true),
  (10, 158, 1, 5, 2, 290, true),
  (10, 161, 6, 5, 3, 399, true),
  (10, 168, 7, 7, 0, 337, true),
  (10, 171, 1, 1, 0, 282, true),
  (10, 174, 1, 2, 0, 284, true),
  (10, 176, 7, 8, 0, 339, true),
  (10, 190, 7, 5, 2, 332, true),
  (10, 197, 1, 3, 2, 286, true),
  (10, 200, 1, 4, 2, 288, true),
  (10, 223, 7, 0, 2, 316, true),
  (10, 226, 7, 1, 2, 319, true),
  (10, 229, 7, 2, 2, 322, true),
  (10, 232, 7, 3, 2, 325, true),
  (10, 235, 7, 4, 2, 329, true),
  (10, 252, 7, 9, 0, 342, true),
  (10, 255, 6, 4, 0, 397, true),
  (10, 258, 5, 2, 0, 376, true),
  (10, 282, 10, 8, 1, 477, false),
  (10, 400, 6, 11, 0, 407, true),
  (10, 403, 6, 10, 2, 405, true),
  (11, 9, 11, 1, 2, 1337, false),
  (11, 13, 11, 6, 2, 1342, false),
  (11, 16, 11, 7, 2, 1343, false),
  (11, 19, 11, 8, 2, 1344, false),
  (11, 22, 11, 9, 2, 1345, false),
  (11, 25, 11, 10, 2, 1346, false),
  (11, 28, 11, 11, 2, 1347, false),
  (11, 31, 11, 12, 2, 1348, false),
  (11, 34, 11, 15, 2, 1351, false),
  (11, 37, 11, 16, 2, 1352, false),
  (11, 40, 11, 17, 2, 1353, false),
  (11, 43, 11, 18, 2, 1354, false),
  (11, 46, 11, 19, 2, 1355, false),
  (11, 49, 11, 22, 2, 1358, false),
  (11, 52, 11, 23, 2, 1359, false),
  (11, 55, 11, 24, 2, 1360, false),
  (11, 58, 11, 27, 2, 1363, false),
  (11, 61, 11, 28, 2, 1364, false),
  (11, 64, 11, 29, 2, 1365, false),
  (11, 67, 11, 30, 0, 1366, false),
  (11, 71, 11, 31, 0, 1367, false),
  (11, 74, 11, 32, 2, 1368, false),
  (11, 77, 11, 35, 2, 1371, false),
  (11, 80, 11, 36, 2, 1372, false),
  (11, 84, 11, 37, 2, 1373, false),
  (11, 87, 11, 38, 2, 1374, false),
  (11, 90, 11, 39, 2, 1375, false),
  (11, 93, 11, 40, 2, 1376, false),
  (11, 96, 11, 41, 2, 1377, false),
  (11, 100, 11, 43, 2, 1379, false),
  (11, 103, 11, 44, 2, 1380, false),
  (11, 106, 11, 45, 2, 1381, false),
  (11, 109, 11, 0, 0, 1336, false),
  (11, 116, 11, 2, 0, 1338, false),
  (11, 119, 11, 3, 0, 1339, false),
  (11, 126, 11, 4, 0, 1340, false),
  (11, 129, 11, 14, 0, 1350, false),
  (11, 132, 11, 5, 0, 1341, false),
  (11, 248, 11, 20, 0, 1356, false),
  (11, 251, 11, 21, 0, 1357, false),
  (11, 281, 11, 26, 0, 1362, false),
  (11, 287, 11, 25, 0, 1361, false),
  (11, 293, 11, 42, 0, 1378, false),
  (11, 296, 11, 33, 0, 1369, false),
  (11, 299, 11, 46, 3, 1382, false),
  (11, 306, 11, 13, 0, 1349, false),
  (11, 390, 11, 34, 1, 1370, false)]
noncomputable def lkSt : List (Nat × Nat × Nat × Nat) := [(2, 96, 4, 560),
  (2, 114, 2, 617),
  (2, 117, 3, 619),
  (2, 126, 1, 606)]
noncomputable def lkKt : List (Nat × Nat × Int × Nat) := [(1, 92, 100000, 805),
  (1, 97, 1000000, 823),
  (3, 57, -1000000, 818),
  (3, 58, 1000000, 819),
  (10, 261, -1000000, 861),
  (10, 432, 2147483647, 984),
  (11, 424, 1000000, 1875),
  (11, 449, -1000000, 1927),
  (11, 467, 1000000000, 1948),
  (13, 264, 65536, 1707),
  (13, 265, 1431655765, 1026),
  (13, 266, 858993459, 1027),
  (13, 267, 252645135, 1028)]
noncomputable def lkLt : List (Nat × Nat × Int × Nat) := [(0, 48, 1000000, 1034),
  (1, 110, 1000000, 911),
  (6, 135, 1000, 1198),
  (7, 90, 1000, 899),
  (7, 100, 10000, 901),
  (9, 26, 1000000000, 1083),
  (9, 41, 100, 1089),
  (10, 310, 6364136223846793005, 957),
  (10, 312, 1442695040888963407, 958),
  (10, 437, 16777216, 828),
  (10, 439, 8388607, 1329),
  (11, 199, -1000000, 1687),
  (11, 201, 1000000, 1688),
  (11, 320, 100000, 1672),
  (11, 329, 1000, 1663),
  (11, 338, 2147483647, 1711),
  (11, 344, 10000, 1775),
  (11, 394, 6364136223846793005, 1820),
  (11, 396, 1442695040888963407, 1821),
  (11, 458, 100, 1953),
  (12, 94, 4294967295, 2010)]
noncomputable def lkNt : List (Nat × Nat × Nat × Nat) := [(4, 9, 3, 234),
  (5, 9, 7, 370),
  (6, 24, 7, 390),
  (9, 9, 7, 463),
  (10, 7, 8, 151),
  (10, 16, 2, 174),
  (10, 23, 4, 228),
  (10, 30, 3, 270),
  (10, 47, 1, 272),
  (10, 54, 7, 307),
  (10, 70, 5, 364),
  (10, 77, 6, 384),
  (10, 84, 0, 437),
  (10, 91, 9, 457),
  (12, 8, 10, 143),
  (12, 16, 11, 1330)]
noncomputable def lkAt : List (Nat × Nat × Nat × Nat) := [(5, 9, 23, 370),
  (9, 9, 23, 463),
  (10, 30, 24, 270)]
noncomputable def lkOt : List (Nat × Nat × Nat) := [(0, 3, 442),
  (1, 3, 277),
  (2, 3, 179),
  (3, 3, 239),
  (4, 3, 233),
  (5, 3, 369),
  (6, 5, 389),
  (7, 3, 312),
  (8, 3, 156),
  (9, 3, 462),
  (10, 1, 148),
  (11, 3, 1335)]
noncomputable def lkXt : List (Nat × Nat × Nat) := [(11, 203, 3),
  (11, 209, 1),
  (11, 352, 2),
  (11, 443, 0)]
noncomputable def lkMt0 : List (Nat × Nat × Nat × jMe × Nat × Bool × List Nat) := [(0, 27, 0, mX7_weight, 1, false, [1003, 898, 129, 896, 897]),
  (0, 33, 2, mX10_putLong, 3, true, [1004, 1006, 123, 1005, 0]),
  (0, 37, 2, mX10_longAt, 2, true, [1011, 1013, 123, 1012, 0]),
  (0, 41, 2, mX10_rounded, 1, true, [1014, 827, 123, 826, 0]),
  (0, 45, 0, mX0_loadOf, 1, false, [1033, 1010, 132, 1008, 1009]),
  (0, 50, 2, mJ6_bitCount_0f7a4, 1, false, [1023, 1025, 142, 1024, 0]),
  (0, 56, 0, mX0_bears, 2, false, [1029, 1032, 132, 1031, 25]),
  (0, 60, 2, mX10_put, 3, true, [1043, 543, 123, 542, 0]),
  (0, 64, 0, mX0_fewestFor, 1, false, [1044, 1047, 132, 1046, 26]),
  (0, 67, 2, mX10_at, 2, true, [1048, 564, 123, 563, 0]),
  (1, 33, 2, mX10_at, 2, true, [723, 564, 123, 563, 0]),
  (1, 44, 2, mX10_copyRow, 2, true, [724, 568, 123, 567, 0]),
  (1, 49, 2, mX10_goesInto, 2, true, [840, 632, 123, 631, 0]),
  (1, 67, 0, mX1_lookUp, 3, false, [796, 799, 128, 797, 798]),
  (1, 77, 0, mX1_massOf, 3, false, [801, 804, 128, 802, 803]),
  (1, 84, 2, mX10_put, 3, true, [800, 543, 123, 542, 0]),
  (1, 93, 0, mX3_worth, 1, false, [806, 809, 127, 807, 808]),
  (1, 98, 2, mX10_within, 3, true, [824, 822, 123, 821, 0]),
  (1, 102, 2, mX10_rounded, 1, true, [825, 827, 123, 826, 0]),
  (1, 106, 0, mX7_weight, 1, false, [910, 898, 129, 896, 897]),
  (1, 112, 0, mX7_floats, 1, false, [891, 894, 129, 892, 893]),
  (1, 116, 0, mX1_sinks, 2, false, [906, 909, 128, 907, 908]),
  (1, 120, 0, mX1_takes, 2, false, [1057, 839, 128, 837, 838]),
  (1, 123, 0, mX7_emptyPlace, 1, false, [1058, 927, 129, 925, 926]),
  (2, 50, 0, mX2_layOutUntold, 1, false, [556, 559, 125, 558, 0]),
  (2, 54, 2, mX10_copyRow, 2, true, [566, 568, 123, 567, 0]),
  (2, 58, 0, mX8_rewind, 0, false, [569, 572, 124, 570, 571]),
  (2, 63, 0, mX2_readClause, 1, false, [573, 576, 125, 575, 1]),
  (2, 67, 0, mX8_next, 0, false, [577, 580, 124, 578, 579]),
  (2, 71, 0, mX2_holdsTogether, 0, false, [626, 629, 125, 628, 6]),
  (2, 75, 0, mX8_fail, 0, false, [586, 589, 124, 587, 588]),
  (2, 78, 0, mX8_take, 1, false, [637, 640, 124, 638, 639]),
  (2, 82, 0, mX2_sortThatMayBegin, 1, false, [582, 585, 125, 584, 2]),
  (2, 86, 0, mX8_step, 0, false, [594, 597, 124, 595, 596]),
  (2, 89, 0, mX2_readItems, 2, false, [598, 601, 125, 600, 3]),
  (2, 93, 0, mX2_keep, 1, false, [622, 625, 125, 624, 5]),
  (2, 99, 2, mX10_at, 2, true, [562, 564, 123, 563, 0]),
  (2, 103, 2, mX10_put, 3, true, [565, 543, 123, 542, 0]),
  (2, 107, 0, mX2_itemOf, 2, false, [602, 605, 125, 604, 4]),
  (2, 111, 0, mX8_number, 1, false, [608, 611, 124, 609, 610])]
noncomputable def lkMt1 : List (Nat × Nat × Nat × jMe × Nat × Bool × List Nat) := [(2, 123, 0, mX8_failAt, 1, false, [621, 593, 124, 591, 592]),
  (2, 129, 2, mX10_goesInto, 2, true, [630, 632, 123, 631, 0]),
  (2, 133, 0, mX2_toldAhead, 1, false, [633, 636, 125, 635, 7]),
  (3, 37, 2, mX10_put, 3, true, [661, 543, 123, 542, 0]),
  (3, 41, 2, mX10_copyRow, 2, true, [765, 568, 123, 567, 0]),
  (3, 45, 2, mX10_at, 2, true, [810, 564, 123, 563, 0]),
  (3, 49, 0, mX3_reckon, 3, false, [811, 814, 127, 813, 19]),
  (3, 53, 2, mX3_joined, 3, false, [815, 817, 127, 816, 0]),
  (3, 59, 2, mX10_within, 3, true, [820, 822, 123, 821, 0]),
  (4, 11, 1, mX3_init, 0, true, [236, 238, 127, 237, 0]),
  (4, 18, 0, mX3_clear, 0, false, [646, 649, 127, 647, 648]),
  (4, 21, 0, mX8_rewind, 0, false, [650, 572, 124, 570, 571]),
  (4, 26, 0, mX4_readClause, 1, false, [651, 654, 126, 653, 8]),
  (4, 30, 0, mX8_next, 0, false, [662, 580, 124, 578, 579]),
  (4, 34, 0, mX8_take, 1, false, [655, 640, 124, 638, 639]),
  (4, 38, 0, mX8_fail, 0, false, [656, 589, 124, 587, 588]),
  (4, 42, 0, mX3_beginClause, 0, false, [657, 660, 127, 658, 659]),
  (4, 45, 0, mX4_readSum, 2, false, [663, 666, 126, 665, 9]),
  (4, 49, 2, mX4_isComparison, 1, false, [684, 686, 126, 685, 0]),
  (4, 52, 0, mX3_endClause, 0, false, [687, 690, 127, 688, 689]),
  (4, 55, 0, mX4_readCondition, 3, false, [691, 694, 126, 693, 12]),
  (4, 59, 0, mX3_beginSum, 0, false, [707, 710, 127, 708, 709]),
  (4, 62, 0, mX4_readTruth, 3, false, [695, 698, 126, 697, 13]),
  (4, 65, 0, mX3_add, 2, false, [679, 682, 127, 680, 681]),
  (4, 69, 0, mX4_readUnit, 3, false, [699, 702, 126, 701, 14]),
  (4, 72, 0, mX4_readNested, 3, false, [703, 706, 126, 705, 15]),
  (4, 76, 0, mX8_step, 0, false, [675, 597, 124, 595, 596]),
  (4, 79, 0, mX4_readTerm, 2, false, [667, 670, 126, 669, 10]),
  (4, 82, 0, mX4_readAtom, 2, false, [671, 674, 126, 673, 11]),
  (4, 85, 2, mX4_letterOf, 1, false, [676, 678, 126, 677, 0]),
  (4, 89, 0, mX8_number, 1, false, [683, 611, 124, 609, 610]),
  (5, 17, 1, mX7_init, 0, true, [372, 311, 129, 310, 0]),
  (5, 25, 2, mX10_stateAt, 2, true, [875, 877, 123, 876, 0]),
  (5, 29, 0, mX7_copyAll, 1, false, [878, 743, 129, 741, 742]),
  (6, 26, 1, mX7_init, 0, true, [391, 311, 129, 310, 0]),
  (6, 55, 2, mX10_put, 3, true, [1152, 543, 123, 542, 0]),
  (6, 59, 0, mX6_weighTold, 2, false, [1161, 1164, 131, 1163, 35]),
  (6, 71, 0, mX7_emptyPlace, 1, false, [1171, 927, 129, 925, 926]),
  (6, 75, 0, mX1_takes, 2, false, [1172, 839, 128, 837, 838]),
  (6, 82, 0, mX6_weighPossible, 4, false, [1173, 1176, 131, 1175, 36])]
noncomputable def lkMt2 : List (Nat × Nat × Nat × jMe × Nat × Bool × List Nat) := [(6, 86, 0, mX6_collect, 4, false, [1182, 1185, 131, 1184, 37]),
  (6, 90, 0, mX7_copyMinds, 1, false, [1165, 747, 129, 745, 746]),
  (6, 94, 0, mX1_weigh, 1, false, [1166, 795, 128, 793, 794]),
  (6, 100, 2, mX10_at, 2, true, [1167, 564, 123, 563, 0]),
  (6, 104, 0, mX7_weight, 1, false, [1168, 898, 129, 896, 897]),
  (6, 108, 2, mX10_putLong, 3, true, [1169, 1006, 123, 1005, 0]),
  (6, 112, 0, mX7_passHour, 0, false, [1170, 886, 129, 884, 885]),
  (6, 115, 0, mX1_lookUp, 3, false, [1177, 799, 128, 797, 798]),
  (6, 119, 0, mX1_massOf, 3, false, [1178, 804, 128, 802, 803]),
  (6, 123, 2, mX6_moreIndex, 4, false, [1179, 1181, 131, 1180, 0]),
  (6, 127, 0, mX6_isAsSeen, 2, false, [1186, 1189, 131, 1188, 38]),
  (6, 131, 0, mX6_weightWith, 4, false, [1190, 1193, 131, 1192, 39]),
  (6, 137, 2, mX6_whomOf, 1, false, [1194, 1196, 131, 1195, 0]),
  (6, 140, 2, mX10_longAt, 2, true, [1197, 1013, 123, 1012, 0]),
  (6, 147, 2, mX10_rounded, 1, true, [1199, 827, 123, 826, 0]),
  (6, 154, 0, mX6_mostAlike, 3, false, [1208, 1211, 131, 1210, 40]),
  (6, 158, 2, mX10_heftOf, 1, true, [1212, 1214, 123, 1213, 0]),
  (7, 33, 2, mX10_put, 3, true, [729, 543, 123, 542, 0]),
  (7, 43, 0, mX2_toldAhead, 1, true, [730, 636, 125, 635, 7]),
  (7, 50, 2, mX10_at, 2, true, [731, 564, 123, 563, 0]),
  (7, 57, 0, mX7_lay, 5, false, [732, 735, 129, 733, 734]),
  (7, 62, 2, mX10_copyRow, 2, true, [739, 568, 123, 567, 0]),
  (7, 78, 0, mX7_copyMinds, 1, false, [744, 747, 129, 745, 746]),
  (7, 82, 2, mX10_isPlace, 1, true, [736, 738, 123, 737, 0]),
  (7, 86, 0, mX7_thoughtCount, 0, false, [916, 919, 129, 917, 918]),
  (7, 92, 2, mX10_rounded, 1, true, [900, 827, 123, 826, 0]),
  (7, 96, 0, mX7_weight, 1, false, [895, 898, 129, 896, 897]),
  (8, 22, 2, mX10_put, 3, true, [541, 543, 123, 542, 0]),
  (8, 29, 2, mX10_at, 2, true, [581, 564, 123, 563, 0]),
  (8, 33, 0, mX8_next, 0, false, [612, 580, 124, 578, 579]),
  (8, 37, 0, mX8_step, 0, false, [641, 597, 124, 595, 596]),
  (8, 40, 0, mX8_failAt, 1, false, [590, 593, 124, 591, 592]),
  (8, 44, 2, mX8_isDigit, 1, false, [613, 615, 124, 614, 0]),
  (8, 47, 0, mX8_fail, 0, false, [616, 589, 124, 587, 588]),
  (9, 17, 1, mX7_init, 0, true, [464, 311, 129, 310, 0]),
  (9, 18, 2, mX10_stateAt, 2, true, [1081, 877, 123, 876, 0]),
  (9, 22, 0, mX7_copyMinds, 1, false, [1082, 747, 129, 745, 746]),
  (9, 28, 2, mX9_floating, 6, false, [1084, 1086, 133, 1085, 0]),
  (9, 32, 0, mX1_weigh, 1, false, [1087, 795, 128, 793, 794]),
  (9, 37, 0, mX7_floats, 1, false, [1088, 894, 129, 892, 893])]
noncomputable def lkMt3 : List (Nat × Nat × Nat × jMe × Nat × Bool × List Nat) := [(9, 43, 0, mX7_passHour, 0, false, [1090, 886, 129, 884, 885]),
  (9, 46, 0, mX7_renewTunesOf, 1, false, [1091, 1094, 129, 1092, 1093]),
  (10, 9, 1, mX8_init, 0, true, [153, 155, 124, 154, 0]),
  (10, 18, 1, mX2_init, 0, true, [176, 178, 125, 177, 0]),
  (10, 25, 1, mX4_init, 0, true, [230, 232, 126, 231, 0]),
  (10, 49, 1, mX1_init, 0, true, [274, 276, 128, 275, 0]),
  (10, 56, 1, mX7_init, 0, true, [309, 311, 129, 310, 0]),
  (10, 72, 1, mX5_init, 0, false, [366, 368, 130, 367, 0]),
  (10, 79, 1, mX6_init, 0, true, [386, 388, 131, 387, 0]),
  (10, 86, 1, mX0_init, 0, true, [439, 441, 132, 440, 0]),
  (10, 93, 1, mX9_init, 0, false, [459, 461, 133, 460, 0]),
  (10, 101, 2, mX10_signsOf, 1, false, [534, 536, 123, 535, 0]),
  (10, 108, 0, mX8_append, 1, false, [537, 540, 124, 538, 539]),
  (10, 112, 0, mX2_read, 1, false, [552, 555, 125, 553, 554]),
  (10, 119, 0, mX4_read, 1, false, [642, 645, 126, 643, 644]),
  (10, 120, 0, mX10_settle, 0, false, [715, 718, 123, 717, 16]),
  (10, 127, 0, mX10_enact, 0, false, [756, 759, 123, 758, 17]),
  (10, 130, 0, mX1_settle, 1, false, [719, 722, 128, 720, 721]),
  (10, 133, 0, mX7_settle, 1, false, [725, 728, 129, 726, 727]),
  (10, 134, 0, mX7_copyAll, 1, false, [740, 743, 129, 741, 742]),
  (10, 138, 0, mX5_clear, 0, false, [748, 751, 130, 749, 750]),
  (10, 141, 0, mX6_clear, 0, false, [752, 755, 131, 753, 754]),
  (10, 149, 1, mX3_init, 0, true, [760, 238, 127, 237, 0]),
  (10, 154, 0, mX3_copy, 1, false, [761, 764, 127, 762, 763]),
  (10, 164, 0, mX10_hasIsland, 0, false, [778, 781, 123, 780, 18]),
  (10, 179, 0, mX1_has, 1, false, [786, 789, 128, 787, 788]),
  (10, 193, 2, mX10_at, 2, false, [791, 564, 123, 563, 0]),
  (10, 203, 0, mX1_weigh, 1, false, [792, 795, 128, 793, 794]),
  (10, 206, 0, mX7_weight, 1, false, [980, 898, 129, 896, 897]),
  (10, 210, 2, mX10_asTold, 1, false, [981, 983, 123, 982, 0]),
  (10, 214, 2, mX10_heftOf, 1, false, [1239, 1214, 123, 1213, 0]),
  (10, 217, 2, mX10_grainOf, 1, false, [1326, 1328, 123, 1327, 0]),
  (10, 220, 2, mX10_isPlace, 1, false, [790, 738, 123, 737, 0]),
  (10, 238, 2, mX10_isKind, 1, false, [833, 835, 123, 834, 0]),
  (10, 241, 0, mX1_takes, 2, false, [836, 839, 128, 837, 838]),
  (10, 245, 0, mX7_logLength, 0, false, [845, 848, 129, 846, 847]),
  (10, 248, 0, mX7_logged, 2, false, [849, 852, 129, 850, 851]),
  (10, 262, 0, mX10_refuse, 1, false, [866, 869, 123, 868, 20]),
  (10, 265, 0, mX5_keep, 1, false, [871, 874, 130, 872, 873]),
  (10, 268, 0, mX10_letAnHourPass, 0, false, [879, 882, 123, 881, 21])]
noncomputable def lkMt4 : List (Nat × Nat × Nat × jMe × Nat × Bool × List Nat) := [(10, 271, 0, mX7_emptyPlace, 1, false, [924, 927, 129, 925, 926]),
  (10, 274, 0, mX7_lay, 5, false, [928, 735, 129, 733, 734]),
  (10, 278, 2, mX10_put, 3, false, [870, 543, 123, 542, 0]),
  (10, 286, 0, mX10_drawWhatIsAhead, 0, false, [949, 952, 123, 951, 22]),
  (10, 289, 0, mX5_takeBack, 1, false, [963, 966, 130, 964, 965]),
  (10, 293, 0, mX7_passHour, 0, false, [883, 886, 129, 884, 885]),
  (10, 296, 0, mX1_floating, 1, false, [887, 890, 128, 888, 889]),
  (10, 300, 0, mX1_sinking, 1, false, [902, 905, 128, 903, 904]),
  (10, 303, 0, mX7_note, 2, false, [912, 915, 129, 913, 914]),
  (10, 307, 0, mX10_draw, 1, false, [953, 956, 123, 955, 23]),
  (10, 314, 0, mX7_copyMinds, 1, false, [979, 747, 129, 745, 746]),
  (10, 317, 0, mX7_floats, 1, false, [990, 894, 129, 892, 893]),
  (10, 320, 0, mX10_allStandAtTheBridge, 0, false, [995, 998, 123, 997, 24]),
  (10, 323, 0, mX0_loadOf, 1, false, [1007, 1010, 132, 1008, 1009]),
  (10, 326, 0, mX0_mostAtOnce, 1, false, [1019, 1022, 132, 1020, 1021]),
  (10, 329, 0, mX0_fewestGoings, 1, false, [1039, 1042, 132, 1040, 1041]),
  (10, 332, 0, mX0_stand, 2, false, [999, 1002, 132, 1000, 1001]),
  (10, 336, 0, mX1_ableToThinkPolitely, 2, false, [1053, 1056, 128, 1054, 1055]),
  (10, 340, 2, mJ6_bitCount_0f7a4, 1, false, [1059, 1025, 142, 1024, 0]),
  (10, 345, 0, mX10_isHeldBy, 3, false, [1060, 1063, 123, 1062, 27]),
  (10, 349, 0, mX7_heaviestThoughtOf, 1, false, [1068, 1071, 129, 1069, 1070]),
  (10, 352, 0, mX1_sinks, 2, false, [1072, 909, 128, 907, 908]),
  (10, 356, 0, mX9_partsThatFloat, 5, false, [1077, 1080, 133, 1078, 1079]),
  (10, 360, 0, mX10_heaviest, 0, false, [1103, 1106, 123, 1105, 28]),
  (10, 363, 0, mX10_lightest, 0, false, [1107, 1110, 123, 1109, 29]),
  (10, 366, 0, mX10_deepest, 0, false, [1111, 1114, 123, 1113, 30]),
  (10, 369, 0, mX10_mostThoughtOf, 0, false, [1115, 1118, 123, 1117, 31]),
  (10, 372, 0, mX10_nobodys, 0, false, [1123, 1126, 123, 1125, 32]),
  (10, 375, 0, mX7_thoughtCount, 0, false, [1127, 919, 129, 917, 918]),
  (10, 378, 0, mX10_fullMinds, 0, false, [1128, 1131, 123, 1130, 33]),
  (10, 381, 0, mX7_oldestAge, 0, false, [1132, 1135, 129, 1133, 1134]),
  (10, 384, 0, mX10_pairs, 0, false, [1136, 1139, 123, 1138, 34]),
  (10, 387, 0, mX7_thoughtsOf, 1, false, [1119, 1122, 129, 1120, 1121]),
  (10, 390, 0, mX7_thinksOf, 2, false, [1140, 1143, 129, 1141, 1142]),
  (10, 393, 0, mX6_note, 4, false, [1148, 1151, 131, 1149, 1150]),
  (10, 396, 0, mX6_solve, 2, false, [1157, 1160, 131, 1158, 1159]),
  (10, 406, 0, mX6_bestHoursToAsk, 2, false, [1204, 1207, 131, 1205, 1206]),
  (10, 409, 0, mX10_areTwo, 2, false, [1219, 1222, 123, 1221, 41]),
  (10, 412, 0, mX10_play, 4, false, [1223, 1226, 123, 1225, 42]),
  (10, 416, 0, mX10_gainOf, 2, false, [1235, 1238, 123, 1237, 44])]
noncomputable def lkMt5 : List (Nat × Nat × Nat × jMe × Nat × Bool × List Nat) := [(10, 419, 0, mX10_countOrFind, 1, false, [1244, 1247, 123, 1246, 45]),
  (10, 422, 0, mX10_isRest, 2, false, [1248, 1251, 123, 1250, 46]),
  (10, 425, 0, mX10_move, 3, false, [1227, 1230, 123, 1229, 43]),
  (10, 429, 0, mX7_giveUpAll, 2, false, [1231, 1234, 129, 1232, 1233]),
  (10, 433, 2, mX10_within, 3, false, [985, 822, 123, 821, 0]),
  (11, 112, 2, mX11_byteOf, 6, false, [1486, 1488, 134, 1487, 0]),
  (11, 122, 0, mX11_here, 0, false, [1508, 1511, 134, 1510, 50]),
  (11, 135, 0, mX11_bad, 0, false, [1535, 1538, 134, 1537, 53]),
  (11, 138, 0, mX11_look, 0, false, [1504, 1507, 134, 1506, 49]),
  (11, 141, 2, mX11_isDigit, 1, false, [1532, 1534, 134, 1533, 0]),
  (11, 145, 0, mX11_plainNumber, 0, false, [1593, 1596, 134, 1595, 66]),
  (11, 148, 0, mX11_put, 2, false, [1573, 1576, 134, 1575, 61]),
  (11, 152, 2, mX11_letterOf, 1, false, [1597, 1599, 134, 1598, 0]),
  (11, 156, 0, mX11_opens, 0, false, [1569, 1572, 134, 1571, 60]),
  (11, 159, 0, mX11_sum, 0, false, [1581, 1584, 134, 1583, 63]),
  (11, 162, 0, mX11_closes, 1, false, [1577, 1580, 134, 1579, 62]),
  (11, 166, 0, mX11_atom, 0, false, [1589, 1592, 134, 1591, 65]),
  (11, 169, 0, mX11_term, 0, false, [1585, 1588, 134, 1587, 64]),
  (11, 172, 2, mX11_isSign, 1, false, [1604, 1606, 134, 1605, 0]),
  (11, 175, 0, mX11_unit, 0, false, [1565, 1568, 134, 1567, 59]),
  (11, 178, 0, mX11_condition, 0, false, [1561, 1564, 134, 1563, 58]),
  (11, 181, 0, mX11_compare, 0, false, [1600, 1603, 134, 1602, 67]),
  (11, 184, 0, mX11_goOnAnd, 0, false, [1607, 1610, 134, 1609, 68]),
  (11, 187, 0, mX11_goOnOr, 0, false, [1611, 1614, 134, 1613, 69]),
  (11, 190, 0, mX11_open, 1, false, [1553, 1556, 134, 1555, 56]),
  (11, 193, 0, mX11_clause, 0, false, [1557, 1560, 134, 1559, 57]),
  (11, 196, 0, mX11_atEnd, 0, false, [1615, 1618, 134, 1617, 70]),
  (11, 212, 2, mX11_bounded, 1, false, [1684, 1686, 134, 1685, 0]),
  (11, 216, 2, mX11_worked, 3, false, [1681, 1683, 134, 1682, 0]),
  (11, 220, 0, mX11_workOut, 3, false, [1677, 1680, 134, 1679, 82]),
  (11, 224, 2, mX11_in, 3, false, [1539, 1541, 134, 1540, 0]),
  (11, 228, 2, mX11_usual, 2, false, [1501, 1503, 134, 1502, 0]),
  (11, 232, 2, mX11_itemOf, 2, false, [1516, 1518, 134, 1517, 0]),
  (11, 235, 2, mX11_has, 2, false, [1519, 1521, 134, 1520, 0]),
  (11, 239, 2, mX11_lowest, 2, false, [1522, 1524, 134, 1523, 0]),
  (11, 242, 2, mX11_highest, 2, false, [1525, 1527, 134, 1526, 0]),
  (11, 245, 0, mX11_number, 2, false, [1528, 1531, 134, 1530, 52]),
  (11, 254, 2, mX11_goesInto, 2, false, [1546, 1548, 134, 1547, 0]),
  (11, 257, 0, mX11_items, 4, false, [1512, 1515, 134, 1514, 51]),
  (11, 261, 0, mX11_isWhole, 0, false, [1542, 1545, 134, 1544, 54])]
noncomputable def lkMt6 : List (Nat × Nat × Nat × jMe × Nat × Bool × List Nat) := [(11, 265, 0, mX11_readIsland, 0, false, [1497, 1500, 134, 1499, 48]),
  (11, 268, 0, mX11_readLaw, 1, false, [1549, 1552, 134, 1551, 55]),
  (11, 271, 0, mX11_of, 3, false, [1639, 1642, 134, 1641, 75]),
  (11, 274, 0, mX11_emptyIn, 1, false, [1635, 1638, 134, 1637, 74]),
  (11, 277, 0, mX11_set, 4, false, [1643, 1646, 134, 1645, 76]),
  (11, 284, 0, mX11_putThought, 4, false, [1631, 1634, 134, 1633, 73]),
  (11, 290, 0, mX11_layTold, 0, false, [1627, 1630, 134, 1629, 72]),
  (11, 303, 0, mX11_takeIsland, 0, false, [1623, 1626, 134, 1625, 71]),
  (11, 309, 0, mX11_isPerson, 1, false, [1655, 1658, 134, 1657, 77]),
  (11, 312, 2, mJ13_numberOfLeadingZeros_95d88, 1, false, [1701, 1703, 141, 1702, 0]),
  (11, 317, 2, mX11_lengthOf, 1, false, [1698, 1700, 134, 1699, 0]),
  (11, 322, 0, mX11_worthOf, 1, false, [1673, 1676, 134, 1675, 81]),
  (11, 325, 2, mX11_rounded, 1, false, [1695, 1697, 134, 1696, 0]),
  (11, 331, 0, mX11_isOf, 3, false, [1664, 1667, 134, 1666, 79]),
  (11, 334, 0, mX11_massOf, 2, false, [1668, 1671, 134, 1670, 80]),
  (11, 340, 0, mX11_weightOf, 1, false, [1659, 1662, 134, 1661, 78]),
  (11, 346, 0, mX11_doesFloat, 1, false, [1771, 1774, 134, 1773, 92]),
  (11, 349, 0, mX11_doesSink, 1, false, [1780, 1783, 134, 1782, 94]),
  (11, 354, 0, mX11_live, 0, false, [1760, 1763, 134, 1762, 90]),
  (11, 357, 0, mX11_floating, 0, false, [1767, 1770, 134, 1769, 91]),
  (11, 360, 0, mX11_sinking, 0, false, [1776, 1779, 134, 1778, 93]),
  (11, 363, 0, mX11_thoughtMany, 0, false, [1784, 1787, 134, 1786, 95]),
  (11, 366, 2, mX11_asTold, 1, false, [1708, 1710, 134, 1709, 0]),
  (11, 369, 0, mX11_heftOf, 1, false, [1712, 1715, 134, 1714, 83]),
  (11, 372, 0, mX11_grainOf, 1, false, [1716, 1719, 134, 1718, 84]),
  (11, 375, 0, mX11_goesTo, 2, false, [1728, 1731, 134, 1730, 85]),
  (11, 378, 0, mX11_areHours, 1, false, [1744, 1747, 134, 1746, 86]),
  (11, 381, 0, mX11_isRefused, 1, false, [1748, 1751, 134, 1750, 87]),
  (11, 384, 0, mX11_keep, 0, false, [1752, 1755, 134, 1754, 88]),
  (11, 387, 0, mX11_passHour, 0, false, [1756, 1759, 134, 1758, 89]),
  (11, 398, 0, mX11_draw, 1, false, [1816, 1819, 134, 1818, 97]),
  (11, 401, 0, mX11_drawHour, 0, false, [1812, 1815, 134, 1814, 96]),
  (11, 404, 0, mX11_putAside, 1, false, [1838, 1841, 134, 1840, 98]),
  (11, 407, 0, mX11_takeBack, 1, false, [1842, 1845, 134, 1844, 99]),
  (11, 410, 0, mX11_loadOf, 1, false, [1858, 1861, 134, 1860, 101]),
  (11, 413, 0, mX11_layWeights, 0, false, [1854, 1857, 134, 1856, 100]),
  (11, 416, 2, mJ6_bitCount_0f7a4, 1, false, [1866, 1025, 142, 1024, 0]),
  (11, 421, 0, mX11_doesBear, 1, false, [1867, 1870, 134, 1869, 102]),
  (11, 425, 0, mX11_isHeldBy, 2, false, [1880, 1883, 134, 1882, 103]),
  (11, 428, 0, mX11_easeOnce, 1, false, [1888, 1891, 134, 1890, 104])]
noncomputable def lkMt7 : List (Nat × Nat × Nat × jMe × Nat × Bool × List Nat) := [(11, 431, 0, mX11_areTwo, 2, false, [1908, 1911, 134, 1910, 107]),
  (11, 434, 0, mX11_isCode, 1, false, [1904, 1907, 134, 1906, 106]),
  (11, 437, 0, mX11_layTrail, 1, false, [1912, 1915, 134, 1914, 108]),
  (11, 440, 0, mX11_isFit, 1, false, [1900, 1903, 134, 1902, 105]),
  (11, 445, 0, mX11_choose, 3, false, [1932, 1935, 134, 1934, 110]),
  (11, 450, 0, mX11_gameOf, 4, false, [1928, 1931, 134, 1930, 109]),
  (11, 454, 0, mX11_isRest, 4, false, [1940, 1943, 134, 1942, 111]),
  (11, 460, 0, mX11_tuneUp, 1, false, [1954, 1957, 134, 1956, 113]),
  (11, 463, 0, mX11_oddsFrom, 5, false, [1949, 1952, 134, 1951, 112]),
  (11, 468, 0, mX11_ofMany, 1, false, [1970, 1973, 134, 1972, 115]),
  (11, 471, 0, mX11_valueOf, 2, false, [1994, 1997, 134, 1996, 121]),
  (11, 474, 0, mX11_thinksOf, 2, false, [1986, 1989, 134, 1988, 119]),
  (11, 477, 0, mX11_nobodys, 0, false, [1966, 1969, 134, 1968, 114]),
  (11, 480, 0, mX11_fullOnes, 0, false, [1974, 1977, 134, 1976, 116]),
  (11, 483, 0, mX11_oldest, 0, false, [1978, 1981, 134, 1980, 117]),
  (11, 486, 0, mX11_pairMany, 0, false, [1982, 1985, 134, 1984, 118]),
  (11, 489, 0, mX11_topBy, 1, false, [1990, 1993, 134, 1992, 120]),
  (12, 7, 0, mX10_person, 2, false, [1256, 1259, 123, 1257, 1258]),
  (12, 15, 1, mX10_init, 0, false, [145, 147, 123, 146, 0]),
  (12, 18, 1, mX11_init, 0, false, [1332, 1334, 134, 1333, 0]),
  (12, 19, 0, mX10_feed, 5, false, [530, 533, 123, 531, 532]),
  (12, 23, 0, mX11_feed, 5, false, [1482, 1485, 134, 1483, 1484]),
  (12, 24, 0, mX10_end, 1, false, [544, 547, 123, 545, 546]),
  (12, 28, 0, mX11_end, 1, false, [1489, 1492, 134, 1490, 1491]),
  (12, 29, 0, mX10_fault, 1, false, [548, 551, 123, 549, 550]),
  (12, 33, 0, mX11_fault, 1, false, [1493, 1496, 134, 1494, 1495]),
  (12, 34, 0, mX10_text, 1, false, [711, 714, 123, 712, 713]),
  (12, 37, 0, mX11_text, 1, false, [1619, 1622, 134, 1620, 1621]),
  (12, 38, 0, mX10_rule, 1, false, [774, 777, 123, 775, 776]),
  (12, 41, 0, mX11_rule, 1, false, [1647, 1650, 134, 1648, 1649]),
  (12, 47, 0, mX11_person, 2, false, [1651, 1654, 134, 1652, 1653]),
  (12, 48, 0, mX11_thrown, 0, false, [1478, 1481, 134, 1479, 1480]),
  (12, 52, 0, mX10_thought, 3, false, [782, 785, 123, 783, 784]),
  (12, 56, 0, mX11_thought, 3, false, [1720, 1723, 134, 1721, 1722]),
  (12, 57, 0, mX10_goes, 2, false, [829, 832, 123, 830, 831]),
  (12, 60, 0, mX11_goes, 2, false, [1724, 1727, 134, 1725, 1726]),
  (12, 61, 0, mX10_law, 1, false, [766, 769, 123, 767, 768]),
  (12, 64, 0, mX11_law, 1, false, [1732, 1735, 134, 1733, 1734]),
  (12, 65, 0, mX10_memory, 1, false, [770, 773, 123, 771, 772]),
  (12, 68, 0, mX11_memory, 1, false, [1736, 1739, 134, 1737, 1738])]
noncomputable def lkMt8 : List (Nat × Nat × Nat × jMe × Nat × Bool × List Nat) := [(12, 69, 0, mX10_hours, 1, false, [862, 865, 123, 863, 864]),
  (12, 72, 0, mX11_hours, 1, false, [1740, 1743, 134, 1741, 1742]),
  (12, 73, 0, mX10_think, 4, false, [920, 923, 123, 921, 922]),
  (12, 77, 0, mX11_think, 4, false, [1788, 1791, 134, 1789, 1790]),
  (12, 78, 0, mX10_forget, 2, false, [929, 932, 123, 930, 931]),
  (12, 81, 0, mX11_forget, 2, false, [1792, 1795, 134, 1793, 1794]),
  (12, 82, 0, mX10_hem, 2, false, [933, 936, 123, 934, 935]),
  (12, 85, 0, mX11_hem, 2, false, [1796, 1799, 134, 1797, 1798]),
  (12, 86, 0, mX10_wind, 1, false, [937, 940, 123, 938, 939]),
  (12, 89, 0, mX11_wind, 1, false, [1800, 1803, 134, 1801, 1802]),
  (12, 90, 0, mX10_give, 1, false, [941, 944, 123, 942, 943]),
  (12, 93, 0, mX11_give, 1, false, [1804, 1807, 134, 1805, 1806]),
  (12, 96, 0, mX10_years, 2, false, [945, 948, 123, 946, 947]),
  (12, 100, 0, mX11_years, 2, false, [1808, 1811, 134, 1809, 1810]),
  (12, 101, 0, mX10_status, 1, false, [853, 856, 123, 854, 855]),
  (12, 104, 0, mX11_status, 1, false, [1822, 1825, 134, 1823, 1824]),
  (12, 105, 0, mX10_undo, 0, false, [959, 962, 123, 960, 961]),
  (12, 108, 0, mX11_undo, 0, false, [1826, 1829, 134, 1827, 1828]),
  (12, 109, 0, mX10_log, 2, false, [841, 844, 123, 842, 843]),
  (12, 112, 0, mX11_log, 2, false, [1830, 1833, 134, 1831, 1832]),
  (12, 113, 0, mX10_behind, 2, false, [975, 978, 123, 976, 977]),
  (12, 116, 0, mX11_behind, 2, false, [1834, 1837, 134, 1835, 1836]),
  (12, 117, 0, mX10_floatsIn, 1, false, [986, 989, 123, 987, 988]),
  (12, 120, 0, mX11_floatsIn, 1, false, [1846, 1849, 134, 1847, 1848]),
  (12, 121, 0, mX10_load, 1, false, [991, 994, 123, 992, 993]),
  (12, 124, 0, mX11_load, 1, false, [1850, 1853, 134, 1851, 1852]),
  (12, 125, 0, mX10_together, 0, false, [1015, 1018, 123, 1016, 1017]),
  (12, 128, 0, mX11_together, 0, false, [1862, 1865, 134, 1863, 1864]),
  (12, 129, 0, mX10_goings, 0, false, [1035, 1038, 123, 1036, 1037]),
  (12, 132, 0, mX11_goings, 0, false, [1871, 1874, 134, 1872, 1873]),
  (12, 133, 0, mX10_held, 1, false, [1049, 1052, 123, 1050, 1051]),
  (12, 136, 0, mX11_held, 1, false, [1876, 1879, 134, 1877, 1878]),
  (12, 137, 0, mX10_eased, 1, false, [1064, 1067, 123, 1065, 1066]),
  (12, 140, 0, mX11_eased, 1, false, [1884, 1887, 134, 1885, 1886]),
  (12, 141, 0, mX10_seen, 4, false, [1144, 1147, 123, 1145, 1146]),
  (12, 145, 0, mX11_seen, 4, false, [1892, 1895, 134, 1893, 1894]),
  (12, 146, 0, mX10_fits, 1, false, [1153, 1156, 123, 1154, 1155]),
  (12, 149, 0, mX11_fits, 1, false, [1896, 1899, 134, 1897, 1898]),
  (12, 150, 0, mX10_ask, 1, false, [1200, 1203, 123, 1201, 1202]),
  (12, 153, 0, mX11_ask, 1, false, [1916, 1919, 134, 1917, 1918])]
noncomputable def lkMt9 : List (Nat × Nat × Nat × jMe × Nat × Bool × List Nat) := [(12, 154, 0, mX10_game, 5, false, [1215, 1218, 123, 1216, 1217]),
  (12, 157, 0, mX11_game, 5, false, [1923, 1926, 134, 1924, 1925]),
  (12, 158, 0, mX10_rests, 3, false, [1240, 1243, 123, 1241, 1242]),
  (12, 161, 0, mX11_rests, 3, false, [1936, 1939, 134, 1937, 1938]),
  (12, 162, 0, mX10_odds, 3, false, [1073, 1076, 123, 1074, 1075]),
  (12, 165, 0, mX11_odds, 3, false, [1944, 1947, 134, 1945, 1946]),
  (12, 166, 0, mX10_shares, 2, false, [1095, 1098, 123, 1096, 1097]),
  (12, 169, 0, mX11_shares, 2, false, [1958, 1961, 134, 1959, 1960]),
  (12, 170, 0, mX10_most, 1, false, [1099, 1102, 123, 1100, 1101]),
  (12, 173, 0, mX11_most, 1, false, [1962, 1965, 134, 1963, 1964]),
  (12, 174, 0, mX10_image, 0, false, [967, 970, 123, 968, 969]),
  (12, 177, 0, mX11_image, 0, false, [1998, 2001, 134, 1999, 2000]),
  (12, 178, 0, mX10_back, 0, false, [971, 974, 123, 972, 973]),
  (12, 181, 0, mX11_back, 0, false, [2002, 2005, 134, 2003, 2004]),
  (12, 182, 0, mX10_count, 1, false, [857, 860, 123, 858, 859]),
  (12, 185, 0, mX11_count, 1, false, [2006, 2009, 134, 2007, 2008]),
  (14, 308, 2, mJ6_numberOfLeadingZeros_0f7a4, 1, false, [1704, 1706, 142, 1705, 0])]
noncomputable def lkMt : List (Nat × Nat × Nat × jMe × Nat × Bool × List Nat) := lkMt0 ++ (lkMt1 ++ (lkMt2 ++ (lkMt3 ++ (lkMt4 ++ (lkMt5 ++ (lkMt6 ++ (lkMt7 ++ (lkMt8 ++ (lkMt9)))))))))
noncomputable def lkF (o i : Nat) : Option (Nat × Nat × Nat) := (lkFt.find? (fun q => q.1 == o && q.2.1 == i)).map (fun q => (q.2.2.1, q.2.2.2.1, q.2.2.2.2.1))
noncomputable def lkS (o i : Nat) : Option Nat := (lkSt.find? (fun q => q.1 == o && q.2.1 == i)).map (fun q => q.2.2.1)
noncomputable def lkK (o i : Nat) : Option Int := (lkKt.find? (fun q => q.1 == o && q.2.1 == i)).map (fun q => q.2.2.1)
noncomputable def lkL (o i : Nat) : Option Int := (lkLt.find? (fun q => q.1 == o && q.2.1 == i)).map (fun q => q.2.2.1)
noncomputable def lkN (o i : Nat) : Option Nat := (lkNt.find? (fun q => q.1 == o && q.2.1 == i)).map (fun q => q.2.2.1)
noncomputable def lkA (o i : Nat) : Option Nat := (lkAt.find? (fun q => q.1 == o && q.2.1 == i)).map (fun q => q.2.2.1)
noncomputable def lkO (o i : Nat) : Bool := (lkOt.find? (fun q => q.1 == o && q.2.1 == i)).isSome
noncomputable def lkX (o i : Nat) : Option Nat := (lkXt.find? (fun q => q.1 == o && q.2.1 == i)).map (fun q => q.2.2)
noncomputable def lkM (o i : Nat) : Option (Nat × jMe × Nat) := (lkMt.find? (fun q => q.1 == o && q.2.1 == i)).map (fun q => (q.2.2.1, q.2.2.2.1, q.2.2.2.2.1))
theorem kF0_9 : lkF 0 9 = some (0, 0, 2) := by rfl
theorem kF0_15 : lkF 0 15 = some (0, 2, 2) := by rfl
theorem kF0_19 : lkF 0 19 = some (0, 3, 2) := by rfl
theorem kF0_23 : lkF 0 23 = some (0, 1, 0) := by rfl
theorem kF1_9 : lkF 1 9 = some (1, 3, 2) := by rfl
theorem kF1_15 : lkF 1 15 = some (1, 4, 2) := by rfl
theorem kF1_20 : lkF 1 20 = some (1, 6, 2) := by rfl
theorem kF1_23 : lkF 1 23 = some (2, 3, 0) := by rfl
theorem kF1_29 : lkF 1 29 = some (1, 0, 0) := by rfl
theorem kF1_30 : lkF 1 30 = some (2, 1, 2) := by rfl
theorem kF1_37 : lkF 1 37 = some (1, 1, 0) := by rfl
theorem kF1_40 : lkF 1 40 = some (1, 2, 0) := by rfl
theorem kF1_43 : lkF 1 43 = some (2, 5, 2) := by rfl
theorem kF1_48 : lkF 1 48 = some (2, 6, 2) := by rfl
theorem kF1_53 : lkF 1 53 = some (7, 0, 2) := by rfl
theorem kF1_58 : lkF 1 58 = some (7, 3, 2) := by rfl
theorem kF1_61 : lkF 1 61 = some (7, 7, 0) := by rfl
theorem kF1_64 : lkF 1 64 = some (7, 9, 0) := by rfl
theorem kF1_71 : lkF 1 71 = some (7, 1, 2) := by rfl
theorem kF1_74 : lkF 1 74 = some (7, 2, 2) := by rfl
theorem kF1_81 : lkF 1 81 = some (7, 4, 2) := by rfl
theorem kF1_88 : lkF 1 88 = some (1, 5, 2) := by rfl
theorem kF2_11 : lkF 2 11 = some (2, 0, 2) := by rfl
theorem kF2_15 : lkF 2 15 = some (2, 1, 2) := by rfl
theorem kF2_18 : lkF 2 18 = some (2, 4, 2) := by rfl
theorem kF2_21 : lkF 2 21 = some (2, 5, 2) := by rfl
theorem kF2_24 : lkF 2 24 = some (2, 6, 2) := by rfl
theorem kF2_27 : lkF 2 27 = some (2, 8, 2) := by rfl
theorem kF2_30 : lkF 2 30 = some (2, 9, 2) := by rfl
theorem kF2_33 : lkF 2 33 = some (2, 10, 2) := by rfl
theorem kF2_36 : lkF 2 36 = some (2, 11, 2) := by rfl
theorem kF2_39 : lkF 2 39 = some (2, 3, 0) := by rfl
theorem kF2_43 : lkF 2 43 = some (2, 7, 0) := by rfl
theorem kF2_46 : lkF 2 46 = some (2, 2, 3) := by rfl
theorem kF2_120 : lkF 2 120 = some (8, 2, 0) := by rfl
theorem kF3_9 : lkF 3 9 = some (3, 0, 2) := by rfl
theorem kF3_15 : lkF 3 15 = some (3, 1, 2) := by rfl
theorem kF3_18 : lkF 3 18 = some (3, 3, 2) := by rfl
theorem kF3_21 : lkF 3 21 = some (3, 4, 2) := by rfl
theorem kF3_24 : lkF 3 24 = some (3, 5, 2) := by rfl
theorem kF3_27 : lkF 3 27 = some (3, 7, 2) := by rfl
theorem kF3_30 : lkF 3 30 = some (3, 2, 0) := by rfl
theorem kF3_34 : lkF 3 34 = some (3, 6, 0) := by rfl
theorem kF4_12 : lkF 4 12 = some (4, 0, 2) := by rfl
theorem kF5_11 : lkF 5 11 = some (5, 0, 2) := by rfl
theorem kF5_18 : lkF 5 18 = some (5, 2, 0) := by rfl
theorem kF5_22 : lkF 5 22 = some (5, 1, 0) := by rfl
theorem kF6_11 : lkF 6 11 = some (6, 0, 2) := by rfl
theorem kF6_15 : lkF 6 15 = some (6, 1, 2) := by rfl
theorem kF6_18 : lkF 6 18 = some (6, 2, 2) := by rfl
theorem kF6_21 : lkF 6 21 = some (6, 3, 2) := by rfl
theorem kF6_27 : lkF 6 27 = some (6, 6, 2) := by rfl
theorem kF6_31 : lkF 6 31 = some (6, 7, 2) := by rfl
theorem kF6_34 : lkF 6 34 = some (6, 8, 2) := by rfl
theorem kF6_38 : lkF 6 38 = some (6, 9, 2) := by rfl
theorem kF6_41 : lkF 6 41 = some (6, 10, 2) := by rfl
theorem kF6_44 : lkF 6 44 = some (6, 12, 2) := by rfl
theorem kF6_47 : lkF 6 47 = some (6, 4, 0) := by rfl
theorem kF6_51 : lkF 6 51 = some (6, 5, 3) := by rfl
theorem kF6_63 : lkF 6 63 = some (6, 11, 0) := by rfl
theorem kF6_66 : lkF 6 66 = some (1, 0, 0) := by rfl
theorem kF6_79 : lkF 6 79 = some (7, 7, 0) := by rfl
theorem kF6_97 : lkF 6 97 = some (7, 4, 2) := by rfl
theorem kF6_144 : lkF 6 144 = some (7, 5, 2) := by rfl
theorem kF6_151 : lkF 6 151 = some (7, 0, 2) := by rfl
theorem kF7_9 : lkF 7 9 = some (7, 0, 2) := by rfl
theorem kF7_15 : lkF 7 15 = some (7, 1, 2) := by rfl
theorem kF7_18 : lkF 7 18 = some (7, 2, 2) := by rfl
theorem kF7_21 : lkF 7 21 = some (7, 3, 2) := by rfl
theorem kF7_24 : lkF 7 24 = some (7, 4, 2) := by rfl
theorem kF7_27 : lkF 7 27 = some (7, 5, 2) := by rfl
theorem kF7_30 : lkF 7 30 = some (7, 6, 2) := by rfl
theorem kF7_37 : lkF 7 37 = some (2, 7, 0) := by rfl
theorem kF7_47 : lkF 7 47 = some (2, 8, 2) := by rfl
theorem kF7_54 : lkF 7 54 = some (2, 9, 2) := by rfl
theorem kF7_55 : lkF 7 55 = some (2, 10, 2) := by rfl
theorem kF7_56 : lkF 7 56 = some (2, 11, 2) := by rfl
theorem kF7_61 : lkF 7 61 = some (2, 4, 2) := by rfl
theorem kF7_66 : lkF 7 66 = some (2, 1, 2) := by rfl
theorem kF7_69 : lkF 7 69 = some (7, 7, 0) := by rfl
theorem kF7_72 : lkF 7 72 = some (7, 8, 0) := by rfl
theorem kF7_75 : lkF 7 75 = some (7, 9, 0) := by rfl
theorem kF8_9 : lkF 8 9 = some (8, 0, 2) := by rfl
theorem kF8_15 : lkF 8 15 = some (8, 3, 0) := by rfl
theorem kF8_19 : lkF 8 19 = some (8, 1, 0) := by rfl
theorem kF8_26 : lkF 8 26 = some (8, 2, 0) := by rfl
theorem kF9_11 : lkF 9 11 = some (9, 0, 2) := by rfl
theorem kF10_10 : lkF 10 10 = some (10, 0, 2) := by rfl
theorem kF10_19 : lkF 10 19 = some (10, 1, 2) := by rfl
theorem kF10_26 : lkF 10 26 = some (10, 2, 2) := by rfl
theorem kF10_32 : lkF 10 32 = some (10, 3, 2) := by rfl
theorem kF10_36 : lkF 10 36 = some (10, 5, 0) := by rfl
theorem kF10_40 : lkF 10 40 = some (10, 6, 0) := by rfl
theorem kF10_43 : lkF 10 43 = some (10, 7, 2) := by rfl
theorem kF10_50 : lkF 10 50 = some (10, 9, 2) := by rfl
theorem kF10_57 : lkF 10 57 = some (10, 10, 2) := by rfl
theorem kF10_61 : lkF 10 61 = some (10, 11, 2) := by rfl
theorem kF10_64 : lkF 10 64 = some (10, 12, 2) := by rfl
theorem kF10_67 : lkF 10 67 = some (10, 13, 2) := by rfl
theorem kF10_73 : lkF 10 73 = some (10, 15, 2) := by rfl
theorem kF10_80 : lkF 10 80 = some (10, 16, 2) := by rfl
theorem kF10_87 : lkF 10 87 = some (10, 17, 2) := by rfl
theorem kF10_94 : lkF 10 94 = some (10, 18, 2) := by rfl
theorem kF10_98 : lkF 10 98 = some (10, 19, 2) := by rfl
theorem kF10_105 : lkF 10 105 = some (8, 1, 0) := by rfl
theorem kF10_116 : lkF 10 116 = some (8, 3, 0) := by rfl
theorem kF10_124 : lkF 10 124 = some (10, 4, 0) := by rfl
theorem kF10_142 : lkF 10 142 = some (10, 14, 3) := by rfl
theorem kF10_146 : lkF 10 146 = some (1, 0, 0) := by rfl
theorem kF10_150 : lkF 10 150 = some (4, 0, 2) := by rfl
theorem kF10_158 : lkF 10 158 = some (1, 5, 2) := by rfl
theorem kF10_161 : lkF 10 161 = some (6, 5, 3) := by rfl
theorem kF10_168 : lkF 10 168 = some (7, 7, 0) := by rfl
theorem kF10_171 : lkF 10 171 = some (1, 1, 0) := by rfl
theorem kF10_174 : lkF 10 174 = some (1, 2, 0) := by rfl
theorem kF10_176 : lkF 10 176 = some (7, 8, 0) := by rfl
theorem kF10_190 : lkF 10 190 = some (7, 5, 2) := by rfl
theorem kF10_197 : lkF 10 197 = some (1, 3, 2) := by rfl
theorem kF10_200 : lkF 10 200 = some (1, 4, 2) := by rfl
theorem kF10_223 : lkF 10 223 = some (7, 0, 2) := by rfl
theorem kF10_226 : lkF 10 226 = some (7, 1, 2) := by rfl
theorem kF10_229 : lkF 10 229 = some (7, 2, 2) := by rfl
theorem kF10_232 : lkF 10 232 = some (7, 3, 2) := by rfl
theorem kF10_235 : lkF 10 235 = some (7, 4, 2) := by rfl
theorem kF10_252 : lkF 10 252 = some (7, 9, 0) := by rfl
theorem kF10_255 : lkF 10 255 = some (6, 4, 0) := by rfl
theorem kF10_258 : lkF 10 258 = some (5, 2, 0) := by rfl
theorem kF10_282 : lkF 10 282 = some (10, 8, 1) := by rfl
theorem kF10_400 : lkF 10 400 = some (6, 11, 0) := by rfl
theorem kF10_403 : lkF 10 403 = some (6, 10, 2) := by rfl
theorem kF11_9 : lkF 11 9 = some (11, 1, 2) := by rfl
theorem kF11_13 : lkF 11 13 = some (11, 6, 2) := by rfl
theorem kF11_16 : lkF 11 16 = some (11, 7, 2) := by rfl
theorem kF11_19 : lkF 11 19 = some (11, 8, 2) := by rfl
theorem kF11_22 : lkF 11 22 = some (11, 9, 2) := by rfl
theorem kF11_25 : lkF 11 25 = some (11, 10, 2) := by rfl
theorem kF11_28 : lkF 11 28 = some (11, 11, 2) := by rfl
theorem kF11_31 : lkF 11 31 = some (11, 12, 2) := by rfl
theorem kF11_34 : lkF 11 34 = some (11, 15, 2) := by rfl
theorem kF11_37 : lkF 11 37 = some (11, 16, 2) := by rfl
theorem kF11_40 : lkF 11 40 = some (11, 17, 2) := by rfl
theorem kF11_43 : lkF 11 43 = some (11, 18, 2) := by rfl
theorem kF11_46 : lkF 11 46 = some (11, 19, 2) := by rfl
theorem kF11_49 : lkF 11 49 = some (11, 22, 2) := by rfl
theorem kF11_52 : lkF 11 52 = some (11, 23, 2) := by rfl
theorem kF11_55 : lkF 11 55 = some (11, 24, 2) := by rfl
theorem kF11_58 : lkF 11 58 = some (11, 27, 2) := by rfl
theorem kF11_61 : lkF 11 61 = some (11, 28, 2) := by rfl
theorem kF11_64 : lkF 11 64 = some (11, 29, 2) := by rfl
theorem kF11_67 : lkF 11 67 = some (11, 30, 0) := by rfl
theorem kF11_71 : lkF 11 71 = some (11, 31, 0) := by rfl
theorem kF11_74 : lkF 11 74 = some (11, 32, 2) := by rfl
theorem kF11_77 : lkF 11 77 = some (11, 35, 2) := by rfl
theorem kF11_80 : lkF 11 80 = some (11, 36, 2) := by rfl
theorem kF11_84 : lkF 11 84 = some (11, 37, 2) := by rfl
theorem kF11_87 : lkF 11 87 = some (11, 38, 2) := by rfl
theorem kF11_90 : lkF 11 90 = some (11, 39, 2) := by rfl
theorem kF11_93 : lkF 11 93 = some (11, 40, 2) := by rfl
theorem kF11_96 : lkF 11 96 = some (11, 41, 2) := by rfl
theorem kF11_100 : lkF 11 100 = some (11, 43, 2) := by rfl
theorem kF11_103 : lkF 11 103 = some (11, 44, 2) := by rfl
theorem kF11_106 : lkF 11 106 = some (11, 45, 2) := by rfl
theorem kF11_109 : lkF 11 109 = some (11, 0, 0) := by rfl
theorem kF11_116 : lkF 11 116 = some (11, 2, 0) := by rfl
theorem kF11_119 : lkF 11 119 = some (11, 3, 0) := by rfl
theorem kF11_126 : lkF 11 126 = some (11, 4, 0) := by rfl
theorem kF11_129 : lkF 11 129 = some (11, 14, 0) := by rfl
theorem kF11_132 : lkF 11 132 = some (11, 5, 0) := by rfl
theorem kF11_248 : lkF 11 248 = some (11, 20, 0) := by rfl
theorem kF11_251 : lkF 11 251 = some (11, 21, 0) := by rfl
theorem kF11_281 : lkF 11 281 = some (11, 26, 0) := by rfl
theorem kF11_287 : lkF 11 287 = some (11, 25, 0) := by rfl
theorem kF11_293 : lkF 11 293 = some (11, 42, 0) := by rfl
theorem kF11_296 : lkF 11 296 = some (11, 33, 0) := by rfl
theorem kF11_299 : lkF 11 299 = some (11, 46, 3) := by rfl
theorem kF11_306 : lkF 11 306 = some (11, 13, 0) := by rfl
theorem kF11_390 : lkF 11 390 = some (11, 34, 1) := by rfl
theorem kS2_96 : lkS 2 96 = some 4 := by rfl
theorem kS2_114 : lkS 2 114 = some 2 := by rfl
theorem kS2_117 : lkS 2 117 = some 3 := by rfl
theorem kS2_126 : lkS 2 126 = some 1 := by rfl
theorem kL0_48 : lkL 0 48 = some (1000000) := by rfl
theorem kK1_92 : lkK 1 92 = some (100000) := by rfl
theorem kK1_97 : lkK 1 97 = some (1000000) := by rfl
theorem kL1_110 : lkL 1 110 = some (1000000) := by rfl
theorem kK3_57 : lkK 3 57 = some (-1000000) := by rfl
theorem kK3_58 : lkK 3 58 = some (1000000) := by rfl
theorem kL6_135 : lkL 6 135 = some (1000) := by rfl
theorem kL7_90 : lkL 7 90 = some (1000) := by rfl
theorem kL7_100 : lkL 7 100 = some (10000) := by rfl
theorem kL9_26 : lkL 9 26 = some (1000000000) := by rfl
theorem kL9_41 : lkL 9 41 = some (100) := by rfl
theorem kK10_261 : lkK 10 261 = some (-1000000) := by rfl
theorem kL10_310 : lkL 10 310 = some (6364136223846793005) := by rfl
theorem kL10_312 : lkL 10 312 = some (1442695040888963407) := by rfl
theorem kK10_432 : lkK 10 432 = some (2147483647) := by rfl
theorem kL10_437 : lkL 10 437 = some (16777216) := by rfl
theorem kL10_439 : lkL 10 439 = some (8388607) := by rfl
theorem kL11_199 : lkL 11 199 = some (-1000000) := by rfl
theorem kL11_201 : lkL 11 201 = some (1000000) := by rfl
theorem kL11_320 : lkL 11 320 = some (100000) := by rfl
theorem kL11_329 : lkL 11 329 = some (1000) := by rfl
theorem kL11_338 : lkL 11 338 = some (2147483647) := by rfl
theorem kL11_344 : lkL 11 344 = some (10000) := by rfl
theorem kL11_394 : lkL 11 394 = some (6364136223846793005) := by rfl
theorem kL11_396 : lkL 11 396 = some (1442695040888963407) := by rfl
theorem kK11_424 : lkK 11 424 = some (1000000) := by rfl
theorem kK11_449 : lkK 11 449 = some (-1000000) := by rfl
theorem kL11_458 : lkL 11 458 = some (100) := by rfl
theorem kK11_467 : lkK 11 467 = some (1000000000) := by rfl
theorem kL12_94 : lkL 12 94 = some (4294967295) := by rfl
theorem kK13_264 : lkK 13 264 = some (65536) := by rfl
theorem kK13_265 : lkK 13 265 = some (1431655765) := by rfl
theorem kK13_266 : lkK 13 266 = some (858993459) := by rfl
theorem kK13_267 : lkK 13 267 = some (252645135) := by rfl
theorem kN4_9 : lkN 4 9 = some 3 := by rfl
theorem kN5_9 : lkN 5 9 = some 7 := by rfl
theorem kN6_24 : lkN 6 24 = some 7 := by rfl
theorem kN9_9 : lkN 9 9 = some 7 := by rfl
theorem kN10_7 : lkN 10 7 = some 8 := by rfl
theorem kN10_16 : lkN 10 16 = some 2 := by rfl
theorem kN10_23 : lkN 10 23 = some 4 := by rfl
theorem kN10_30 : lkN 10 30 = some 3 := by rfl
theorem kN10_47 : lkN 10 47 = some 1 := by rfl
theorem kN10_54 : lkN 10 54 = some 7 := by rfl
theorem kN10_70 : lkN 10 70 = some 5 := by rfl
theorem kN10_77 : lkN 10 77 = some 6 := by rfl
theorem kN10_84 : lkN 10 84 = some 0 := by rfl
theorem kN10_91 : lkN 10 91 = some 9 := by rfl
theorem kN12_8 : lkN 12 8 = some 10 := by rfl
theorem kN12_16 : lkN 12 16 = some 11 := by rfl
theorem kA5_9 : lkA 5 9 = some 23 := by rfl
theorem kA9_9 : lkA 9 9 = some 23 := by rfl
theorem kA10_30 : lkA 10 30 = some 24 := by rfl
theorem kO0_3 : lkO 0 3 = true := by rfl
theorem kO1_3 : lkO 1 3 = true := by rfl
theorem kO2_3 : lkO 2 3 = true := by rfl
theorem kO3_3 : lkO 3 3 = true := by rfl
theorem kO4_3 : lkO 4 3 = true := by rfl
theorem kO5_3 : lkO 5 3 = true := by rfl
theorem kO6_5 : lkO 6 5 = true := by rfl
theorem kO7_3 : lkO 7 3 = true := by rfl
theorem kO8_3 : lkO 8 3 = true := by rfl
theorem kO9_3 : lkO 9 3 = true := by rfl
theorem kO10_1 : lkO 10 1 = true := by rfl
theorem kO11_3 : lkO 11 3 = true := by rfl
theorem kX11_203 : lkX 11 203 = some 3 := by rfl
theorem kX11_209 : lkX 11 209 = some 1 := by rfl
theorem kX11_352 : lkX 11 352 = some 2 := by rfl
theorem kX11_443 : lkX 11 443 = some 0 := by rfl
theorem kXn0_33 : lkX 0 33 = none := by rfl
theorem kXn0_37 : lkX 0 37 = none := by rfl
theorem kXn0_41 : lkX 0 41 = none := by rfl
theorem kXn0_50 : lkX 0 50 = none := by rfl
theorem kXn0_60 : lkX 0 60 = none := by rfl
theorem kXn0_67 : lkX 0 67 = none := by rfl
theorem kXn1_33 : lkX 1 33 = none := by rfl
theorem kXn1_44 : lkX 1 44 = none := by rfl
theorem kXn1_49 : lkX 1 49 = none := by rfl
theorem kXn1_84 : lkX 1 84 = none := by rfl
theorem kXn1_98 : lkX 1 98 = none := by rfl
theorem kXn1_102 : lkX 1 102 = none := by rfl
theorem kXn2_54 : lkX 2 54 = none := by rfl
theorem kXn2_99 : lkX 2 99 = none := by rfl
theorem kXn2_103 : lkX 2 103 = none := by rfl
theorem kXn2_129 : lkX 2 129 = none := by rfl
theorem kXn3_37 : lkX 3 37 = none := by rfl
theorem kXn3_41 : lkX 3 41 = none := by rfl
theorem kXn3_45 : lkX 3 45 = none := by rfl
theorem kXn3_53 : lkX 3 53 = none := by rfl
theorem kXn3_59 : lkX 3 59 = none := by rfl
theorem kXn4_49 : lkX 4 49 = none := by rfl
theorem kXn4_85 : lkX 4 85 = none := by rfl
theorem kXn5_25 : lkX 5 25 = none := by rfl
theorem kXn6_55 : lkX 6 55 = none := by rfl
theorem kXn6_100 : lkX 6 100 = none := by rfl
theorem kXn6_108 : lkX 6 108 = none := by rfl
theorem kXn6_123 : lkX 6 123 = none := by rfl
theorem kXn6_137 : lkX 6 137 = none := by rfl
theorem kXn6_140 : lkX 6 140 = none := by rfl
theorem kXn6_147 : lkX 6 147 = none := by rfl
theorem kXn6_158 : lkX 6 158 = none := by rfl
theorem kXn7_33 : lkX 7 33 = none := by rfl
theorem kXn7_50 : lkX 7 50 = none := by rfl
theorem kXn7_62 : lkX 7 62 = none := by rfl
theorem kXn7_82 : lkX 7 82 = none := by rfl
theorem kXn7_92 : lkX 7 92 = none := by rfl
theorem kXn8_22 : lkX 8 22 = none := by rfl
theorem kXn8_29 : lkX 8 29 = none := by rfl
theorem kXn8_44 : lkX 8 44 = none := by rfl
theorem kXn9_18 : lkX 9 18 = none := by rfl
theorem kXn9_28 : lkX 9 28 = none := by rfl
theorem kXn10_101 : lkX 10 101 = none := by rfl
theorem kXn10_193 : lkX 10 193 = none := by rfl
theorem kXn10_210 : lkX 10 210 = none := by rfl
theorem kXn10_214 : lkX 10 214 = none := by rfl
theorem kXn10_217 : lkX 10 217 = none := by rfl
theorem kXn10_220 : lkX 10 220 = none := by rfl
theorem kXn10_238 : lkX 10 238 = none := by rfl
theorem kXn10_278 : lkX 10 278 = none := by rfl
theorem kXn10_340 : lkX 10 340 = none := by rfl
theorem kXn10_433 : lkX 10 433 = none := by rfl
theorem kXn11_112 : lkX 11 112 = none := by rfl
theorem kXn11_141 : lkX 11 141 = none := by rfl
theorem kXn11_152 : lkX 11 152 = none := by rfl
theorem kXn11_172 : lkX 11 172 = none := by rfl
theorem kXn11_212 : lkX 11 212 = none := by rfl
theorem kXn11_216 : lkX 11 216 = none := by rfl
theorem kXn11_224 : lkX 11 224 = none := by rfl
theorem kXn11_228 : lkX 11 228 = none := by rfl
theorem kXn11_232 : lkX 11 232 = none := by rfl
theorem kXn11_235 : lkX 11 235 = none := by rfl
theorem kXn11_239 : lkX 11 239 = none := by rfl
theorem kXn11_242 : lkX 11 242 = none := by rfl
theorem kXn11_254 : lkX 11 254 = none := by rfl
theorem kXn11_312 : lkX 11 312 = none := by rfl
theorem kXn11_317 : lkX 11 317 = none := by rfl
theorem kXn11_325 : lkX 11 325 = none := by rfl
theorem kXn11_366 : lkX 11 366 = none := by rfl
theorem kXn11_416 : lkX 11 416 = none := by rfl
theorem kXn14_308 : lkX 14 308 = none := by rfl
theorem kM0_27 : lkM 0 27 = some (0, mX7_weight, 1) := by rfl
theorem kM0_33 : lkM 0 33 = some (2, mX10_putLong, 3) := by rfl
theorem kM0_37 : lkM 0 37 = some (2, mX10_longAt, 2) := by rfl
theorem kM0_41 : lkM 0 41 = some (2, mX10_rounded, 1) := by rfl
theorem kM0_45 : lkM 0 45 = some (0, mX0_loadOf, 1) := by rfl
theorem kM0_50 : lkM 0 50 = some (2, mJ6_bitCount_0f7a4, 1) := by rfl
theorem kM0_56 : lkM 0 56 = some (0, mX0_bears, 2) := by rfl
theorem kM0_60 : lkM 0 60 = some (2, mX10_put, 3) := by rfl
theorem kM0_64 : lkM 0 64 = some (0, mX0_fewestFor, 1) := by rfl
theorem kM0_67 : lkM 0 67 = some (2, mX10_at, 2) := by rfl
theorem kM1_33 : lkM 1 33 = some (2, mX10_at, 2) := by rfl
theorem kM1_44 : lkM 1 44 = some (2, mX10_copyRow, 2) := by rfl
theorem kM1_49 : lkM 1 49 = some (2, mX10_goesInto, 2) := by rfl
theorem kM1_67 : lkM 1 67 = some (0, mX1_lookUp, 3) := by rfl
theorem kM1_77 : lkM 1 77 = some (0, mX1_massOf, 3) := by rfl
theorem kM1_84 : lkM 1 84 = some (2, mX10_put, 3) := by rfl
theorem kM1_93 : lkM 1 93 = some (0, mX3_worth, 1) := by rfl
theorem kM1_98 : lkM 1 98 = some (2, mX10_within, 3) := by rfl
theorem kM1_102 : lkM 1 102 = some (2, mX10_rounded, 1) := by rfl
theorem kM1_106 : lkM 1 106 = some (0, mX7_weight, 1) := by rfl
theorem kM1_112 : lkM 1 112 = some (0, mX7_floats, 1) := by rfl
theorem kM1_116 : lkM 1 116 = some (0, mX1_sinks, 2) := by rfl
theorem kM1_120 : lkM 1 120 = some (0, mX1_takes, 2) := by rfl
theorem kM1_123 : lkM 1 123 = some (0, mX7_emptyPlace, 1) := by rfl
theorem kM2_50 : lkM 2 50 = some (0, mX2_layOutUntold, 1) := by rfl
theorem kM2_54 : lkM 2 54 = some (2, mX10_copyRow, 2) := by rfl
theorem kM2_58 : lkM 2 58 = some (0, mX8_rewind, 0) := by rfl
theorem kM2_63 : lkM 2 63 = some (0, mX2_readClause, 1) := by rfl
theorem kM2_67 : lkM 2 67 = some (0, mX8_next, 0) := by rfl
theorem kM2_71 : lkM 2 71 = some (0, mX2_holdsTogether, 0) := by rfl
theorem kM2_75 : lkM 2 75 = some (0, mX8_fail, 0) := by rfl
theorem kM2_78 : lkM 2 78 = some (0, mX8_take, 1) := by rfl
theorem kM2_82 : lkM 2 82 = some (0, mX2_sortThatMayBegin, 1) := by rfl
theorem kM2_86 : lkM 2 86 = some (0, mX8_step, 0) := by rfl
theorem kM2_89 : lkM 2 89 = some (0, mX2_readItems, 2) := by rfl
theorem kM2_93 : lkM 2 93 = some (0, mX2_keep, 1) := by rfl
theorem kM2_99 : lkM 2 99 = some (2, mX10_at, 2) := by rfl
theorem kM2_103 : lkM 2 103 = some (2, mX10_put, 3) := by rfl
theorem kM2_107 : lkM 2 107 = some (0, mX2_itemOf, 2) := by rfl
theorem kM2_111 : lkM 2 111 = some (0, mX8_number, 1) := by rfl
theorem kM2_123 : lkM 2 123 = some (0, mX8_failAt, 1) := by rfl
theorem kM2_129 : lkM 2 129 = some (2, mX10_goesInto, 2) := by rfl
theorem kM2_133 : lkM 2 133 = some (0, mX2_toldAhead, 1) := by rfl
theorem kM3_37 : lkM 3 37 = some (2, mX10_put, 3) := by rfl
theorem kM3_41 : lkM 3 41 = some (2, mX10_copyRow, 2) := by rfl
theorem kM3_45 : lkM 3 45 = some (2, mX10_at, 2) := by rfl
theorem kM3_49 : lkM 3 49 = some (0, mX3_reckon, 3) := by rfl
theorem kM3_53 : lkM 3 53 = some (2, mX3_joined, 3) := by rfl
theorem kM3_59 : lkM 3 59 = some (2, mX10_within, 3) := by rfl
theorem kM4_11 : lkM 4 11 = some (1, mX3_init, 0) := by rfl
theorem kM4_18 : lkM 4 18 = some (0, mX3_clear, 0) := by rfl
theorem kM4_21 : lkM 4 21 = some (0, mX8_rewind, 0) := by rfl
theorem kM4_26 : lkM 4 26 = some (0, mX4_readClause, 1) := by rfl
theorem kM4_30 : lkM 4 30 = some (0, mX8_next, 0) := by rfl
theorem kM4_34 : lkM 4 34 = some (0, mX8_take, 1) := by rfl
theorem kM4_38 : lkM 4 38 = some (0, mX8_fail, 0) := by rfl
theorem kM4_42 : lkM 4 42 = some (0, mX3_beginClause, 0) := by rfl
theorem kM4_45 : lkM 4 45 = some (0, mX4_readSum, 2) := by rfl
theorem kM4_49 : lkM 4 49 = some (2, mX4_isComparison, 1) := by rfl
theorem kM4_52 : lkM 4 52 = some (0, mX3_endClause, 0) := by rfl
theorem kM4_55 : lkM 4 55 = some (0, mX4_readCondition, 3) := by rfl
theorem kM4_59 : lkM 4 59 = some (0, mX3_beginSum, 0) := by rfl
theorem kM4_62 : lkM 4 62 = some (0, mX4_readTruth, 3) := by rfl
theorem kM4_65 : lkM 4 65 = some (0, mX3_add, 2) := by rfl
theorem kM4_69 : lkM 4 69 = some (0, mX4_readUnit, 3) := by rfl
theorem kM4_72 : lkM 4 72 = some (0, mX4_readNested, 3) := by rfl
theorem kM4_76 : lkM 4 76 = some (0, mX8_step, 0) := by rfl
theorem kM4_79 : lkM 4 79 = some (0, mX4_readTerm, 2) := by rfl
theorem kM4_82 : lkM 4 82 = some (0, mX4_readAtom, 2) := by rfl
theorem kM4_85 : lkM 4 85 = some (2, mX4_letterOf, 1) := by rfl
theorem kM4_89 : lkM 4 89 = some (0, mX8_number, 1) := by rfl
theorem kM5_17 : lkM 5 17 = some (1, mX7_init, 0) := by rfl
theorem kM5_25 : lkM 5 25 = some (2, mX10_stateAt, 2) := by rfl
theorem kM5_29 : lkM 5 29 = some (0, mX7_copyAll, 1) := by rfl
theorem kM6_26 : lkM 6 26 = some (1, mX7_init, 0) := by rfl
theorem kM6_55 : lkM 6 55 = some (2, mX10_put, 3) := by rfl
theorem kM6_59 : lkM 6 59 = some (0, mX6_weighTold, 2) := by rfl
theorem kM6_71 : lkM 6 71 = some (0, mX7_emptyPlace, 1) := by rfl
theorem kM6_75 : lkM 6 75 = some (0, mX1_takes, 2) := by rfl
theorem kM6_82 : lkM 6 82 = some (0, mX6_weighPossible, 4) := by rfl
theorem kM6_86 : lkM 6 86 = some (0, mX6_collect, 4) := by rfl
theorem kM6_90 : lkM 6 90 = some (0, mX7_copyMinds, 1) := by rfl
theorem kM6_94 : lkM 6 94 = some (0, mX1_weigh, 1) := by rfl
theorem kM6_100 : lkM 6 100 = some (2, mX10_at, 2) := by rfl
theorem kM6_104 : lkM 6 104 = some (0, mX7_weight, 1) := by rfl
theorem kM6_108 : lkM 6 108 = some (2, mX10_putLong, 3) := by rfl
theorem kM6_112 : lkM 6 112 = some (0, mX7_passHour, 0) := by rfl
theorem kM6_115 : lkM 6 115 = some (0, mX1_lookUp, 3) := by rfl
theorem kM6_119 : lkM 6 119 = some (0, mX1_massOf, 3) := by rfl
theorem kM6_123 : lkM 6 123 = some (2, mX6_moreIndex, 4) := by rfl
theorem kM6_127 : lkM 6 127 = some (0, mX6_isAsSeen, 2) := by rfl
theorem kM6_131 : lkM 6 131 = some (0, mX6_weightWith, 4) := by rfl
theorem kM6_137 : lkM 6 137 = some (2, mX6_whomOf, 1) := by rfl
theorem kM6_140 : lkM 6 140 = some (2, mX10_longAt, 2) := by rfl
theorem kM6_147 : lkM 6 147 = some (2, mX10_rounded, 1) := by rfl
theorem kM6_154 : lkM 6 154 = some (0, mX6_mostAlike, 3) := by rfl
theorem kM6_158 : lkM 6 158 = some (2, mX10_heftOf, 1) := by rfl
theorem kM7_33 : lkM 7 33 = some (2, mX10_put, 3) := by rfl
theorem kM7_43 : lkM 7 43 = some (0, mX2_toldAhead, 1) := by rfl
theorem kM7_50 : lkM 7 50 = some (2, mX10_at, 2) := by rfl
theorem kM7_57 : lkM 7 57 = some (0, mX7_lay, 5) := by rfl
theorem kM7_62 : lkM 7 62 = some (2, mX10_copyRow, 2) := by rfl
theorem kM7_78 : lkM 7 78 = some (0, mX7_copyMinds, 1) := by rfl
theorem kM7_82 : lkM 7 82 = some (2, mX10_isPlace, 1) := by rfl
theorem kM7_86 : lkM 7 86 = some (0, mX7_thoughtCount, 0) := by rfl
theorem kM7_92 : lkM 7 92 = some (2, mX10_rounded, 1) := by rfl
theorem kM7_96 : lkM 7 96 = some (0, mX7_weight, 1) := by rfl
theorem kM8_22 : lkM 8 22 = some (2, mX10_put, 3) := by rfl
theorem kM8_29 : lkM 8 29 = some (2, mX10_at, 2) := by rfl
theorem kM8_33 : lkM 8 33 = some (0, mX8_next, 0) := by rfl
theorem kM8_37 : lkM 8 37 = some (0, mX8_step, 0) := by rfl
theorem kM8_40 : lkM 8 40 = some (0, mX8_failAt, 1) := by rfl
theorem kM8_44 : lkM 8 44 = some (2, mX8_isDigit, 1) := by rfl
theorem kM8_47 : lkM 8 47 = some (0, mX8_fail, 0) := by rfl
theorem kM9_17 : lkM 9 17 = some (1, mX7_init, 0) := by rfl
theorem kM9_18 : lkM 9 18 = some (2, mX10_stateAt, 2) := by rfl
theorem kM9_22 : lkM 9 22 = some (0, mX7_copyMinds, 1) := by rfl
theorem kM9_28 : lkM 9 28 = some (2, mX9_floating, 6) := by rfl
theorem kM9_32 : lkM 9 32 = some (0, mX1_weigh, 1) := by rfl
theorem kM9_37 : lkM 9 37 = some (0, mX7_floats, 1) := by rfl
theorem kM9_43 : lkM 9 43 = some (0, mX7_passHour, 0) := by rfl
theorem kM9_46 : lkM 9 46 = some (0, mX7_renewTunesOf, 1) := by rfl
theorem kM10_9 : lkM 10 9 = some (1, mX8_init, 0) := by rfl
theorem kM10_18 : lkM 10 18 = some (1, mX2_init, 0) := by rfl
theorem kM10_25 : lkM 10 25 = some (1, mX4_init, 0) := by rfl
theorem kM10_49 : lkM 10 49 = some (1, mX1_init, 0) := by rfl
theorem kM10_56 : lkM 10 56 = some (1, mX7_init, 0) := by rfl
theorem kM10_72 : lkM 10 72 = some (1, mX5_init, 0) := by rfl
theorem kM10_79 : lkM 10 79 = some (1, mX6_init, 0) := by rfl
theorem kM10_86 : lkM 10 86 = some (1, mX0_init, 0) := by rfl
theorem kM10_93 : lkM 10 93 = some (1, mX9_init, 0) := by rfl
theorem kM10_101 : lkM 10 101 = some (2, mX10_signsOf, 1) := by rfl
theorem kM10_108 : lkM 10 108 = some (0, mX8_append, 1) := by rfl
theorem kM10_112 : lkM 10 112 = some (0, mX2_read, 1) := by rfl
theorem kM10_119 : lkM 10 119 = some (0, mX4_read, 1) := by rfl
theorem kM10_120 : lkM 10 120 = some (0, mX10_settle, 0) := by rfl
theorem kM10_127 : lkM 10 127 = some (0, mX10_enact, 0) := by rfl
theorem kM10_130 : lkM 10 130 = some (0, mX1_settle, 1) := by rfl
theorem kM10_133 : lkM 10 133 = some (0, mX7_settle, 1) := by rfl
theorem kM10_134 : lkM 10 134 = some (0, mX7_copyAll, 1) := by rfl
theorem kM10_138 : lkM 10 138 = some (0, mX5_clear, 0) := by rfl
theorem kM10_141 : lkM 10 141 = some (0, mX6_clear, 0) := by rfl
theorem kM10_149 : lkM 10 149 = some (1, mX3_init, 0) := by rfl
theorem kM10_154 : lkM 10 154 = some (0, mX3_copy, 1) := by rfl
theorem kM10_164 : lkM 10 164 = some (0, mX10_hasIsland, 0) := by rfl
theorem kM10_179 : lkM 10 179 = some (0, mX1_has, 1) := by rfl
theorem kM10_193 : lkM 10 193 = some (2, mX10_at, 2) := by rfl
theorem kM10_203 : lkM 10 203 = some (0, mX1_weigh, 1) := by rfl
theorem kM10_206 : lkM 10 206 = some (0, mX7_weight, 1) := by rfl
theorem kM10_210 : lkM 10 210 = some (2, mX10_asTold, 1) := by rfl
theorem kM10_214 : lkM 10 214 = some (2, mX10_heftOf, 1) := by rfl
theorem kM10_217 : lkM 10 217 = some (2, mX10_grainOf, 1) := by rfl
theorem kM10_220 : lkM 10 220 = some (2, mX10_isPlace, 1) := by rfl
theorem kM10_238 : lkM 10 238 = some (2, mX10_isKind, 1) := by rfl
theorem kM10_241 : lkM 10 241 = some (0, mX1_takes, 2) := by rfl
theorem kM10_245 : lkM 10 245 = some (0, mX7_logLength, 0) := by rfl
theorem kM10_248 : lkM 10 248 = some (0, mX7_logged, 2) := by rfl
theorem kM10_262 : lkM 10 262 = some (0, mX10_refuse, 1) := by rfl
theorem kM10_265 : lkM 10 265 = some (0, mX5_keep, 1) := by rfl
theorem kM10_268 : lkM 10 268 = some (0, mX10_letAnHourPass, 0) := by rfl
theorem kM10_271 : lkM 10 271 = some (0, mX7_emptyPlace, 1) := by rfl
theorem kM10_274 : lkM 10 274 = some (0, mX7_lay, 5) := by rfl
theorem kM10_278 : lkM 10 278 = some (2, mX10_put, 3) := by rfl
theorem kM10_286 : lkM 10 286 = some (0, mX10_drawWhatIsAhead, 0) := by rfl
theorem kM10_289 : lkM 10 289 = some (0, mX5_takeBack, 1) := by rfl
theorem kM10_293 : lkM 10 293 = some (0, mX7_passHour, 0) := by rfl
theorem kM10_296 : lkM 10 296 = some (0, mX1_floating, 1) := by rfl
theorem kM10_300 : lkM 10 300 = some (0, mX1_sinking, 1) := by rfl
theorem kM10_303 : lkM 10 303 = some (0, mX7_note, 2) := by rfl
theorem kM10_307 : lkM 10 307 = some (0, mX10_draw, 1) := by rfl
theorem kM10_314 : lkM 10 314 = some (0, mX7_copyMinds, 1) := by rfl
theorem kM10_317 : lkM 10 317 = some (0, mX7_floats, 1) := by rfl
theorem kM10_320 : lkM 10 320 = some (0, mX10_allStandAtTheBridge, 0) := by rfl
theorem kM10_323 : lkM 10 323 = some (0, mX0_loadOf, 1) := by rfl
theorem kM10_326 : lkM 10 326 = some (0, mX0_mostAtOnce, 1) := by rfl
theorem kM10_329 : lkM 10 329 = some (0, mX0_fewestGoings, 1) := by rfl
theorem kM10_332 : lkM 10 332 = some (0, mX0_stand, 2) := by rfl
theorem kM10_336 : lkM 10 336 = some (0, mX1_ableToThinkPolitely, 2) := by rfl
theorem kM10_340 : lkM 10 340 = some (2, mJ6_bitCount_0f7a4, 1) := by rfl
theorem kM10_345 : lkM 10 345 = some (0, mX10_isHeldBy, 3) := by rfl
theorem kM10_349 : lkM 10 349 = some (0, mX7_heaviestThoughtOf, 1) := by rfl
theorem kM10_352 : lkM 10 352 = some (0, mX1_sinks, 2) := by rfl
theorem kM10_356 : lkM 10 356 = some (0, mX9_partsThatFloat, 5) := by rfl
theorem kM10_360 : lkM 10 360 = some (0, mX10_heaviest, 0) := by rfl
theorem kM10_363 : lkM 10 363 = some (0, mX10_lightest, 0) := by rfl
theorem kM10_366 : lkM 10 366 = some (0, mX10_deepest, 0) := by rfl
theorem kM10_369 : lkM 10 369 = some (0, mX10_mostThoughtOf, 0) := by rfl
theorem kM10_372 : lkM 10 372 = some (0, mX10_nobodys, 0) := by rfl
theorem kM10_375 : lkM 10 375 = some (0, mX7_thoughtCount, 0) := by rfl
theorem kM10_378 : lkM 10 378 = some (0, mX10_fullMinds, 0) := by rfl
theorem kM10_381 : lkM 10 381 = some (0, mX7_oldestAge, 0) := by rfl
theorem kM10_384 : lkM 10 384 = some (0, mX10_pairs, 0) := by rfl
theorem kM10_387 : lkM 10 387 = some (0, mX7_thoughtsOf, 1) := by rfl
theorem kM10_390 : lkM 10 390 = some (0, mX7_thinksOf, 2) := by rfl
theorem kM10_393 : lkM 10 393 = some (0, mX6_note, 4) := by rfl
theorem kM10_396 : lkM 10 396 = some (0, mX6_solve, 2) := by rfl
theorem kM10_406 : lkM 10 406 = some (0, mX6_bestHoursToAsk, 2) := by rfl
theorem kM10_409 : lkM 10 409 = some (0, mX10_areTwo, 2) := by rfl
theorem kM10_412 : lkM 10 412 = some (0, mX10_play, 4) := by rfl
theorem kM10_416 : lkM 10 416 = some (0, mX10_gainOf, 2) := by rfl
theorem kM10_419 : lkM 10 419 = some (0, mX10_countOrFind, 1) := by rfl
theorem kM10_422 : lkM 10 422 = some (0, mX10_isRest, 2) := by rfl
theorem kM10_425 : lkM 10 425 = some (0, mX10_move, 3) := by rfl
theorem kM10_429 : lkM 10 429 = some (0, mX7_giveUpAll, 2) := by rfl
theorem kM10_433 : lkM 10 433 = some (2, mX10_within, 3) := by rfl
theorem kM11_112 : lkM 11 112 = some (2, mX11_byteOf, 6) := by rfl
theorem kM11_122 : lkM 11 122 = some (0, mX11_here, 0) := by rfl
theorem kM11_135 : lkM 11 135 = some (0, mX11_bad, 0) := by rfl
theorem kM11_138 : lkM 11 138 = some (0, mX11_look, 0) := by rfl
theorem kM11_141 : lkM 11 141 = some (2, mX11_isDigit, 1) := by rfl
theorem kM11_145 : lkM 11 145 = some (0, mX11_plainNumber, 0) := by rfl
theorem kM11_148 : lkM 11 148 = some (0, mX11_put, 2) := by rfl
theorem kM11_152 : lkM 11 152 = some (2, mX11_letterOf, 1) := by rfl
theorem kM11_156 : lkM 11 156 = some (0, mX11_opens, 0) := by rfl
theorem kM11_159 : lkM 11 159 = some (0, mX11_sum, 0) := by rfl
theorem kM11_162 : lkM 11 162 = some (0, mX11_closes, 1) := by rfl
theorem kM11_166 : lkM 11 166 = some (0, mX11_atom, 0) := by rfl
theorem kM11_169 : lkM 11 169 = some (0, mX11_term, 0) := by rfl
theorem kM11_172 : lkM 11 172 = some (2, mX11_isSign, 1) := by rfl
theorem kM11_175 : lkM 11 175 = some (0, mX11_unit, 0) := by rfl
theorem kM11_178 : lkM 11 178 = some (0, mX11_condition, 0) := by rfl
theorem kM11_181 : lkM 11 181 = some (0, mX11_compare, 0) := by rfl
theorem kM11_184 : lkM 11 184 = some (0, mX11_goOnAnd, 0) := by rfl
theorem kM11_187 : lkM 11 187 = some (0, mX11_goOnOr, 0) := by rfl
theorem kM11_190 : lkM 11 190 = some (0, mX11_open, 1) := by rfl
theorem kM11_193 : lkM 11 193 = some (0, mX11_clause, 0) := by rfl
theorem kM11_196 : lkM 11 196 = some (0, mX11_atEnd, 0) := by rfl
theorem kM11_212 : lkM 11 212 = some (2, mX11_bounded, 1) := by rfl
theorem kM11_216 : lkM 11 216 = some (2, mX11_worked, 3) := by rfl
theorem kM11_220 : lkM 11 220 = some (0, mX11_workOut, 3) := by rfl
theorem kM11_224 : lkM 11 224 = some (2, mX11_in, 3) := by rfl
theorem kM11_228 : lkM 11 228 = some (2, mX11_usual, 2) := by rfl
theorem kM11_232 : lkM 11 232 = some (2, mX11_itemOf, 2) := by rfl
theorem kM11_235 : lkM 11 235 = some (2, mX11_has, 2) := by rfl
theorem kM11_239 : lkM 11 239 = some (2, mX11_lowest, 2) := by rfl
theorem kM11_242 : lkM 11 242 = some (2, mX11_highest, 2) := by rfl
theorem kM11_245 : lkM 11 245 = some (0, mX11_number, 2) := by rfl
theorem kM11_254 : lkM 11 254 = some (2, mX11_goesInto, 2) := by rfl
theorem kM11_257 : lkM 11 257 = some (0, mX11_items, 4) := by rfl
theorem kM11_261 : lkM 11 261 = some (0, mX11_isWhole, 0) := by rfl
theorem kM11_265 : lkM 11 265 = some (0, mX11_readIsland, 0) := by rfl
theorem kM11_268 : lkM 11 268 = some (0, mX11_readLaw, 1) := by rfl
theorem kM11_271 : lkM 11 271 = some (0, mX11_of, 3) := by rfl
theorem kM11_274 : lkM 11 274 = some (0, mX11_emptyIn, 1) := by rfl
theorem kM11_277 : lkM 11 277 = some (0, mX11_set, 4) := by rfl
theorem kM11_284 : lkM 11 284 = some (0, mX11_putThought, 4) := by rfl
theorem kM11_290 : lkM 11 290 = some (0, mX11_layTold, 0) := by rfl
theorem kM11_303 : lkM 11 303 = some (0, mX11_takeIsland, 0) := by rfl
theorem kM11_309 : lkM 11 309 = some (0, mX11_isPerson, 1) := by rfl
theorem kM11_312 : lkM 11 312 = some (2, mJ13_numberOfLeadingZeros_95d88, 1) := by rfl
theorem kM11_317 : lkM 11 317 = some (2, mX11_lengthOf, 1) := by rfl
theorem kM11_322 : lkM 11 322 = some (0, mX11_worthOf, 1) := by rfl
theorem kM11_325 : lkM 11 325 = some (2, mX11_rounded, 1) := by rfl
theorem kM11_331 : lkM 11 331 = some (0, mX11_isOf, 3) := by rfl
theorem kM11_334 : lkM 11 334 = some (0, mX11_massOf, 2) := by rfl
theorem kM11_340 : lkM 11 340 = some (0, mX11_weightOf, 1) := by rfl
theorem kM11_346 : lkM 11 346 = some (0, mX11_doesFloat, 1) := by rfl
theorem kM11_349 : lkM 11 349 = some (0, mX11_doesSink, 1) := by rfl
theorem kM11_354 : lkM 11 354 = some (0, mX11_live, 0) := by rfl
theorem kM11_357 : lkM 11 357 = some (0, mX11_floating, 0) := by rfl
theorem kM11_360 : lkM 11 360 = some (0, mX11_sinking, 0) := by rfl
theorem kM11_363 : lkM 11 363 = some (0, mX11_thoughtMany, 0) := by rfl
theorem kM11_366 : lkM 11 366 = some (2, mX11_asTold, 1) := by rfl
theorem kM11_369 : lkM 11 369 = some (0, mX11_heftOf, 1) := by rfl
theorem kM11_372 : lkM 11 372 = some (0, mX11_grainOf, 1) := by rfl
theorem kM11_375 : lkM 11 375 = some (0, mX11_goesTo, 2) := by rfl
theorem kM11_378 : lkM 11 378 = some (0, mX11_areHours, 1) := by rfl
theorem kM11_381 : lkM 11 381 = some (0, mX11_isRefused, 1) := by rfl
theorem kM11_384 : lkM 11 384 = some (0, mX11_keep, 0) := by rfl
theorem kM11_387 : lkM 11 387 = some (0, mX11_passHour, 0) := by rfl
theorem kM11_398 : lkM 11 398 = some (0, mX11_draw, 1) := by rfl
theorem kM11_401 : lkM 11 401 = some (0, mX11_drawHour, 0) := by rfl
theorem kM11_404 : lkM 11 404 = some (0, mX11_putAside, 1) := by rfl
theorem kM11_407 : lkM 11 407 = some (0, mX11_takeBack, 1) := by rfl
theorem kM11_410 : lkM 11 410 = some (0, mX11_loadOf, 1) := by rfl
theorem kM11_413 : lkM 11 413 = some (0, mX11_layWeights, 0) := by rfl
theorem kM11_416 : lkM 11 416 = some (2, mJ6_bitCount_0f7a4, 1) := by rfl
theorem kM11_421 : lkM 11 421 = some (0, mX11_doesBear, 1) := by rfl
theorem kM11_425 : lkM 11 425 = some (0, mX11_isHeldBy, 2) := by rfl
theorem kM11_428 : lkM 11 428 = some (0, mX11_easeOnce, 1) := by rfl
theorem kM11_431 : lkM 11 431 = some (0, mX11_areTwo, 2) := by rfl
theorem kM11_434 : lkM 11 434 = some (0, mX11_isCode, 1) := by rfl
theorem kM11_437 : lkM 11 437 = some (0, mX11_layTrail, 1) := by rfl
theorem kM11_440 : lkM 11 440 = some (0, mX11_isFit, 1) := by rfl
theorem kM11_445 : lkM 11 445 = some (0, mX11_choose, 3) := by rfl
theorem kM11_450 : lkM 11 450 = some (0, mX11_gameOf, 4) := by rfl
theorem kM11_454 : lkM 11 454 = some (0, mX11_isRest, 4) := by rfl
theorem kM11_460 : lkM 11 460 = some (0, mX11_tuneUp, 1) := by rfl
theorem kM11_463 : lkM 11 463 = some (0, mX11_oddsFrom, 5) := by rfl
theorem kM11_468 : lkM 11 468 = some (0, mX11_ofMany, 1) := by rfl
theorem kM11_471 : lkM 11 471 = some (0, mX11_valueOf, 2) := by rfl
theorem kM11_474 : lkM 11 474 = some (0, mX11_thinksOf, 2) := by rfl
theorem kM11_477 : lkM 11 477 = some (0, mX11_nobodys, 0) := by rfl
theorem kM11_480 : lkM 11 480 = some (0, mX11_fullOnes, 0) := by rfl
theorem kM11_483 : lkM 11 483 = some (0, mX11_oldest, 0) := by rfl
theorem kM11_486 : lkM 11 486 = some (0, mX11_pairMany, 0) := by rfl
theorem kM11_489 : lkM 11 489 = some (0, mX11_topBy, 1) := by rfl
theorem kM12_7 : lkM 12 7 = some (0, mX10_person, 2) := by rfl
theorem kM12_15 : lkM 12 15 = some (1, mX10_init, 0) := by rfl
theorem kM12_18 : lkM 12 18 = some (1, mX11_init, 0) := by rfl
theorem kM12_19 : lkM 12 19 = some (0, mX10_feed, 5) := by rfl
theorem kM12_23 : lkM 12 23 = some (0, mX11_feed, 5) := by rfl
theorem kM12_24 : lkM 12 24 = some (0, mX10_end, 1) := by rfl
theorem kM12_28 : lkM 12 28 = some (0, mX11_end, 1) := by rfl
theorem kM12_29 : lkM 12 29 = some (0, mX10_fault, 1) := by rfl
theorem kM12_33 : lkM 12 33 = some (0, mX11_fault, 1) := by rfl
theorem kM12_34 : lkM 12 34 = some (0, mX10_text, 1) := by rfl
theorem kM12_37 : lkM 12 37 = some (0, mX11_text, 1) := by rfl
theorem kM12_38 : lkM 12 38 = some (0, mX10_rule, 1) := by rfl
theorem kM12_41 : lkM 12 41 = some (0, mX11_rule, 1) := by rfl
theorem kM12_47 : lkM 12 47 = some (0, mX11_person, 2) := by rfl
theorem kM12_48 : lkM 12 48 = some (0, mX11_thrown, 0) := by rfl
theorem kM12_52 : lkM 12 52 = some (0, mX10_thought, 3) := by rfl
theorem kM12_56 : lkM 12 56 = some (0, mX11_thought, 3) := by rfl
theorem kM12_57 : lkM 12 57 = some (0, mX10_goes, 2) := by rfl
theorem kM12_60 : lkM 12 60 = some (0, mX11_goes, 2) := by rfl
theorem kM12_61 : lkM 12 61 = some (0, mX10_law, 1) := by rfl
theorem kM12_64 : lkM 12 64 = some (0, mX11_law, 1) := by rfl
theorem kM12_65 : lkM 12 65 = some (0, mX10_memory, 1) := by rfl
theorem kM12_68 : lkM 12 68 = some (0, mX11_memory, 1) := by rfl
theorem kM12_69 : lkM 12 69 = some (0, mX10_hours, 1) := by rfl
theorem kM12_72 : lkM 12 72 = some (0, mX11_hours, 1) := by rfl
theorem kM12_73 : lkM 12 73 = some (0, mX10_think, 4) := by rfl
theorem kM12_77 : lkM 12 77 = some (0, mX11_think, 4) := by rfl
theorem kM12_78 : lkM 12 78 = some (0, mX10_forget, 2) := by rfl
theorem kM12_81 : lkM 12 81 = some (0, mX11_forget, 2) := by rfl
theorem kM12_82 : lkM 12 82 = some (0, mX10_hem, 2) := by rfl
theorem kM12_85 : lkM 12 85 = some (0, mX11_hem, 2) := by rfl
theorem kM12_86 : lkM 12 86 = some (0, mX10_wind, 1) := by rfl
theorem kM12_89 : lkM 12 89 = some (0, mX11_wind, 1) := by rfl
theorem kM12_90 : lkM 12 90 = some (0, mX10_give, 1) := by rfl
theorem kM12_93 : lkM 12 93 = some (0, mX11_give, 1) := by rfl
theorem kM12_96 : lkM 12 96 = some (0, mX10_years, 2) := by rfl
theorem kM12_100 : lkM 12 100 = some (0, mX11_years, 2) := by rfl
theorem kM12_101 : lkM 12 101 = some (0, mX10_status, 1) := by rfl
theorem kM12_104 : lkM 12 104 = some (0, mX11_status, 1) := by rfl
theorem kM12_105 : lkM 12 105 = some (0, mX10_undo, 0) := by rfl
theorem kM12_108 : lkM 12 108 = some (0, mX11_undo, 0) := by rfl
theorem kM12_109 : lkM 12 109 = some (0, mX10_log, 2) := by rfl
theorem kM12_112 : lkM 12 112 = some (0, mX11_log, 2) := by rfl
theorem kM12_113 : lkM 12 113 = some (0, mX10_behind, 2) := by rfl
theorem kM12_116 : lkM 12 116 = some (0, mX11_behind, 2) := by rfl
theorem kM12_117 : lkM 12 117 = some (0, mX10_floatsIn, 1) := by rfl
theorem kM12_120 : lkM 12 120 = some (0, mX11_floatsIn, 1) := by rfl
theorem kM12_121 : lkM 12 121 = some (0, mX10_load, 1) := by rfl
theorem kM12_124 : lkM 12 124 = some (0, mX11_load, 1) := by rfl
theorem kM12_125 : lkM 12 125 = some (0, mX10_together, 0) := by rfl
theorem kM12_128 : lkM 12 128 = some (0, mX11_together, 0) := by rfl
theorem kM12_129 : lkM 12 129 = some (0, mX10_goings, 0) := by rfl
theorem kM12_132 : lkM 12 132 = some (0, mX11_goings, 0) := by rfl
theorem kM12_133 : lkM 12 133 = some (0, mX10_held, 1) := by rfl
theorem kM12_136 : lkM 12 136 = some (0, mX11_held, 1) := by rfl
theorem kM12_137 : lkM 12 137 = some (0, mX10_eased, 1) := by rfl
theorem kM12_140 : lkM 12 140 = some (0, mX11_eased, 1) := by rfl
theorem kM12_141 : lkM 12 141 = some (0, mX10_seen, 4) := by rfl
theorem kM12_145 : lkM 12 145 = some (0, mX11_seen, 4) := by rfl
theorem kM12_146 : lkM 12 146 = some (0, mX10_fits, 1) := by rfl
theorem kM12_149 : lkM 12 149 = some (0, mX11_fits, 1) := by rfl
theorem kM12_150 : lkM 12 150 = some (0, mX10_ask, 1) := by rfl
theorem kM12_153 : lkM 12 153 = some (0, mX11_ask, 1) := by rfl
theorem kM12_154 : lkM 12 154 = some (0, mX10_game, 5) := by rfl
theorem kM12_157 : lkM 12 157 = some (0, mX11_game, 5) := by rfl
theorem kM12_158 : lkM 12 158 = some (0, mX10_rests, 3) := by rfl
theorem kM12_161 : lkM 12 161 = some (0, mX11_rests, 3) := by rfl
theorem kM12_162 : lkM 12 162 = some (0, mX10_odds, 3) := by rfl
theorem kM12_165 : lkM 12 165 = some (0, mX11_odds, 3) := by rfl
theorem kM12_166 : lkM 12 166 = some (0, mX10_shares, 2) := by rfl
theorem kM12_169 : lkM 12 169 = some (0, mX11_shares, 2) := by rfl
theorem kM12_170 : lkM 12 170 = some (0, mX10_most, 1) := by rfl
theorem kM12_173 : lkM 12 173 = some (0, mX11_most, 1) := by rfl
theorem kM12_174 : lkM 12 174 = some (0, mX10_image, 0) := by rfl
theorem kM12_177 : lkM 12 177 = some (0, mX11_image, 0) := by rfl
theorem kM12_178 : lkM 12 178 = some (0, mX10_back, 0) := by rfl
theorem kM12_181 : lkM 12 181 = some (0, mX11_back, 0) := by rfl
theorem kM12_182 : lkM 12 182 = some (0, mX10_count, 1) := by rfl
theorem kM12_185 : lkM 12 185 = some (0, mX11_count, 1) := by rfl
theorem kM14_308 : lkM 14 308 = some (2, mJ6_numberOfLeadingZeros_0f7a4, 1) := by rfl
