/-! printed by program: the methods (with their room), what links them, their contracts K.. -/
abbrev mX10_isKnown : MI := (yX10_isKnown, cX10_isKnown, 2, (some .boolean), { frames := 0, cells := 0, slots := 0, locals := 0 })
abbrev mX11_isWithin : MI := (yX11_isWithin, cX11_isWithin, 2, (some .boolean), { frames := 0, cells := 0, slots := 0, locals := 0 })
abbrev mX5_has : MI := (yX5_has, cX5_has, 2, (some .boolean), { frames := 1, cells := 0, slots := 0, locals := 21 })
abbrev mJ7_fill_53178 : MI := (yJ7_fill_53178, cJ7_fill_53178, 4, none, { frames := 0, cells := 0, slots := 0, locals := 0 })
abbrev mX10_parts : MI := (yX10_parts, cX10_parts, 1, (some .int), { frames := 1, cells := 0, slots := 0, locals := 21 })
abbrev mX10_numbers : MI := (yX10_numbers, cX10_numbers, 1, (some .int), { frames := 1, cells := 0, slots := 0, locals := 21 })
abbrev mX5_all : MI := (yX5_all, cX5_all, 1, (some .int), { frames := 0, cells := 0, slots := 0, locals := 0 })
abbrev mX5_thoseWith : MI := (yX5_thoseWith, cX5_thoseWith, 5, (some .int), { frames := 0, cells := 0, slots := 0, locals := 0 })
abbrev mX5_thoseMarked : MI := (yX5_thoseMarked, cX5_thoseMarked, 4, (some .int), { frames := 0, cells := 0, slots := 0, locals := 0 })
abbrev mX5_named : MI := (yX5_named, cX5_named, 3, (some .int), { frames := 1, cells := 0, slots := 0, locals := 24 })
abbrev mX9_isAhead : MI := (yX9_isAhead, cX9_isAhead, 5, (some .boolean), { frames := 0, cells := 0, slots := 0, locals := 0 })
abbrev mX9_offer : MI := (yX9_offer, cX9_offer, 5, none, { frames := 1, cells := 0, slots := 0, locals := 24 })
abbrev mX9_offerNamed : MI := (yX9_offerNamed, cX9_offerNamed, 7, none, { frames := 2, cells := 0, slots := 0, locals := 60 })
abbrev mX9_start : MI := (yX9_start, cX9_start, 4, none, { frames := 3, cells := 0, slots := 0, locals := 86 })
abbrev mJ6_bitCount_0f7a4 : MI := (yJ6_bitCount_0f7a4, cJ6_bitCount_0f7a4, 1, (some .int), { frames := 0, cells := 0, slots := 0, locals := 0 })
abbrev mX9_nearest : MI := (yX9_nearest, cX9_nearest, 5, (some .int), { frames := 1, cells := 0, slots := 0, locals := 20 })
abbrev mX9_reach : MI := (yX9_reach, cX9_reach, 5, none, { frames := 2, cells := 0, slots := 0, locals := 41 })
abbrev mX5_thoseLinked : MI := (yX5_thoseLinked, cX5_thoseLinked, 5, (some .int), { frames := 0, cells := 0, slots := 0, locals := 0 })
abbrev mX5_greatestSize : MI := (yX5_greatestSize, cX5_greatestSize, 4, (some .int), { frames := 1, cells := 0, slots := 0, locals := 60 })
abbrev mX5_ofSize : MI := (yX5_ofSize, cX5_ofSize, 3, (some .int), { frames := 1, cells := 0, slots := 0, locals := 24 })
abbrev mX5_leastSize : MI := (yX5_leastSize, cX5_leastSize, 4, (some .int), { frames := 1, cells := 0, slots := 0, locals := 60 })
abbrev mX5_leftmost : MI := (yX5_leftmost, cX5_leftmost, 5, (some .int), { frames := 0, cells := 0, slots := 0, locals := 0 })
abbrev mX5_turned : MI := (yX5_turned, cX5_turned, 3, (some .int), { frames := 2, cells := 0, slots := 0, locals := 83 })
abbrev mX9_turn : MI := (yX9_turn, cX9_turn, 6, none, { frames := 3, cells := 0, slots := 0, locals := 105 })
abbrev mX9_joinTwo : MI := (yX9_joinTwo, cX9_joinTwo, 6, none, { frames := 2, cells := 0, slots := 0, locals := 48 })
abbrev mX9_joinAll : MI := (yX9_joinAll, cX9_joinAll, 6, none, { frames := 3, cells := 0, slots := 0, locals := 73 })
abbrev mX9_fill : MI := (yX9_fill, cX9_fill, 8, none, { frames := 4, cells := 0, slots := 0, locals := 130 })
abbrev mX9_isReached : MI := (yX9_isReached, cX9_isReached, 2, (some .boolean), { frames := 1, cells := 0, slots := 0, locals := 21 })
abbrev mX9_worthOf : MI := (yX9_worthOf, cX9_worthOf, 4, (some .int), { frames := 2, cells := 0, slots := 0, locals := 42 })
abbrev mX0_tryMark : MI := (yX0_tryMark, cX0_tryMark, 7, none, { frames := 5, cells := 0, slots := 0, locals := 157 })
abbrev mX0_find : MI := (yX0_find, cX0_find, 6, none, { frames := 6, cells := 0, slots := 0, locals := 183 })
abbrev mX1_start : MI := (yX1_start, cX1_start, 1, none, { frames := 0, cells := 0, slots := 0, locals := 0 })
abbrev mX1_add : MI := (yX1_add, cX1_add, 3, none, { frames := 0, cells := 0, slots := 0, locals := 0 })
abbrev mX1_isBetter : MI := (yX1_isBetter, cX1_isBetter, 4, (some .boolean), { frames := 1, cells := 0, slots := 0, locals := 20 })
abbrev mX1_saidOf : MI := (yX1_saidOf, cX1_saidOf, 4, (some .int), { frames := 2, cells := 0, slots := 0, locals := 43 })
abbrev mX1_deepen : MI := (yX1_deepen, cX1_deepen, 4, (some .boolean), { frames := 3, cells := 0, slots := 0, locals := 66 })
abbrev mX10_firstLike : MI := (yX10_firstLike, cX10_firstLike, 1, (some .int), { frames := 1, cells := 0, slots := 0, locals := 21 })
abbrev mX10_lastLike : MI := (yX10_lastLike, cX10_lastLike, 1, (some .int), { frames := 1, cells := 0, slots := 0, locals := 21 })
abbrev mX10_join : MI := (yX10_join, cX10_join, 3, (some .int), { frames := 0, cells := 0, slots := 0, locals := 0 })
abbrev mX4_meaning : MI := (yX4_meaning, cX4_meaning, 6, (some .int), { frames := 3, cells := 0, slots := 0, locals := 105 })
abbrev mX2_hearAs : MI := (yX2_hearAs, cX2_hearAs, 8, none, { frames := 4, cells := 0, slots := 0, locals := 130 })
abbrev mX2_hear : MI := (yX2_hear, cX2_hear, 7, none, { frames := 5, cells := 0, slots := 0, locals := 157 })
abbrev mX3_property : MI := (yX3_property, cX3_property, 3, (some .int), { frames := 0, cells := 0, slots := 0, locals := 0 })
abbrev mX3_cost : MI := (yX3_cost, cX3_cost, 10, (some .int), { frames := 2, cells := 0, slots := 0, locals := 46 })
abbrev mX4_add : MI := (yX4_add, cX4_add, 2, (some .boolean), { frames := 0, cells := 0, slots := 0, locals := 0 })
abbrev mX4_addNumber : MI := (yX4_addNumber, cX4_addNumber, 2, none, { frames := 0, cells := 0, slots := 0, locals := 0 })
abbrev mX4_copy : MI := (yX4_copy, cX4_copy, 3, none, { frames := 1, cells := 0, slots := 0, locals := 21 })
abbrev mX4_cost : MI := (yX4_cost, cX4_cost, 5, (some .int), { frames := 1, cells := 0, slots := 0, locals := 21 })
abbrev mX5_isLook : MI := (yX5_isLook, cX5_isLook, 2, (some .boolean), { frames := 1, cells := 0, slots := 0, locals := 21 })
abbrev mX5_isTaken : MI := (yX5_isTaken, cX5_isTaken, 2, (some .boolean), { frames := 1, cells := 0, slots := 0, locals := 24 })
abbrev mX5_add : MI := (yX5_add, cX5_add, 7, (some .int), { frames := 1, cells := 0, slots := 0, locals := 24 })
abbrev mX5_isTied : MI := (yX5_isTied, cX5_isTied, 3, (some .boolean), { frames := 2, cells := 0, slots := 0, locals := 42 })
abbrev mX5_addTie : MI := (yX5_addTie, cX5_addTie, 3, (some .int), { frames := 2, cells := 0, slots := 0, locals := 42 })
abbrev mX6_add : MI := (yX6_add, cX6_add, 2, (some .int), { frames := 0, cells := 0, slots := 0, locals := 0 })
abbrev mX6_pointingAt : MI := (yX6_pointingAt, cX6_pointingAt, 4, (some .int), { frames := 0, cells := 0, slots := 0, locals := 0 })
abbrev mX6_cost : MI := (yX6_cost, cX6_cost, 7, (some .int), { frames := 2, cells := 0, slots := 0, locals := 60 })
abbrev mX7_hasRoomFor : MI := (yX7_hasRoomFor, cX7_hasRoomFor, 2, (some .boolean), { frames := 0, cells := 0, slots := 0, locals := 0 })
abbrev mX7_append : MI := (yX7_append, cX7_append, 5, (some .int), { frames := 0, cells := 0, slots := 0, locals := 0 })
abbrev mX7_clear : MI := (yX7_clear, cX7_clear, 2, (some .int), { frames := 0, cells := 0, slots := 0, locals := 0 })
abbrev mX7_sortAt : MI := (yX7_sortAt, cX7_sortAt, 3, (some .int), { frames := 1, cells := 0, slots := 0, locals := 21 })
abbrev mX7_endOfToken : MI := (yX7_endOfToken, cX7_endOfToken, 4, (some .int), { frames := 2, cells := 0, slots := 0, locals := 43 })
abbrev mX7_readNumber : MI := (yX7_readNumber, cX7_readNumber, 3, (some .boolean), { frames := 1, cells := 0, slots := 0, locals := 21 })
abbrev mX10_isSpelt : MI := (yX10_isSpelt, cX10_isSpelt, 6, (some .boolean), { frames := 6, cells := 0, slots := 0, locals := 160 })
abbrev mX10_spelt : MI := (yX10_spelt, cX10_spelt, 4, (some .int), { frames := 7, cells := 0, slots := 0, locals := 185 })
abbrev mX7_readWord : MI := (yX7_readWord, cX7_readWord, 4, (some .boolean), { frames := 8, cells := 0, slots := 0, locals := 208 })
abbrev mX7_read : MI := (yX7_read, cX7_read, 3, (some .int), { frames := 9, cells := 0, slots := 0, locals := 231 })
abbrev mX8_looksLike : MI := (yX8_looksLike, cX8_looksLike, 4, (some .int), { frames := 0, cells := 0, slots := 0, locals := 0 })
abbrev mX8_hasAsMany : MI := (yX8_hasAsMany, cX8_hasAsMany, 7, (some .boolean), { frames := 1, cells := 0, slots := 0, locals := 20 })
abbrev mX8_part : MI := (yX8_part, cX8_part, 6, (some .boolean), { frames := 2, cells := 0, slots := 0, locals := 60 })
abbrev mX8_find : MI := (yX8_find, cX8_find, 3, none, { frames := 3, cells := 0, slots := 0, locals := 85 })
abbrev mJ6_numberOfTrailingZeros_0f7a4 : MI := (yJ6_numberOfTrailingZeros_0f7a4, cJ6_numberOfTrailingZeros_0f7a4, 2, (some .int), { frames := 0, cells := 0, slots := 0, locals := 0 })
abbrev mX8_sorts : MI := (yX8_sorts, cX8_sorts, 4, (some .int), { frames := 1, cells := 0, slots := 0, locals := 21 })
abbrev mX9_codeAt : MI := (yX9_codeAt, cX9_codeAt, 7, (some .int), { frames := 0, cells := 0, slots := 0, locals := 0 })
abbrev mX10_areWords : MI := (yX10_areWords, cX10_areWords, 1, (some .boolean), { frames := 1, cells := 0, slots := 0, locals := 21 })
abbrev mX11_thing : MI := (yX11_thing, cX11_thing, 5, (some .int), { frames := 2, cells := 0, slots := 0, locals := 50 })
abbrev mX11_paint : MI := (yX11_paint, cX11_paint, 5, (some .int), { frames := 2, cells := 0, slots := 0, locals := 42 })
abbrev mX11_tie : MI := (yX11_tie, cX11_tie, 3, (some .int), { frames := 3, cells := 0, slots := 0, locals := 64 })
abbrev mX11_of : MI := (yX11_of, cX11_of, 3, (some .int), { frames := 2, cells := 0, slots := 0, locals := 42 })
abbrev mX11_price : MI := (yX11_price, cX11_price, 4, (some .int), { frames := 1, cells := 0, slots := 0, locals := 21 })
abbrev mX11_write : MI := (yX11_write, cX11_write, 4, (some .int), { frames := 1, cells := 0, slots := 0, locals := 24 })
abbrev mX11_erase : MI := (yX11_erase, cX11_erase, 1, (some .int), { frames := 1, cells := 0, slots := 0, locals := 21 })
abbrev mX11_fault : MI := (yX11_fault, cX11_fault, 1, (some .int), { frames := 10, cells := 0, slots := 0, locals := 253 })
abbrev mX11_told : MI := (yX11_told, cX11_told, 3, (some .int), { frames := 4, cells := 0, slots := 0, locals := 130 })
abbrev mX11_says : MI := (yX11_says, cX11_says, 2, (some .int), { frames := 10, cells := 0, slots := 0, locals := 253 })
abbrev mX11_keep : MI := (yX11_keep, cX11_keep, 1, (some .int), { frames := 10, cells := 0, slots := 0, locals := 253 })
abbrev mX11_kept : MI := (yX11_kept, cX11_kept, 3, (some .int), { frames := 5, cells := 0, slots := 0, locals := 152 })
abbrev mX11_waysWith : MI := (yX11_waysWith, cX11_waysWith, 2, (some (.object "GreenDoor$Ways")), { frames := 5, cells := 0, slots := 0, locals := 157 })
abbrev mX11_cheapest : MI := (yX11_cheapest, cX11_cheapest, 5, (some .int), { frames := 6, cells := 0, slots := 0, locals := 178 })
abbrev mX11_sets : MI := (yX11_sets, cX11_sets, 2, (some .int), { frames := 6, cells := 0, slots := 0, locals := 178 })
abbrev mX11_quick : MI := (yX11_quick, cX11_quick, 2, (some .int), { frames := 3, cells := 0, slots := 0, locals := 75 })
abbrev mX11_twin : MI := (yX11_twin, cX11_twin, 3, (some .int), { frames := 4, cells := 0, slots := 0, locals := 107 })
abbrev mX11_firstBreak : MI := (yX11_firstBreak, cX11_firstBreak, 8, (some .int), { frames := 4, cells := 0, slots := 0, locals := 130 })
abbrev mX11_breaks : MI := (yX11_breaks, cX11_breaks, 1, (some .int), { frames := 10, cells := 0, slots := 0, locals := 253 })
abbrev mX11_think : MI := (yX11_think, cX11_think, 3, none, { frames := 4, cells := 0, slots := 0, locals := 130 })
abbrev mX11_hears : MI := (yX11_hears, cX11_hears, 3, (some .int), { frames := 5, cells := 0, slots := 0, locals := 152 })
abbrev mX11_tells : MI := (yX11_tells, cX11_tells, 3, (some .int), { frames := 5, cells := 0, slots := 0, locals := 152 })
abbrev mX11_ends : MI := (yX11_ends, cX11_ends, 2, (some .int), { frames := 5, cells := 0, slots := 0, locals := 152 })
abbrev mX11_wrong : MI := (yX11_wrong, cX11_wrong, 2, (some .int), { frames := 10, cells := 0, slots := 0, locals := 253 })
abbrev mX11_name : MI := (yX11_name, cX11_name, 2, (some .int), { frames := 2, cells := 0, slots := 0, locals := 42 })
abbrev mX11_hush : MI := (yX11_hush, cX11_hush, 2, (some .int), { frames := 0, cells := 0, slots := 0, locals := 0 })
abbrev mX11_talk : MI := (yX11_talk, cX11_talk, 2, (some .int), { frames := 6, cells := 0, slots := 0, locals := 178 })
abbrev mX11_worth : MI := (yX11_worth, cX11_worth, 3, (some .int), { frames := 7, cells := 0, slots := 0, locals := 208 })
abbrev mX11_count : MI := (yX11_count, cX11_count, 2, (some .int), { frames := 0, cells := 0, slots := 0, locals := 0 })
abbrev mX12_in : MI := (yX12_in, cX12_in, 3, (some .boolean), { frames := 0, cells := 0, slots := 0, locals := 0 })
abbrev mX12_isThing : MI := (yX12_isThing, cX12_isThing, 2, (some .boolean), { frames := 1, cells := 0, slots := 0, locals := 22 })
abbrev mX12_bits : MI := (yX12_bits, cX12_bits, 3, (some .int), { frames := 0, cells := 0, slots := 0, locals := 0 })
abbrev mX12_every : MI := (yX12_every, cX12_every, 1, (some .int), { frames := 0, cells := 0, slots := 0, locals := 0 })
abbrev mX12_thing : MI := (yX12_thing, cX12_thing, 6, (some .int), { frames := 1, cells := 0, slots := 0, locals := 22 })
abbrev mX12_paint : MI := (yX12_paint, cX12_paint, 5, (some .int), { frames := 2, cells := 0, slots := 0, locals := 43 })
abbrev mX12_tieMany : MI := (yX12_tieMany, cX12_tieMany, 3, (some .int), { frames := 1, cells := 0, slots := 0, locals := 22 })
abbrev mX12_tie : MI := (yX12_tie, cX12_tie, 3, (some .int), { frames := 2, cells := 0, slots := 0, locals := 44 })
abbrev mX12_besides : MI := (yX12_besides, cX12_besides, 4, (some .int), { frames := 0, cells := 0, slots := 0, locals := 0 })
abbrev mX12_of : MI := (yX12_of, cX12_of, 3, (some .int), { frames := 2, cells := 0, slots := 0, locals := 43 })
abbrev mX12_price : MI := (yX12_price, cX12_price, 4, (some .int), { frames := 1, cells := 0, slots := 0, locals := 22 })
abbrev mX12_write : MI := (yX12_write, cX12_write, 5, (some .int), { frames := 1, cells := 0, slots := 0, locals := 22 })
abbrev mX12_erase : MI := (yX12_erase, cX12_erase, 2, (some .int), { frames := 0, cells := 0, slots := 0, locals := 0 })
abbrev mX12_nextToken : MI := (yX12_nextToken, cX12_nextToken, 1, none, { frames := 1, cells := 0, slots := 0, locals := 22 })
abbrev mX12_fails : MI := (yX12_fails, cX12_fails, 1, (some .boolean), { frames := 0, cells := 0, slots := 0, locals := 0 })
abbrev mX12_wordTold : MI := (yX12_wordTold, cX12_wordTold, 5, (some .int), { frames := 0, cells := 0, slots := 0, locals := 0 })
abbrev mX12_needs : MI := (yX12_needs, cX12_needs, 1, (some .int), { frames := 0, cells := 0, slots := 0, locals := 0 })
abbrev mX12_isRead : MI := (yX12_isRead, cX12_isRead, 3, (some .boolean), { frames := 2, cells := 0, slots := 0, locals := 42 })
abbrev mX12_fault : MI := (yX12_fault, cX12_fault, 1, (some .int), { frames := 3, cells := 0, slots := 0, locals := 64 })
abbrev mX12_allOf : MI := (yX12_allOf, cX12_allOf, 6, (some .int), { frames := 0, cells := 0, slots := 0, locals := 0 })
abbrev mX12_bySize : MI := (yX12_bySize, cX12_bySize, 7, (some .int), { frames := 0, cells := 0, slots := 0, locals := 0 })
abbrev mX12_leftmost : MI := (yX12_leftmost, cX12_leftmost, 4, (some .int), { frames := 0, cells := 0, slots := 0, locals := 0 })
abbrev mX12_made : MI := (yX12_made, cX12_made, 6, (some .int), { frames := 1, cells := 0, slots := 0, locals := 26 })
abbrev mX12_meaning : MI := (yX12_meaning, cX12_meaning, 6, (some .int), { frames := 2, cells := 0, slots := 0, locals := 51 })
abbrev mX12_costTold : MI := (yX12_costTold, cX12_costTold, 3, (some .int), { frames := 0, cells := 0, slots := 0, locals := 0 })
abbrev mX12_says : MI := (yX12_says, cX12_says, 2, (some .int), { frames := 3, cells := 0, slots := 0, locals := 76 })
abbrev mX12_keep : MI := (yX12_keep, cX12_keep, 2, (some .int), { frames := 3, cells := 0, slots := 0, locals := 64 })
abbrev mX12_recall : MI := (yX12_recall, cX12_recall, 3, none, { frames := 0, cells := 0, slots := 0, locals := 0 })
abbrev mX12_kept : MI := (yX12_kept, cX12_kept, 3, (some .int), { frames := 3, cells := 0, slots := 0, locals := 76 })
abbrev mX12_offer : MI := (yX12_offer, cX12_offer, 7, none, { frames := 0, cells := 0, slots := 0, locals := 0 })
abbrev mX12_isAhead : MI := (yX12_isAhead, cX12_isAhead, 3, (some .boolean), { frames := 0, cells := 0, slots := 0, locals := 0 })
abbrev mX12_settle : MI := (yX12_settle, cX12_settle, 4, none, { frames := 1, cells := 0, slots := 0, locals := 22 })
abbrev mX12_cheapestLeft : MI := (yX12_cheapestLeft, cX12_cheapestLeft, 3, (some .int), { frames := 1, cells := 0, slots := 0, locals := 20 })
abbrev mX12_search : MI := (yX12_search, cX12_search, 5, none, { frames := 2, cells := 0, slots := 0, locals := 51 })
abbrev mX12_areWords : MI := (yX12_areWords, cX12_areWords, 1, (some .boolean), { frames := 1, cells := 0, slots := 0, locals := 22 })
abbrev mX12_cheapest : MI := (yX12_cheapest, cX12_cheapest, 7, (some .int), { frames := 3, cells := 0, slots := 0, locals := 75 })
abbrev mX12_sets : MI := (yX12_sets, cX12_sets, 4, (some .int), { frames := 3, cells := 0, slots := 0, locals := 75 })
abbrev mX12_quick : MI := (yX12_quick, cX12_quick, 7, (some .int), { frames := 2, cells := 0, slots := 0, locals := 43 })
abbrev mX12_howMany : MI := (yX12_howMany, cX12_howMany, 5, (some .int), { frames := 0, cells := 0, slots := 0, locals := 0 })
abbrev mX12_tiesTo : MI := (yX12_tiesTo, cX12_tiesTo, 4, (some .int), { frames := 0, cells := 0, slots := 0, locals := 0 })
abbrev mX12_areAlike : MI := (yX12_areAlike, cX12_areAlike, 5, (some .boolean), { frames := 1, cells := 0, slots := 0, locals := 24 })
abbrev mX12_findTwins : MI := (yX12_findTwins, cX12_findTwins, 6, none, { frames := 2, cells := 0, slots := 0, locals := 48 })
abbrev mX12_twin : MI := (yX12_twin, cX12_twin, 5, (some .int), { frames := 3, cells := 0, slots := 0, locals := 73 })
abbrev mX12_breaks : MI := (yX12_breaks, cX12_breaks, 6, (some .int), { frames := 3, cells := 0, slots := 0, locals := 76 })
abbrev mX12_findSaid : MI := (yX12_findSaid, cX12_findSaid, 5, none, { frames := 1, cells := 0, slots := 0, locals := 22 })
abbrev mX12_think : MI := (yX12_think, cX12_think, 5, none, { frames := 3, cells := 0, slots := 0, locals := 76 })
abbrev mX12_hears : MI := (yX12_hears, cX12_hears, 3, (some .int), { frames := 4, cells := 0, slots := 0, locals := 100 })
abbrev mX12_tells : MI := (yX12_tells, cX12_tells, 3, (some .int), { frames := 4, cells := 0, slots := 0, locals := 100 })
abbrev mX12_ends : MI := (yX12_ends, cX12_ends, 4, (some .int), { frames := 4, cells := 0, slots := 0, locals := 100 })
abbrev mX12_tryWord : MI := (yX12_tryWord, cX12_tryWord, 6, none, { frames := 3, cells := 0, slots := 0, locals := 76 })
abbrev mX12_wrong : MI := (yX12_wrong, cX12_wrong, 5, (some .int), { frames := 4, cells := 0, slots := 0, locals := 101 })
abbrev mX12_name : MI := (yX12_name, cX12_name, 2, (some .int), { frames := 2, cells := 0, slots := 0, locals := 43 })
abbrev mX12_hush : MI := (yX12_hush, cX12_hush, 2, (some .int), { frames := 0, cells := 0, slots := 0, locals := 0 })
abbrev mX12_talk : MI := (yX12_talk, cX12_talk, 8, (some .int), { frames := 3, cells := 0, slots := 0, locals := 75 })
abbrev mX12_worthOf : MI := (yX12_worthOf, cX12_worthOf, 4, (some .int), { frames := 3, cells := 0, slots := 0, locals := 75 })
abbrev mX12_worth : MI := (yX12_worth, cX12_worth, 9, (some .int), { frames := 4, cells := 0, slots := 0, locals := 98 })
abbrev mX12_count : MI := (yX12_count, cX12_count, 2, (some .int), { frames := 2, cells := 0, slots := 0, locals := 44 })
abbrev mL_law : MI := (yL_law, code, 4, ret, room_1)
def KX10_isKnown (X : Cx) (v0 : Int) (v1 : Int) (σ : Sg) (Q : Int → Sg → Prop) : Prop := CC X mX10_isKnown [.int (gI v0), .int (gI v1)] σ Q
def KX11_isWithin (X : Cx) (v0 : Int) (v1 : Int) (σ : Sg) (Q : Int → Sg → Prop) : Prop := CC X mX11_isWithin [.int (gI v0), .int (gI v1)] σ Q
def KX5_has (X : Cx) (v1 : Int) (σ : Sg) (Q : Int → Sg → Prop) : Prop := CC X mX5_has [.ref (cxA X 1), .int (gI v1)] σ Q
def KJ7_fill_53178 (X : Cx) (c0 : Nat) (v1 : Int) (σ : Sg) (Q : Int → Sg → Prop) : Prop := CC X mJ7_fill_53178 [.ref (cxA X c0), .int (gI v1)] σ Q
def KX10_parts (X : Cx) (v0 : Int) (σ : Sg) (Q : Int → Sg → Prop) : Prop := CC X mX10_parts [.int (gI v0)] σ Q
def KX10_numbers (X : Cx) (v0 : Int) (σ : Sg) (Q : Int → Sg → Prop) : Prop := CC X mX10_numbers [.int (gI v0)] σ Q
def KX5_all (X : Cx) (σ : Sg) (Q : Int → Sg → Prop) : Prop := CC X mX5_all [.ref (cxA X 1)] σ Q
def KX5_thoseWith (X : Cx) (v1 : Int) (v2 : Int) (σ : Sg) (Q : Int → Sg → Prop) : Prop := CC X mX5_thoseWith [.ref (cxA X 1), .int (gI v1), .int (gI v2)] σ Q
def KX5_thoseMarked (X : Cx) (v1 : Int) (σ : Sg) (Q : Int → Sg → Prop) : Prop := CC X mX5_thoseMarked [.ref (cxA X 1), .int (gI v1)] σ Q
def KX5_named (X : Cx) (v1 : Int) (σ : Sg) (Q : Int → Sg → Prop) : Prop := CC X mX5_named [.ref (cxA X 1), .int (gI v1)] σ Q
def KX9_isAhead (X : Cx) (c0 : Nat) (v1 : Int) (v2 : Int) (σ : Sg) (Q : Int → Sg → Prop) : Prop := CC X mX9_isAhead [.ref (cxA X c0), .int (gI v1), .int (gI v2)] σ Q
def KX9_offer (X : Cx) (c0 : Nat) (v1 : Int) (v2 : Int) (v3 : Int) (σ : Sg) (Q : Int → Sg → Prop) : Prop := CC X mX9_offer [.ref (cxA X c0), .int (gI v1), .int (gI v2), .int (gI v3)] σ Q
def KX9_offerNamed (X : Cx) (c0 : Nat) (v2 : Int) (v3 : Int) (σ : Sg) (Q : Int → Sg → Prop) : Prop := CC X mX9_offerNamed [.ref (cxA X c0), .ref (cxA X 1), .int (gI v2), .int (gI v3)] σ Q
def KX9_start (X : Cx) (c0 : Nat) (σ : Sg) (Q : Int → Sg → Prop) : Prop := CC X mX9_start [.ref (cxA X c0), .ref (cxA X 1), .ref (cxA X 11)] σ Q
def KJ6_bitCount_0f7a4 (X : Cx) (v0 : Int) (σ : Sg) (Q : Int → Sg → Prop) : Prop := CC X mJ6_bitCount_0f7a4 [.int (gI v0)] σ Q
def KX9_nearest (X : Cx) (c0 : Nat) (v1 : Int) (σ : Sg) (Q : Int → Sg → Prop) : Prop := CC X mX9_nearest [.ref (cxA X c0), .int (gI v1)] σ Q
def KX9_reach (X : Cx) (c0 : Nat) (v1 : Int) (σ : Sg) (Q : Int → Sg → Prop) : Prop := CC X mX9_reach [.ref (cxA X c0), .int (gI v1)] σ Q
def KX5_thoseLinked (X : Cx) (v1 : Int) (v2 : Int) (σ : Sg) (Q : Int → Sg → Prop) : Prop := CC X mX5_thoseLinked [.ref (cxA X 1), .int (gI v1), .int (gI v2)] σ Q
def KX5_greatestSize (X : Cx) (v1 : Int) (σ : Sg) (Q : Int → Sg → Prop) : Prop := CC X mX5_greatestSize [.ref (cxA X 1), .int (gI v1)] σ Q
def KX5_ofSize (X : Cx) (v1 : Int) (v2 : Int) (σ : Sg) (Q : Int → Sg → Prop) : Prop := CC X mX5_ofSize [.ref (cxA X 1), .int (gI v1), .int (gI v2)] σ Q
def KX5_leastSize (X : Cx) (v1 : Int) (σ : Sg) (Q : Int → Sg → Prop) : Prop := CC X mX5_leastSize [.ref (cxA X 1), .int (gI v1)] σ Q
def KX5_leftmost (X : Cx) (v1 : Int) (σ : Sg) (Q : Int → Sg → Prop) : Prop := CC X mX5_leftmost [.ref (cxA X 1), .int (gI v1)] σ Q
def KX5_turned (X : Cx) (v1 : Int) (v2 : Int) (σ : Sg) (Q : Int → Sg → Prop) : Prop := CC X mX5_turned [.ref (cxA X 1), .int (gI v1), .int (gI v2)] σ Q
def KX9_turn (X : Cx) (c0 : Nat) (v3 : Int) (σ : Sg) (Q : Int → Sg → Prop) : Prop := CC X mX9_turn [.ref (cxA X c0), .ref (cxA X 1), .ref (cxA X 11), .int (gI v3)] σ Q
def KX9_joinTwo (X : Cx) (c0 : Nat) (v2 : Int) (v3 : Int) (σ : Sg) (Q : Int → Sg → Prop) : Prop := CC X mX9_joinTwo [.ref (cxA X c0), .ref (cxA X 11), .int (gI v2), .int (gI v3)] σ Q
def KX9_joinAll (X : Cx) (c0 : Nat) (v2 : Int) (σ : Sg) (Q : Int → Sg → Prop) : Prop := CC X mX9_joinAll [.ref (cxA X c0), .ref (cxA X 11), .int (gI v2)] σ Q
def KX9_fill (X : Cx) (c0 : Nat) (v3 : Int) (v4 : Int) (σ : Sg) (Q : Int → Sg → Prop) : Prop := CC X mX9_fill [.ref (cxA X c0), .ref (cxA X 1), .ref (cxA X 11), .int (gI v3), .int (gI v4)] σ Q
def KX9_isReached (X : Cx) (c0 : Nat) (v1 : Int) (σ : Sg) (Q : Int → Sg → Prop) : Prop := CC X mX9_isReached [.ref (cxA X c0), .int (gI v1)] σ Q
def KX9_worthOf (X : Cx) (c0 : Nat) (v1 : Int) (σ : Sg) (Q : Int → Sg → Prop) : Prop := CC X mX9_worthOf [.ref (cxA X c0), .int (gI v1)] σ Q
def KX0_tryMark (X : Cx) (v3 : Int) (v4 : Int) (σ : Sg) (Q : Int → Sg → Prop) : Prop := CC X mX0_tryMark [.ref (cxA X 49), .ref (cxA X 1), .ref (cxA X 11), .int (gI v3), .int (gI v4)] σ Q
def KX0_find (X : Cx) (v3 : Int) (σ : Sg) (Q : Int → Sg → Prop) : Prop := CC X mX0_find [.ref (cxA X 49), .ref (cxA X 1), .ref (cxA X 11), .int (gI v3)] σ Q
def KX1_start (X : Cx) (σ : Sg) (Q : Int → Sg → Prop) : Prop := CC X mX1_start [.ref (cxA X 61)] σ Q
def KX1_add (X : Cx) (v1 : Int) (v2 : Int) (σ : Sg) (Q : Int → Sg → Prop) : Prop := CC X mX1_add [.ref (cxA X 61), .int (gI v1), .int (gI v2)] σ Q
def KX1_isBetter (X : Cx) (v1 : Int) (v2 : Int) (σ : Sg) (Q : Int → Sg → Prop) : Prop := CC X mX1_isBetter [.ref (cxA X 61), .int (gI v1), .int (gI v2)] σ Q
def KX1_saidOf (X : Cx) (v1 : Int) (σ : Sg) (Q : Int → Sg → Prop) : Prop := CC X mX1_saidOf [.ref (cxA X 61), .int (gI v1)] σ Q
def KX1_deepen (X : Cx) (v1 : Int) (σ : Sg) (Q : Int → Sg → Prop) : Prop := CC X mX1_deepen [.ref (cxA X 61), .int (gI v1)] σ Q
def KX10_firstLike (X : Cx) (v0 : Int) (σ : Sg) (Q : Int → Sg → Prop) : Prop := CC X mX10_firstLike [.int (gI v0)] σ Q
def KX10_lastLike (X : Cx) (v0 : Int) (σ : Sg) (Q : Int → Sg → Prop) : Prop := CC X mX10_lastLike [.int (gI v0)] σ Q
def KX10_join (X : Cx) (v0 : Int) (v1 : Int) (v2 : Int) (σ : Sg) (Q : Int → Sg → Prop) : Prop := CC X mX10_join [.int (gI v0), .int (gI v1), .int (gI v2)] σ Q
def KX4_meaning (X : Cx) (c0 : Nat) (σ : Sg) (Q : Int → Sg → Prop) : Prop := CC X mX4_meaning [.ref (cxA X c0), .ref (cxA X 1)] σ Q
def KX2_hearAs (X : Cx) (v3 : Int) (v4 : Int) (σ : Sg) (Q : Int → Sg → Prop) : Prop := CC X mX2_hearAs [.ref (cxA X 65), .ref (cxA X 1), .ref (cxA X 14), .int (gI v3), .int (gI v4)] σ Q
def KX2_hear (X : Cx) (σ : Sg) (Q : Int → Sg → Prop) : Prop := CC X mX2_hear [.ref (cxA X 65), .ref (cxA X 1), .ref (cxA X 14)] σ Q
def KX3_property (X : Cx) (v1 : Int) (v2 : Int) (σ : Sg) (Q : Int → Sg → Prop) : Prop := CC X mX3_property [.ref (cxA X 1), .int (gI v1), .int (gI v2)] σ Q
def KX3_cost (X : Cx) (v2 : Int) (σ : Sg) (Q : Int → Sg → Prop) : Prop := CC X mX3_cost [.ref (cxA X 1), .ref (cxA X 11), .int (gI v2)] σ Q
def KX4_add (X : Cx) (c0 : Nat) (v1 : Int) (σ : Sg) (Q : Int → Sg → Prop) : Prop := CC X mX4_add [.ref (cxA X c0), .int (gI v1)] σ Q
def KX4_addNumber (X : Cx) (c0 : Nat) (v1 : Int) (σ : Sg) (Q : Int → Sg → Prop) : Prop := CC X mX4_addNumber [.ref (cxA X c0), .int (gI v1)] σ Q
def KX4_copy (X : Cx) (c0 : Nat) (σ : Sg) (Q : Int → Sg → Prop) : Prop := CC X mX4_copy [.ref (cxA X c0), .ref (cxA X 14)] σ Q
def KX4_cost (X : Cx) (c0 : Nat) (σ : Sg) (Q : Int → Sg → Prop) : Prop := CC X mX4_cost [.ref (cxA X c0), .ref (cxA X 11)] σ Q
def KX5_isLook (X : Cx) (v0 : Int) (v1 : Int) (σ : Sg) (Q : Int → Sg → Prop) : Prop := CC X mX5_isLook [.int (gI v0), .int (gI v1)] σ Q
def KX5_isTaken (X : Cx) (v1 : Int) (σ : Sg) (Q : Int → Sg → Prop) : Prop := CC X mX5_isTaken [.ref (cxA X 1), .int (gI v1)] σ Q
def KX5_add (X : Cx) (v1 : Int) (v2 : Int) (v3 : Int) (v4 : Int) (σ : Sg) (Q : Int → Sg → Prop) : Prop := CC X mX5_add [.ref (cxA X 1), .int (gI v1), .int (gI v2), .int (gI v3), .int (gI v4)] σ Q
def KX5_isTied (X : Cx) (v1 : Int) (v2 : Int) (σ : Sg) (Q : Int → Sg → Prop) : Prop := CC X mX5_isTied [.ref (cxA X 1), .int (gI v1), .int (gI v2)] σ Q
def KX5_addTie (X : Cx) (v1 : Int) (v2 : Int) (σ : Sg) (Q : Int → Sg → Prop) : Prop := CC X mX5_addTie [.ref (cxA X 1), .int (gI v1), .int (gI v2)] σ Q
def KX6_add (X : Cx) (v1 : Int) (σ : Sg) (Q : Int → Sg → Prop) : Prop := CC X mX6_add [.ref (cxA X 67), .int (gI v1)] σ Q
def KX6_pointingAt (X : Cx) (v1 : Int) (σ : Sg) (Q : Int → Sg → Prop) : Prop := CC X mX6_pointingAt [.ref (cxA X 67), .int (gI v1)] σ Q
def KX6_cost (X : Cx) (σ : Sg) (Q : Int → Sg → Prop) : Prop := CC X mX6_cost [.ref (cxA X 67), .ref (cxA X 42)] σ Q
def KX7_hasRoomFor (X : Cx) (v1 : Int) (σ : Sg) (Q : Int → Sg → Prop) : Prop := CC X mX7_hasRoomFor [.ref (cxA X 12), .int (gI v1)] σ Q
def KX7_append (X : Cx) (w1 : Int) (v3 : Int) (σ : Sg) (Q : Int → Sg → Prop) : Prop := CC X mX7_append [.ref (cxA X 12), .long (gJ w1), .int (gI v3)] σ Q
def KX7_clear (X : Cx) (σ : Sg) (Q : Int → Sg → Prop) : Prop := CC X mX7_clear [.ref (cxA X 12)] σ Q
def KX7_sortAt (X : Cx) (v1 : Int) (σ : Sg) (Q : Int → Sg → Prop) : Prop := CC X mX7_sortAt [.ref (cxA X 12), .int (gI v1)] σ Q
def KX7_endOfToken (X : Cx) (v1 : Int) (σ : Sg) (Q : Int → Sg → Prop) : Prop := CC X mX7_endOfToken [.ref (cxA X 12), .int (gI v1)] σ Q
def KX7_readNumber (X : Cx) (v1 : Int) (v2 : Int) (σ : Sg) (Q : Int → Sg → Prop) : Prop := CC X mX7_readNumber [.ref (cxA X 12), .int (gI v1), .int (gI v2)] σ Q
def KX10_isSpelt (X : Cx) (v0 : Int) (v2 : Int) (v3 : Int) (σ : Sg) (Q : Int → Sg → Prop) : Prop := CC X mX10_isSpelt [.int (gI v0), .ref (cxA X 13), .int (gI v2), .int (gI v3)] σ Q
def KX10_spelt (X : Cx) (v1 : Int) (v2 : Int) (σ : Sg) (Q : Int → Sg → Prop) : Prop := CC X mX10_spelt [.ref (cxA X 13), .int (gI v1), .int (gI v2)] σ Q
def KX7_readWord (X : Cx) (v1 : Int) (v2 : Int) (σ : Sg) (Q : Int → Sg → Prop) : Prop := CC X mX7_readWord [.ref (cxA X 12), .int (gI v1), .int (gI v2)] σ Q
def KX7_read (X : Cx) (σ : Sg) (Q : Int → Sg → Prop) : Prop := CC X mX7_read [.ref (cxA X 12)] σ Q
def KX8_looksLike (X : Cx) (v1 : Int) (σ : Sg) (Q : Int → Sg → Prop) : Prop := CC X mX8_looksLike [.ref (cxA X 1), .int (gI v1)] σ Q
def KX8_hasAsMany (X : Cx) (v2 : Int) (v3 : Int) (σ : Sg) (Q : Int → Sg → Prop) : Prop := CC X mX8_hasAsMany [.ref (cxA X 57), .ref (cxA X 1), .int (gI v2), .int (gI v3)] σ Q
def KX8_part (X : Cx) (v2 : Int) (σ : Sg) (Q : Int → Sg → Prop) : Prop := CC X mX8_part [.ref (cxA X 57), .ref (cxA X 1), .int (gI v2)] σ Q
def KX8_find (X : Cx) (σ : Sg) (Q : Int → Sg → Prop) : Prop := CC X mX8_find [.ref (cxA X 57), .ref (cxA X 1)] σ Q
def KJ6_numberOfTrailingZeros_0f7a4 (X : Cx) (v0 : Int) (σ : Sg) (Q : Int → Sg → Prop) : Prop := CC X mJ6_numberOfTrailingZeros_0f7a4 [.int (gI v0)] σ Q
def KX8_sorts (X : Cx) (v1 : Int) (σ : Sg) (Q : Int → Sg → Prop) : Prop := CC X mX8_sorts [.ref (cxA X 57), .int (gI v1)] σ Q
def KX9_codeAt (X : Cx) (c0 : Nat) (v1 : Int) (v2 : Int) (σ : Sg) (Q : Int → Sg → Prop) : Prop := CC X mX9_codeAt [.ref (cxA X c0), .int (gI v1), .int (gI v2)] σ Q
def KX10_areWords (X : Cx) (v0 : Int) (σ : Sg) (Q : Int → Sg → Prop) : Prop := CC X mX10_areWords [.int (gI v0)] σ Q
def KX11_thing (X : Cx) (v1 : Int) (v2 : Int) (v3 : Int) (v4 : Int) (σ : Sg) (Q : Int → Sg → Prop) : Prop := CC X mX11_thing [.ref (cxA X 0), .int (gI v1), .int (gI v2), .int (gI v3), .int (gI v4)] σ Q
def KX11_paint (X : Cx) (v1 : Int) (v2 : Int) (v3 : Int) (σ : Sg) (Q : Int → Sg → Prop) : Prop := CC X mX11_paint [.ref (cxA X 0), .int (gI v1), .int (gI v2), .int (gI v3)] σ Q
def KX11_tie (X : Cx) (v1 : Int) (v2 : Int) (σ : Sg) (Q : Int → Sg → Prop) : Prop := CC X mX11_tie [.ref (cxA X 0), .int (gI v1), .int (gI v2)] σ Q
def KX11_of (X : Cx) (v1 : Int) (v2 : Int) (σ : Sg) (Q : Int → Sg → Prop) : Prop := CC X mX11_of [.ref (cxA X 0), .int (gI v1), .int (gI v2)] σ Q
def KX11_price (X : Cx) (v1 : Int) (v2 : Int) (σ : Sg) (Q : Int → Sg → Prop) : Prop := CC X mX11_price [.ref (cxA X 0), .int (gI v1), .int (gI v2)] σ Q
def KX11_write (X : Cx) (w1 : Int) (v3 : Int) (σ : Sg) (Q : Int → Sg → Prop) : Prop := CC X mX11_write [.ref (cxA X 0), .long (gJ w1), .int (gI v3)] σ Q
def KX11_erase (X : Cx) (σ : Sg) (Q : Int → Sg → Prop) : Prop := CC X mX11_erase [.ref (cxA X 0)] σ Q
def KX11_fault (X : Cx) (σ : Sg) (Q : Int → Sg → Prop) : Prop := CC X mX11_fault [.ref (cxA X 0)] σ Q
def KX11_told (X : Cx) (c1 : Nat) (v2 : Int) (σ : Sg) (Q : Int → Sg → Prop) : Prop := CC X mX11_told [.ref (cxA X 0), .ref (cxA X c1), .int (gI v2)] σ Q
def KX11_says (X : Cx) (v1 : Int) (σ : Sg) (Q : Int → Sg → Prop) : Prop := CC X mX11_says [.ref (cxA X 0), .int (gI v1)] σ Q
def KX11_keep (X : Cx) (σ : Sg) (Q : Int → Sg → Prop) : Prop := CC X mX11_keep [.ref (cxA X 0)] σ Q
def KX11_kept (X : Cx) (v1 : Int) (v2 : Int) (σ : Sg) (Q : Int → Sg → Prop) : Prop := CC X mX11_kept [.ref (cxA X 0), .int (gI v1), .int (gI v2)] σ Q
def KX11_waysWith (X : Cx) (v1 : Int) (σ : Sg) (Q : Int → Sg → Prop) : Prop := CC X mX11_waysWith [.ref (cxA X 0), .int (gI v1)] σ Q
def KX11_cheapest (X : Cx) (v1 : Int) (v2 : Int) (v3 : Int) (σ : Sg) (Q : Int → Sg → Prop) : Prop := CC X mX11_cheapest [.ref (cxA X 0), .int (gI v1), .int (gI v2), .int (gI v3)] σ Q
def KX11_sets (X : Cx) (v1 : Int) (σ : Sg) (Q : Int → Sg → Prop) : Prop := CC X mX11_sets [.ref (cxA X 0), .int (gI v1)] σ Q
def KX11_quick (X : Cx) (v1 : Int) (σ : Sg) (Q : Int → Sg → Prop) : Prop := CC X mX11_quick [.ref (cxA X 0), .int (gI v1)] σ Q
def KX11_twin (X : Cx) (v1 : Int) (v2 : Int) (σ : Sg) (Q : Int → Sg → Prop) : Prop := CC X mX11_twin [.ref (cxA X 0), .int (gI v1), .int (gI v2)] σ Q
def KX11_firstBreak (X : Cx) (σ : Sg) (Q : Int → Sg → Prop) : Prop := CC X mX11_firstBreak [.ref (cxA X 0), .ref (cxA X 14)] σ Q
def KX11_breaks (X : Cx) (σ : Sg) (Q : Int → Sg → Prop) : Prop := CC X mX11_breaks [.ref (cxA X 0)] σ Q
def KX11_think (X : Cx) (v1 : Int) (σ : Sg) (Q : Int → Sg → Prop) : Prop := CC X mX11_think [.ref (cxA X 0), .int (gI v1)] σ Q
def KX11_hears (X : Cx) (v1 : Int) (v2 : Int) (σ : Sg) (Q : Int → Sg → Prop) : Prop := CC X mX11_hears [.ref (cxA X 0), .int (gI v1), .int (gI v2)] σ Q
def KX11_tells (X : Cx) (v1 : Int) (v2 : Int) (σ : Sg) (Q : Int → Sg → Prop) : Prop := CC X mX11_tells [.ref (cxA X 0), .int (gI v1), .int (gI v2)] σ Q
def KX11_ends (X : Cx) (σ : Sg) (Q : Int → Sg → Prop) : Prop := CC X mX11_ends [.ref (cxA X 0)] σ Q
def KX11_wrong (X : Cx) (v1 : Int) (σ : Sg) (Q : Int → Sg → Prop) : Prop := CC X mX11_wrong [.ref (cxA X 0), .int (gI v1)] σ Q
def KX11_name (X : Cx) (v1 : Int) (σ : Sg) (Q : Int → Sg → Prop) : Prop := CC X mX11_name [.ref (cxA X 0), .int (gI v1)] σ Q
def KX11_hush (X : Cx) (σ : Sg) (Q : Int → Sg → Prop) : Prop := CC X mX11_hush [.ref (cxA X 0)] σ Q
def KX11_talk (X : Cx) (v1 : Int) (σ : Sg) (Q : Int → Sg → Prop) : Prop := CC X mX11_talk [.ref (cxA X 0), .int (gI v1)] σ Q
def KX11_worth (X : Cx) (v1 : Int) (v2 : Int) (σ : Sg) (Q : Int → Sg → Prop) : Prop := CC X mX11_worth [.ref (cxA X 0), .int (gI v1), .int (gI v2)] σ Q
def KX11_count (X : Cx) (v1 : Int) (σ : Sg) (Q : Int → Sg → Prop) : Prop := CC X mX11_count [.ref (cxA X 0), .int (gI v1)] σ Q
def KX12_in (X : Cx) (v0 : Int) (v1 : Int) (v2 : Int) (σ : Sg) (Q : Int → Sg → Prop) : Prop := CC X mX12_in [.int (gI v0), .int (gI v1), .int (gI v2)] σ Q
def KX12_isThing (X : Cx) (v1 : Int) (σ : Sg) (Q : Int → Sg → Prop) : Prop := CC X mX12_isThing [.ref (cxA X 69), .int (gI v1)] σ Q
def KX12_bits (X : Cx) (v0 : Int) (σ : Sg) (Q : Int → Sg → Prop) : Prop := CC X mX12_bits [.int (gI v0)] σ Q
def KX12_every (X : Cx) (σ : Sg) (Q : Int → Sg → Prop) : Prop := CC X mX12_every [.ref (cxA X 69)] σ Q
def KX12_thing (X : Cx) (v1 : Int) (v2 : Int) (v3 : Int) (v4 : Int) (σ : Sg) (Q : Int → Sg → Prop) : Prop := CC X mX12_thing [.ref (cxA X 69), .int (gI v1), .int (gI v2), .int (gI v3), .int (gI v4)] σ Q
def KX12_paint (X : Cx) (v1 : Int) (v2 : Int) (v3 : Int) (σ : Sg) (Q : Int → Sg → Prop) : Prop := CC X mX12_paint [.ref (cxA X 69), .int (gI v1), .int (gI v2), .int (gI v3)] σ Q
def KX12_tieMany (X : Cx) (σ : Sg) (Q : Int → Sg → Prop) : Prop := CC X mX12_tieMany [.ref (cxA X 69)] σ Q
def KX12_tie (X : Cx) (v1 : Int) (v2 : Int) (σ : Sg) (Q : Int → Sg → Prop) : Prop := CC X mX12_tie [.ref (cxA X 69), .int (gI v1), .int (gI v2)] σ Q
def KX12_besides (X : Cx) (v1 : Int) (σ : Sg) (Q : Int → Sg → Prop) : Prop := CC X mX12_besides [.ref (cxA X 69), .int (gI v1)] σ Q
def KX12_of (X : Cx) (v1 : Int) (v2 : Int) (σ : Sg) (Q : Int → Sg → Prop) : Prop := CC X mX12_of [.ref (cxA X 69), .int (gI v1), .int (gI v2)] σ Q
def KX12_price (X : Cx) (v1 : Int) (v2 : Int) (σ : Sg) (Q : Int → Sg → Prop) : Prop := CC X mX12_price [.ref (cxA X 69), .int (gI v1), .int (gI v2)] σ Q
def KX12_write (X : Cx) (w1 : Int) (v3 : Int) (σ : Sg) (Q : Int → Sg → Prop) : Prop := CC X mX12_write [.ref (cxA X 69), .long (gJ w1), .int (gI v3)] σ Q
def KX12_erase (X : Cx) (σ : Sg) (Q : Int → Sg → Prop) : Prop := CC X mX12_erase [.ref (cxA X 69)] σ Q
def KX12_nextToken (X : Cx) (σ : Sg) (Q : Int → Sg → Prop) : Prop := CC X mX12_nextToken [.ref (cxA X 69)] σ Q
def KX12_fails (X : Cx) (σ : Sg) (Q : Int → Sg → Prop) : Prop := CC X mX12_fails [.ref (cxA X 69)] σ Q
def KX12_wordTold (X : Cx) (σ : Sg) (Q : Int → Sg → Prop) : Prop := CC X mX12_wordTold [.ref (cxA X 69)] σ Q
def KX12_needs (X : Cx) (v0 : Int) (σ : Sg) (Q : Int → Sg → Prop) : Prop := CC X mX12_needs [.int (gI v0)] σ Q
def KX12_isRead (X : Cx) (σ : Sg) (Q : Int → Sg → Prop) : Prop := CC X mX12_isRead [.ref (cxA X 69)] σ Q
def KX12_fault (X : Cx) (σ : Sg) (Q : Int → Sg → Prop) : Prop := CC X mX12_fault [.ref (cxA X 69)] σ Q
def KX12_allOf (X : Cx) (v1 : Int) (v2 : Int) (σ : Sg) (Q : Int → Sg → Prop) : Prop := CC X mX12_allOf [.ref (cxA X 69), .int (gI v1), .int (gI v2)] σ Q
def KX12_bySize (X : Cx) (v1 : Int) (v2 : Int) (σ : Sg) (Q : Int → Sg → Prop) : Prop := CC X mX12_bySize [.ref (cxA X 69), .int (gI v1), .int (gI v2)] σ Q
def KX12_leftmost (X : Cx) (v1 : Int) (σ : Sg) (Q : Int → Sg → Prop) : Prop := CC X mX12_leftmost [.ref (cxA X 69), .int (gI v1)] σ Q
def KX12_made (X : Cx) (v1 : Int) (v2 : Int) (v3 : Int) (σ : Sg) (Q : Int → Sg → Prop) : Prop := CC X mX12_made [.ref (cxA X 69), .int (gI v1), .int (gI v2), .int (gI v3)] σ Q
def KX12_meaning (X : Cx) (σ : Sg) (Q : Int → Sg → Prop) : Prop := CC X mX12_meaning [.ref (cxA X 69)] σ Q
def KX12_costTold (X : Cx) (σ : Sg) (Q : Int → Sg → Prop) : Prop := CC X mX12_costTold [.ref (cxA X 69)] σ Q
def KX12_says (X : Cx) (v1 : Int) (σ : Sg) (Q : Int → Sg → Prop) : Prop := CC X mX12_says [.ref (cxA X 69), .int (gI v1)] σ Q
def KX12_keep (X : Cx) (σ : Sg) (Q : Int → Sg → Prop) : Prop := CC X mX12_keep [.ref (cxA X 69)] σ Q
def KX12_recall (X : Cx) (v1 : Int) (σ : Sg) (Q : Int → Sg → Prop) : Prop := CC X mX12_recall [.ref (cxA X 69), .int (gI v1)] σ Q
def KX12_kept (X : Cx) (v1 : Int) (v2 : Int) (σ : Sg) (Q : Int → Sg → Prop) : Prop := CC X mX12_kept [.ref (cxA X 69), .int (gI v1), .int (gI v2)] σ Q
def KX12_offer (X : Cx) (v1 : Int) (v2 : Int) (v3 : Int) (v4 : Int) (v5 : Int) (σ : Sg) (Q : Int → Sg → Prop) : Prop := CC X mX12_offer [.ref (cxA X 69), .int (gI v1), .int (gI v2), .int (gI v3), .int (gI v4), .int (gI v5)] σ Q
def KX12_isAhead (X : Cx) (v1 : Int) (v2 : Int) (σ : Sg) (Q : Int → Sg → Prop) : Prop := CC X mX12_isAhead [.ref (cxA X 69), .int (gI v1), .int (gI v2)] σ Q
def KX12_settle (X : Cx) (v1 : Int) (σ : Sg) (Q : Int → Sg → Prop) : Prop := CC X mX12_settle [.ref (cxA X 69), .int (gI v1)] σ Q
def KX12_cheapestLeft (X : Cx) (σ : Sg) (Q : Int → Sg → Prop) : Prop := CC X mX12_cheapestLeft [.ref (cxA X 69)] σ Q
def KX12_search (X : Cx) (v1 : Int) (σ : Sg) (Q : Int → Sg → Prop) : Prop := CC X mX12_search [.ref (cxA X 69), .int (gI v1)] σ Q
def KX12_areWords (X : Cx) (v0 : Int) (σ : Sg) (Q : Int → Sg → Prop) : Prop := CC X mX12_areWords [.int (gI v0)] σ Q
def KX12_cheapest (X : Cx) (v1 : Int) (v2 : Int) (v3 : Int) (σ : Sg) (Q : Int → Sg → Prop) : Prop := CC X mX12_cheapest [.ref (cxA X 69), .int (gI v1), .int (gI v2), .int (gI v3)] σ Q
def KX12_sets (X : Cx) (v1 : Int) (σ : Sg) (Q : Int → Sg → Prop) : Prop := CC X mX12_sets [.ref (cxA X 69), .int (gI v1)] σ Q
def KX12_quick (X : Cx) (v1 : Int) (σ : Sg) (Q : Int → Sg → Prop) : Prop := CC X mX12_quick [.ref (cxA X 69), .int (gI v1)] σ Q
def KX12_howMany (X : Cx) (v1 : Int) (v2 : Int) (σ : Sg) (Q : Int → Sg → Prop) : Prop := CC X mX12_howMany [.ref (cxA X 69), .int (gI v1), .int (gI v2)] σ Q
def KX12_tiesTo (X : Cx) (v1 : Int) (σ : Sg) (Q : Int → Sg → Prop) : Prop := CC X mX12_tiesTo [.ref (cxA X 69), .int (gI v1)] σ Q
def KX12_areAlike (X : Cx) (v1 : Int) (v2 : Int) (σ : Sg) (Q : Int → Sg → Prop) : Prop := CC X mX12_areAlike [.ref (cxA X 69), .int (gI v1), .int (gI v2)] σ Q
def KX12_findTwins (X : Cx) (σ : Sg) (Q : Int → Sg → Prop) : Prop := CC X mX12_findTwins [.ref (cxA X 69)] σ Q
def KX12_twin (X : Cx) (v1 : Int) (v2 : Int) (σ : Sg) (Q : Int → Sg → Prop) : Prop := CC X mX12_twin [.ref (cxA X 69), .int (gI v1), .int (gI v2)] σ Q
def KX12_breaks (X : Cx) (σ : Sg) (Q : Int → Sg → Prop) : Prop := CC X mX12_breaks [.ref (cxA X 69)] σ Q
def KX12_findSaid (X : Cx) (σ : Sg) (Q : Int → Sg → Prop) : Prop := CC X mX12_findSaid [.ref (cxA X 69)] σ Q
def KX12_think (X : Cx) (v1 : Int) (σ : Sg) (Q : Int → Sg → Prop) : Prop := CC X mX12_think [.ref (cxA X 69), .int (gI v1)] σ Q
def KX12_hears (X : Cx) (v1 : Int) (v2 : Int) (σ : Sg) (Q : Int → Sg → Prop) : Prop := CC X mX12_hears [.ref (cxA X 69), .int (gI v1), .int (gI v2)] σ Q
def KX12_tells (X : Cx) (v1 : Int) (v2 : Int) (σ : Sg) (Q : Int → Sg → Prop) : Prop := CC X mX12_tells [.ref (cxA X 69), .int (gI v1), .int (gI v2)] σ Q
def KX12_ends (X : Cx) (σ : Sg) (Q : Int → Sg → Prop) : Prop := CC X mX12_ends [.ref (cxA X 69)] σ Q
def KX12_tryWord (X : Cx) (v1 : Int) (v2 : Int) (v3 : Int) (σ : Sg) (Q : Int → Sg → Prop) : Prop := CC X mX12_tryWord [.ref (cxA X 69), .int (gI v1), .int (gI v2), .int (gI v3)] σ Q
def KX12_wrong (X : Cx) (v1 : Int) (σ : Sg) (Q : Int → Sg → Prop) : Prop := CC X mX12_wrong [.ref (cxA X 69), .int (gI v1)] σ Q
def KX12_name (X : Cx) (v1 : Int) (σ : Sg) (Q : Int → Sg → Prop) : Prop := CC X mX12_name [.ref (cxA X 69), .int (gI v1)] σ Q
def KX12_hush (X : Cx) (σ : Sg) (Q : Int → Sg → Prop) : Prop := CC X mX12_hush [.ref (cxA X 69)] σ Q
def KX12_talk (X : Cx) (v1 : Int) (σ : Sg) (Q : Int → Sg → Prop) : Prop := CC X mX12_talk [.ref (cxA X 69), .int (gI v1)] σ Q
def KX12_worthOf (X : Cx) (v1 : Int) (σ : Sg) (Q : Int → Sg → Prop) : Prop := CC X mX12_worthOf [.ref (cxA X 69), .int (gI v1)] σ Q
def KX12_worth (X : Cx) (v1 : Int) (v2 : Int) (σ : Sg) (Q : Int → Sg → Prop) : Prop := CC X mX12_worth [.ref (cxA X 69), .int (gI v1), .int (gI v2)] σ Q
def KX12_count (X : Cx) (v1 : Int) (σ : Sg) (Q : Int → Sg → Prop) : Prop := CC X mX12_count [.ref (cxA X 69), .int (gI v1)] σ Q
theorem ok_J6_bitCount_0f7a4 : okB mJ6_bitCount_0f7a4 1 := ⟨gm_3 40 rfl rfl, gm_1 19 rfl rfl, ⟨by decide +kernel, by decide +kernel, by decide +kernel⟩, rfl, rfl⟩
theorem ok2_J6_bitCount_0f7a4 : Cond.static yJ6_bitCount_0f7a4 ∈ gdT := gm_3 39 rfl rfl
theorem ok_J6_numberOfTrailingZeros_0f7a4 : okB mJ6_numberOfTrailingZeros_0f7a4 1 := ⟨gm_3 183 rfl rfl, gm_1 19 rfl rfl, ⟨by decide +kernel, by decide +kernel, by decide +kernel⟩, rfl, rfl⟩
theorem ok2_J6_numberOfTrailingZeros_0f7a4 : Cond.static yJ6_numberOfTrailingZeros_0f7a4 ∈ gdT := gm_3 182 rfl rfl
theorem ok_J7_fill_53178 : okB mJ7_fill_53178 2 := ⟨gm_2 14 rfl rfl, gm_1 11 rfl rfl, ⟨by decide +kernel, by decide +kernel, by decide +kernel⟩, rfl, rfl⟩
theorem ok2_J7_fill_53178 : Cond.static yJ7_fill_53178 ∈ gdT := gm_2 13 rfl rfl
theorem ok_X0_find : okB mX0_find 3 := ⟨gm_4 63 rfl rfl, gm_1 6 rfl rfl, ⟨by decide +kernel, by decide +kernel, by decide +kernel⟩, rfl, rfl⟩
theorem ok2_X0_find : Cond.instanceMethod yX0_find ∈ gdT ∧ Cond.selects yX0_find.cls yX0_find yX0_find ∈ gdT := ⟨gm_4 61 rfl rfl, gm_4 62 rfl rfl⟩
theorem ok_X0_tryMark : okB mX0_tryMark 4 := ⟨gm_4 68 rfl rfl, gm_1 6 rfl rfl, ⟨by decide +kernel, by decide +kernel, by decide +kernel⟩, rfl, rfl⟩
theorem ok2_X0_tryMark : Cond.instanceMethod yX0_tryMark ∈ gdT ∧ Cond.selects yX0_tryMark.cls yX0_tryMark yX0_tryMark ∈ gdT := ⟨gm_4 67 rfl rfl, gm_s 29 rfl rfl⟩
theorem ok_X10_areWords : okB mX10_areWords 1 := ⟨gm_3 72 rfl rfl, gm_1 13 rfl rfl, ⟨by decide +kernel, by decide +kernel, by decide +kernel⟩, rfl, rfl⟩
theorem ok2_X10_areWords : Cond.static yX10_areWords ∈ gdT := gm_3 71 rfl rfl
theorem ok_X10_firstLike : okB mX10_firstLike 1 := ⟨gm_4 9 rfl rfl, gm_1 13 rfl rfl, ⟨by decide +kernel, by decide +kernel, by decide +kernel⟩, rfl, rfl⟩
theorem ok2_X10_firstLike : Cond.static yX10_firstLike ∈ gdT := gm_4 8 rfl rfl
theorem ok_X10_isKnown : okB mX10_isKnown 2 := ⟨gm_3 89 rfl rfl, gm_1 13 rfl rfl, ⟨by decide +kernel, by decide +kernel, by decide +kernel⟩, rfl, rfl⟩
theorem ok2_X10_isKnown : Cond.static yX10_isKnown ∈ gdT := gm_3 88 rfl rfl
theorem ok_X10_isSpelt : okB mX10_isSpelt 4 := ⟨gm_2 164 rfl rfl, gm_1 13 rfl rfl, ⟨by decide +kernel, by decide +kernel, by decide +kernel⟩, rfl, rfl⟩
theorem ok2_X10_isSpelt : Cond.static yX10_isSpelt ∈ gdT := gm_2 163 rfl rfl
theorem ok_X10_join : okB mX10_join 3 := ⟨gm_3 46 rfl rfl, gm_1 13 rfl rfl, ⟨by decide +kernel, by decide +kernel, by decide +kernel⟩, rfl, rfl⟩
theorem ok2_X10_join : Cond.static yX10_join ∈ gdT := gm_3 45 rfl rfl
theorem ok_X10_lastLike : okB mX10_lastLike 1 := ⟨gm_4 14 rfl rfl, gm_1 13 rfl rfl, ⟨by decide +kernel, by decide +kernel, by decide +kernel⟩, rfl, rfl⟩
theorem ok2_X10_lastLike : Cond.static yX10_lastLike ∈ gdT := gm_4 13 rfl rfl
theorem ok_X10_numbers : okB mX10_numbers 1 := ⟨gm_2 218 rfl rfl, gm_1 13 rfl rfl, ⟨by decide +kernel, by decide +kernel, by decide +kernel⟩, rfl, rfl⟩
theorem ok2_X10_numbers : Cond.static yX10_numbers ∈ gdT := gm_2 217 rfl rfl
theorem ok_X10_parts : okB mX10_parts 1 := ⟨gm_2 212 rfl rfl, gm_1 13 rfl rfl, ⟨by decide +kernel, by decide +kernel, by decide +kernel⟩, rfl, rfl⟩
theorem ok2_X10_parts : Cond.static yX10_parts ∈ gdT := gm_2 211 rfl rfl
theorem ok_X10_spelt : okB mX10_spelt 3 := ⟨gm_2 161 rfl rfl, gm_1 13 rfl rfl, ⟨by decide +kernel, by decide +kernel, by decide +kernel⟩, rfl, rfl⟩
theorem ok2_X10_spelt : Cond.static yX10_spelt ∈ gdT := gm_2 160 rfl rfl
theorem ok_X11_breaks : okB mX11_breaks 0 := ⟨gm_3 193 rfl rfl, gm_1 1 rfl rfl, ⟨by decide +kernel, by decide +kernel, by decide +kernel⟩, rfl, rfl⟩
theorem ok2_X11_breaks : Cond.instanceMethod yX11_breaks ∈ gdT ∧ Cond.selects yX11_breaks.cls yX11_breaks yX11_breaks ∈ gdT := ⟨gm_3 191 rfl rfl, gm_3 192 rfl rfl⟩
theorem ok_X11_cheapest : okB mX11_cheapest 3 := ⟨gm_3 68 rfl rfl, gm_1 1 rfl rfl, ⟨by decide +kernel, by decide +kernel, by decide +kernel⟩, rfl, rfl⟩
theorem ok2_X11_cheapest : Cond.instanceMethod yX11_cheapest ∈ gdT ∧ Cond.selects yX11_cheapest.cls yX11_cheapest yX11_cheapest ∈ gdT := ⟨gm_3 66 rfl rfl, gm_3 67 rfl rfl⟩
theorem ok_X11_count : okB mX11_count 1 := ⟨gm_4 75 rfl rfl, gm_1 1 rfl rfl, ⟨by decide +kernel, by decide +kernel, by decide +kernel⟩, rfl, rfl⟩
theorem ok2_X11_count : Cond.instanceMethod yX11_count ∈ gdT ∧ Cond.selects yX11_count.cls yX11_count yX11_count ∈ gdT := ⟨gm_4 73 rfl rfl, gm_4 74 rfl rfl⟩
theorem ok_X11_ends : okB mX11_ends 0 := ⟨gm_3 237 rfl rfl, gm_1 1 rfl rfl, ⟨by decide +kernel, by decide +kernel, by decide +kernel⟩, rfl, rfl⟩
theorem ok2_X11_ends : Cond.instanceMethod yX11_ends ∈ gdT ∧ Cond.selects yX11_ends.cls yX11_ends yX11_ends ∈ gdT := ⟨gm_3 235 rfl rfl, gm_3 236 rfl rfl⟩
theorem ok_X11_erase : okB mX11_erase 0 := ⟨gm_2 125 rfl rfl, gm_1 1 rfl rfl, ⟨by decide +kernel, by decide +kernel, by decide +kernel⟩, rfl, rfl⟩
theorem ok2_X11_erase : Cond.instanceMethod yX11_erase ∈ gdT ∧ Cond.selects yX11_erase.cls yX11_erase yX11_erase ∈ gdT := ⟨gm_2 123 rfl rfl, gm_2 124 rfl rfl⟩
theorem ok_X11_fault : okB mX11_fault 0 := ⟨gm_2 133 rfl rfl, gm_1 1 rfl rfl, ⟨by decide +kernel, by decide +kernel, by decide +kernel⟩, rfl, rfl⟩
theorem ok2_X11_fault : Cond.instanceMethod yX11_fault ∈ gdT ∧ Cond.selects yX11_fault.cls yX11_fault yX11_fault ∈ gdT := ⟨gm_2 131 rfl rfl, gm_2 132 rfl rfl⟩
theorem ok_X11_firstBreak : okB mX11_firstBreak 1 := ⟨gm_3 197 rfl rfl, gm_1 1 rfl rfl, ⟨by decide +kernel, by decide +kernel, by decide +kernel⟩, rfl, rfl⟩
theorem ok2_X11_firstBreak : Cond.instanceMethod yX11_firstBreak ∈ gdT ∧ Cond.selects yX11_firstBreak.cls yX11_firstBreak yX11_firstBreak ∈ gdT := ⟨gm_3 196 rfl rfl, gm_s 24 rfl rfl⟩
theorem ok_X11_hears : okB mX11_hears 2 := ⟨gm_3 201 rfl rfl, gm_1 1 rfl rfl, ⟨by decide +kernel, by decide +kernel, by decide +kernel⟩, rfl, rfl⟩
theorem ok2_X11_hears : Cond.instanceMethod yX11_hears ∈ gdT ∧ Cond.selects yX11_hears.cls yX11_hears yX11_hears ∈ gdT := ⟨gm_3 199 rfl rfl, gm_3 200 rfl rfl⟩
theorem ok_X11_hush : okB mX11_hush 0 := ⟨gm_4 36 rfl rfl, gm_1 1 rfl rfl, ⟨by decide +kernel, by decide +kernel, by decide +kernel⟩, rfl, rfl⟩
theorem ok2_X11_hush : Cond.instanceMethod yX11_hush ∈ gdT ∧ Cond.selects yX11_hush.cls yX11_hush yX11_hush ∈ gdT := ⟨gm_4 34 rfl rfl, gm_4 35 rfl rfl⟩
theorem ok_X11_isWithin : okB mX11_isWithin 2 := ⟨gm_2 64 rfl rfl, gm_1 1 rfl rfl, ⟨by decide +kernel, by decide +kernel, by decide +kernel⟩, rfl, rfl⟩
theorem ok2_X11_isWithin : Cond.static yX11_isWithin ∈ gdT := gm_2 63 rfl rfl
theorem ok_X11_keep : okB mX11_keep 0 := ⟨gm_3 55 rfl rfl, gm_1 1 rfl rfl, ⟨by decide +kernel, by decide +kernel, by decide +kernel⟩, rfl, rfl⟩
theorem ok2_X11_keep : Cond.instanceMethod yX11_keep ∈ gdT ∧ Cond.selects yX11_keep.cls yX11_keep yX11_keep ∈ gdT := ⟨gm_3 53 rfl rfl, gm_3 54 rfl rfl⟩
theorem ok_X11_kept : okB mX11_kept 2 := ⟨gm_3 64 rfl rfl, gm_1 1 rfl rfl, ⟨by decide +kernel, by decide +kernel, by decide +kernel⟩, rfl, rfl⟩
theorem ok2_X11_kept : Cond.instanceMethod yX11_kept ∈ gdT ∧ Cond.selects yX11_kept.cls yX11_kept yX11_kept ∈ gdT := ⟨gm_3 62 rfl rfl, gm_3 63 rfl rfl⟩
theorem ok_X11_name : okB mX11_name 1 := ⟨gm_4 28 rfl rfl, gm_1 1 rfl rfl, ⟨by decide +kernel, by decide +kernel, by decide +kernel⟩, rfl, rfl⟩
theorem ok2_X11_name : Cond.instanceMethod yX11_name ∈ gdT ∧ Cond.selects yX11_name.cls yX11_name yX11_name ∈ gdT := ⟨gm_4 26 rfl rfl, gm_4 27 rfl rfl⟩
theorem ok_X11_of : okB mX11_of 2 := ⟨gm_2 104 rfl rfl, gm_1 1 rfl rfl, ⟨by decide +kernel, by decide +kernel, by decide +kernel⟩, rfl, rfl⟩
theorem ok2_X11_of : Cond.instanceMethod yX11_of ∈ gdT ∧ Cond.selects yX11_of.cls yX11_of yX11_of ∈ gdT := ⟨gm_2 102 rfl rfl, gm_2 103 rfl rfl⟩
theorem ok_X11_paint : okB mX11_paint 3 := ⟨gm_2 83 rfl rfl, gm_1 1 rfl rfl, ⟨by decide +kernel, by decide +kernel, by decide +kernel⟩, rfl, rfl⟩
theorem ok2_X11_paint : Cond.instanceMethod yX11_paint ∈ gdT ∧ Cond.selects yX11_paint.cls yX11_paint yX11_paint ∈ gdT := ⟨gm_2 81 rfl rfl, gm_2 82 rfl rfl⟩
theorem ok_X11_price : okB mX11_price 2 := ⟨gm_2 108 rfl rfl, gm_1 1 rfl rfl, ⟨by decide +kernel, by decide +kernel, by decide +kernel⟩, rfl, rfl⟩
theorem ok2_X11_price : Cond.instanceMethod yX11_price ∈ gdT ∧ Cond.selects yX11_price.cls yX11_price yX11_price ∈ gdT := ⟨gm_2 106 rfl rfl, gm_2 107 rfl rfl⟩
theorem ok_X11_quick : okB mX11_quick 1 := ⟨gm_3 149 rfl rfl, gm_1 1 rfl rfl, ⟨by decide +kernel, by decide +kernel, by decide +kernel⟩, rfl, rfl⟩
theorem ok2_X11_quick : Cond.instanceMethod yX11_quick ∈ gdT ∧ Cond.selects yX11_quick.cls yX11_quick yX11_quick ∈ gdT := ⟨gm_3 147 rfl rfl, gm_3 148 rfl rfl⟩
theorem ok_X11_says : okB mX11_says 1 := ⟨gm_2 225 rfl rfl, gm_1 1 rfl rfl, ⟨by decide +kernel, by decide +kernel, by decide +kernel⟩, rfl, rfl⟩
theorem ok2_X11_says : Cond.instanceMethod yX11_says ∈ gdT ∧ Cond.selects yX11_says.cls yX11_says yX11_says ∈ gdT := ⟨gm_2 223 rfl rfl, gm_2 224 rfl rfl⟩
theorem ok_X11_sets : okB mX11_sets 1 := ⟨gm_3 145 rfl rfl, gm_1 1 rfl rfl, ⟨by decide +kernel, by decide +kernel, by decide +kernel⟩, rfl, rfl⟩
theorem ok2_X11_sets : Cond.instanceMethod yX11_sets ∈ gdT ∧ Cond.selects yX11_sets.cls yX11_sets yX11_sets ∈ gdT := ⟨gm_3 143 rfl rfl, gm_3 144 rfl rfl⟩
theorem ok_X11_talk : okB mX11_talk 1 := ⟨gm_4 40 rfl rfl, gm_1 1 rfl rfl, ⟨by decide +kernel, by decide +kernel, by decide +kernel⟩, rfl, rfl⟩
theorem ok2_X11_talk : Cond.instanceMethod yX11_talk ∈ gdT ∧ Cond.selects yX11_talk.cls yX11_talk yX11_talk ∈ gdT := ⟨gm_4 38 rfl rfl, gm_4 39 rfl rfl⟩
theorem ok_X11_tells : okB mX11_tells 2 := ⟨gm_3 232 rfl rfl, gm_1 1 rfl rfl, ⟨by decide +kernel, by decide +kernel, by decide +kernel⟩, rfl, rfl⟩
theorem ok2_X11_tells : Cond.instanceMethod yX11_tells ∈ gdT ∧ Cond.selects yX11_tells.cls yX11_tells yX11_tells ∈ gdT := ⟨gm_3 230 rfl rfl, gm_3 231 rfl rfl⟩
theorem ok_X11_thing : okB mX11_thing 4 := ⟨gm_2 56 rfl rfl, gm_1 1 rfl rfl, ⟨by decide +kernel, by decide +kernel, by decide +kernel⟩, rfl, rfl⟩
theorem ok2_X11_thing : Cond.instanceMethod yX11_thing ∈ gdT ∧ Cond.selects yX11_thing.cls yX11_thing yX11_thing ∈ gdT := ⟨gm_2 54 rfl rfl, gm_2 55 rfl rfl⟩
theorem ok_X11_think : okB mX11_think 1 := ⟨gm_3 205 rfl rfl, gm_1 1 rfl rfl, ⟨by decide +kernel, by decide +kernel, by decide +kernel⟩, rfl, rfl⟩
theorem ok2_X11_think : Cond.instanceMethod yX11_think ∈ gdT ∧ Cond.selects yX11_think.cls yX11_think yX11_think ∈ gdT := ⟨gm_3 204 rfl rfl, gm_s 25 rfl rfl⟩
theorem ok_X11_tie : okB mX11_tie 2 := ⟨gm_2 91 rfl rfl, gm_1 1 rfl rfl, ⟨by decide +kernel, by decide +kernel, by decide +kernel⟩, rfl, rfl⟩
theorem ok2_X11_tie : Cond.instanceMethod yX11_tie ∈ gdT ∧ Cond.selects yX11_tie.cls yX11_tie yX11_tie ∈ gdT := ⟨gm_2 89 rfl rfl, gm_2 90 rfl rfl⟩
theorem ok_X11_told : okB mX11_told 2 := ⟨gm_2 229 rfl rfl, gm_1 1 rfl rfl, ⟨by decide +kernel, by decide +kernel, by decide +kernel⟩, rfl, rfl⟩
theorem ok2_X11_told : Cond.instanceMethod yX11_told ∈ gdT ∧ Cond.selects yX11_told.cls yX11_told yX11_told ∈ gdT := ⟨gm_2 228 rfl rfl, gm_s 5 rfl rfl⟩
theorem ok_X11_twin : okB mX11_twin 2 := ⟨gm_3 161 rfl rfl, gm_1 1 rfl rfl, ⟨by decide +kernel, by decide +kernel, by decide +kernel⟩, rfl, rfl⟩
theorem ok2_X11_twin : Cond.instanceMethod yX11_twin ∈ gdT ∧ Cond.selects yX11_twin.cls yX11_twin yX11_twin ∈ gdT := ⟨gm_3 159 rfl rfl, gm_3 160 rfl rfl⟩
theorem ok_X11_waysWith : okB mX11_waysWith 1 := ⟨gm_3 77 rfl rfl, gm_1 1 rfl rfl, ⟨by decide +kernel, by decide +kernel, by decide +kernel⟩, rfl, rfl⟩
theorem ok2_X11_waysWith : Cond.instanceMethod yX11_waysWith ∈ gdT ∧ Cond.selects yX11_waysWith.cls yX11_waysWith yX11_waysWith ∈ gdT := ⟨gm_3 76 rfl rfl, gm_s 12 rfl rfl⟩
theorem ok_X11_worth : okB mX11_worth 2 := ⟨gm_4 54 rfl rfl, gm_1 1 rfl rfl, ⟨by decide +kernel, by decide +kernel, by decide +kernel⟩, rfl, rfl⟩
theorem ok2_X11_worth : Cond.instanceMethod yX11_worth ∈ gdT ∧ Cond.selects yX11_worth.cls yX11_worth yX11_worth ∈ gdT := ⟨gm_4 52 rfl rfl, gm_4 53 rfl rfl⟩
theorem ok_X11_write : okB mX11_write 2 := ⟨gm_2 112 rfl rfl, gm_1 1 rfl rfl, ⟨by decide +kernel, by decide +kernel, by decide +kernel⟩, rfl, rfl⟩
theorem ok2_X11_write : Cond.instanceMethod yX11_write ∈ gdT ∧ Cond.selects yX11_write.cls yX11_write yX11_write ∈ gdT := ⟨gm_2 110 rfl rfl, gm_2 111 rfl rfl⟩
theorem ok_X11_wrong : okB mX11_wrong 1 := ⟨gm_4 1 rfl rfl, gm_1 1 rfl rfl, ⟨by decide +kernel, by decide +kernel, by decide +kernel⟩, rfl, rfl⟩
theorem ok2_X11_wrong : Cond.instanceMethod yX11_wrong ∈ gdT ∧ Cond.selects yX11_wrong.cls yX11_wrong yX11_wrong ∈ gdT := ⟨gm_3 239 rfl rfl, gm_4 0 rfl rfl⟩
theorem ok_X12_allOf : okB mX12_allOf 2 := ⟨gm_5 68 rfl rfl, gm_1 12 rfl rfl, ⟨by decide +kernel, by decide +kernel, by decide +kernel⟩, rfl, rfl⟩
theorem ok2_X12_allOf : Cond.instanceMethod yX12_allOf ∈ gdT ∧ Cond.selects yX12_allOf.cls yX12_allOf yX12_allOf ∈ gdT := ⟨gm_5 67 rfl rfl, gm_s 38 rfl rfl⟩
theorem ok_X12_areAlike : okB mX12_areAlike 2 := ⟨gm_5 147 rfl rfl, gm_1 12 rfl rfl, ⟨by decide +kernel, by decide +kernel, by decide +kernel⟩, rfl, rfl⟩
theorem ok2_X12_areAlike : Cond.instanceMethod yX12_areAlike ∈ gdT ∧ Cond.selects yX12_areAlike.cls yX12_areAlike yX12_areAlike ∈ gdT := ⟨gm_5 146 rfl rfl, gm_s 51 rfl rfl⟩
theorem ok_X12_areWords : okB mX12_areWords 1 := ⟨gm_5 107 rfl rfl, gm_1 12 rfl rfl, ⟨by decide +kernel, by decide +kernel, by decide +kernel⟩, rfl, rfl⟩
theorem ok2_X12_areWords : Cond.static yX12_areWords ∈ gdT := gm_5 106 rfl rfl
theorem ok_X12_besides : okB mX12_besides 1 := ⟨gm_5 0 rfl rfl, gm_1 12 rfl rfl, ⟨by decide +kernel, by decide +kernel, by decide +kernel⟩, rfl, rfl⟩
theorem ok2_X12_besides : Cond.instanceMethod yX12_besides ∈ gdT ∧ Cond.selects yX12_besides.cls yX12_besides yX12_besides ∈ gdT := ⟨gm_4 239 rfl rfl, gm_s 32 rfl rfl⟩
theorem ok_X12_bits : okB mX12_bits 1 := ⟨gm_4 232 rfl rfl, gm_1 12 rfl rfl, ⟨by decide +kernel, by decide +kernel, by decide +kernel⟩, rfl, rfl⟩
theorem ok2_X12_bits : Cond.static yX12_bits ∈ gdT := gm_4 231 rfl rfl
theorem ok_X12_breaks : okB mX12_breaks 0 := ⟨gm_5 159 rfl rfl, gm_1 12 rfl rfl, ⟨by decide +kernel, by decide +kernel, by decide +kernel⟩, rfl, rfl⟩
theorem ok2_X12_breaks : Cond.instanceMethod yX12_breaks ∈ gdT ∧ Cond.selects yX12_breaks.cls yX12_breaks yX12_breaks ∈ gdT := ⟨gm_5 157 rfl rfl, gm_5 158 rfl rfl⟩
theorem ok_X12_bySize : okB mX12_bySize 2 := ⟨gm_5 80 rfl rfl, gm_1 12 rfl rfl, ⟨by decide +kernel, by decide +kernel, by decide +kernel⟩, rfl, rfl⟩
theorem ok2_X12_bySize : Cond.instanceMethod yX12_bySize ∈ gdT ∧ Cond.selects yX12_bySize.cls yX12_bySize yX12_bySize ∈ gdT := ⟨gm_5 79 rfl rfl, gm_s 41 rfl rfl⟩
theorem ok_X12_cheapest : okB mX12_cheapest 3 := ⟨gm_5 104 rfl rfl, gm_1 12 rfl rfl, ⟨by decide +kernel, by decide +kernel, by decide +kernel⟩, rfl, rfl⟩
theorem ok2_X12_cheapest : Cond.instanceMethod yX12_cheapest ∈ gdT ∧ Cond.selects yX12_cheapest.cls yX12_cheapest yX12_cheapest ∈ gdT := ⟨gm_5 102 rfl rfl, gm_5 103 rfl rfl⟩
theorem ok_X12_cheapestLeft : okB mX12_cheapestLeft 0 := ⟨gm_5 119 rfl rfl, gm_1 12 rfl rfl, ⟨by decide +kernel, by decide +kernel, by decide +kernel⟩, rfl, rfl⟩
theorem ok2_X12_cheapestLeft : Cond.instanceMethod yX12_cheapestLeft ∈ gdT ∧ Cond.selects yX12_cheapestLeft.cls yX12_cheapestLeft yX12_cheapestLeft ∈ gdT := ⟨gm_5 118 rfl rfl, gm_s 47 rfl rfl⟩
theorem ok_X12_costTold : okB mX12_costTold 0 := ⟨gm_5 88 rfl rfl, gm_1 12 rfl rfl, ⟨by decide +kernel, by decide +kernel, by decide +kernel⟩, rfl, rfl⟩
theorem ok2_X12_costTold : Cond.instanceMethod yX12_costTold ∈ gdT ∧ Cond.selects yX12_costTold.cls yX12_costTold yX12_costTold ∈ gdT := ⟨gm_5 87 rfl rfl, gm_s 43 rfl rfl⟩
theorem ok_X12_count : okB mX12_count 1 := ⟨gm_5 211 rfl rfl, gm_1 12 rfl rfl, ⟨by decide +kernel, by decide +kernel, by decide +kernel⟩, rfl, rfl⟩
theorem ok2_X12_count : Cond.instanceMethod yX12_count ∈ gdT ∧ Cond.selects yX12_count.cls yX12_count yX12_count ∈ gdT := ⟨gm_5 209 rfl rfl, gm_5 210 rfl rfl⟩
theorem ok_X12_ends : okB mX12_ends 0 := ⟨gm_5 179 rfl rfl, gm_1 12 rfl rfl, ⟨by decide +kernel, by decide +kernel, by decide +kernel⟩, rfl, rfl⟩
theorem ok2_X12_ends : Cond.instanceMethod yX12_ends ∈ gdT ∧ Cond.selects yX12_ends.cls yX12_ends yX12_ends ∈ gdT := ⟨gm_5 177 rfl rfl, gm_5 178 rfl rfl⟩
theorem ok_X12_erase : okB mX12_erase 0 := ⟨gm_5 13 rfl rfl, gm_1 12 rfl rfl, ⟨by decide +kernel, by decide +kernel, by decide +kernel⟩, rfl, rfl⟩
theorem ok2_X12_erase : Cond.instanceMethod yX12_erase ∈ gdT ∧ Cond.selects yX12_erase.cls yX12_erase yX12_erase ∈ gdT := ⟨gm_5 11 rfl rfl, gm_5 12 rfl rfl⟩
theorem ok_X12_every : okB mX12_every 0 := ⟨gm_5 76 rfl rfl, gm_1 12 rfl rfl, ⟨by decide +kernel, by decide +kernel, by decide +kernel⟩, rfl, rfl⟩
theorem ok2_X12_every : Cond.instanceMethod yX12_every ∈ gdT ∧ Cond.selects yX12_every.cls yX12_every yX12_every ∈ gdT := ⟨gm_5 75 rfl rfl, gm_s 40 rfl rfl⟩
theorem ok_X12_fails : okB mX12_fails 0 := ⟨gm_5 53 rfl rfl, gm_1 12 rfl rfl, ⟨by decide +kernel, by decide +kernel, by decide +kernel⟩, rfl, rfl⟩
theorem ok2_X12_fails : Cond.instanceMethod yX12_fails ∈ gdT ∧ Cond.selects yX12_fails.cls yX12_fails yX12_fails ∈ gdT := ⟨gm_5 52 rfl rfl, gm_s 36 rfl rfl⟩
theorem ok_X12_fault : okB mX12_fault 0 := ⟨gm_5 17 rfl rfl, gm_1 12 rfl rfl, ⟨by decide +kernel, by decide +kernel, by decide +kernel⟩, rfl, rfl⟩
theorem ok2_X12_fault : Cond.instanceMethod yX12_fault ∈ gdT ∧ Cond.selects yX12_fault.cls yX12_fault yX12_fault ∈ gdT := ⟨gm_5 15 rfl rfl, gm_5 16 rfl rfl⟩
theorem ok_X12_findSaid : okB mX12_findSaid 0 := ⟨gm_5 171 rfl rfl, gm_1 12 rfl rfl, ⟨by decide +kernel, by decide +kernel, by decide +kernel⟩, rfl, rfl⟩
theorem ok2_X12_findSaid : Cond.instanceMethod yX12_findSaid ∈ gdT ∧ Cond.selects yX12_findSaid.cls yX12_findSaid yX12_findSaid ∈ gdT := ⟨gm_5 170 rfl rfl, gm_s 55 rfl rfl⟩
theorem ok_X12_findTwins : okB mX12_findTwins 0 := ⟨gm_5 143 rfl rfl, gm_1 12 rfl rfl, ⟨by decide +kernel, by decide +kernel, by decide +kernel⟩, rfl, rfl⟩
theorem ok2_X12_findTwins : Cond.instanceMethod yX12_findTwins ∈ gdT ∧ Cond.selects yX12_findTwins.cls yX12_findTwins yX12_findTwins ∈ gdT := ⟨gm_5 142 rfl rfl, gm_s 50 rfl rfl⟩
theorem ok_X12_hears : okB mX12_hears 2 := ⟨gm_5 163 rfl rfl, gm_1 12 rfl rfl, ⟨by decide +kernel, by decide +kernel, by decide +kernel⟩, rfl, rfl⟩
theorem ok2_X12_hears : Cond.instanceMethod yX12_hears ∈ gdT ∧ Cond.selects yX12_hears.cls yX12_hears yX12_hears ∈ gdT := ⟨gm_5 161 rfl rfl, gm_5 162 rfl rfl⟩
theorem ok_X12_howMany : okB mX12_howMany 2 := ⟨gm_5 151 rfl rfl, gm_1 12 rfl rfl, ⟨by decide +kernel, by decide +kernel, by decide +kernel⟩, rfl, rfl⟩
theorem ok2_X12_howMany : Cond.instanceMethod yX12_howMany ∈ gdT ∧ Cond.selects yX12_howMany.cls yX12_howMany yX12_howMany ∈ gdT := ⟨gm_5 150 rfl rfl, gm_s 52 rfl rfl⟩
theorem ok_X12_hush : okB mX12_hush 0 := ⟨gm_5 195 rfl rfl, gm_1 12 rfl rfl, ⟨by decide +kernel, by decide +kernel, by decide +kernel⟩, rfl, rfl⟩
theorem ok2_X12_hush : Cond.instanceMethod yX12_hush ∈ gdT ∧ Cond.selects yX12_hush.cls yX12_hush yX12_hush ∈ gdT := ⟨gm_5 193 rfl rfl, gm_5 194 rfl rfl⟩
theorem ok_X12_in : okB mX12_in 3 := ⟨gm_4 213 rfl rfl, gm_1 12 rfl rfl, ⟨by decide +kernel, by decide +kernel, by decide +kernel⟩, rfl, rfl⟩
theorem ok2_X12_in : Cond.static yX12_in ∈ gdT := gm_4 212 rfl rfl
theorem ok_X12_isAhead : okB mX12_isAhead 2 := ⟨gm_5 127 rfl rfl, gm_1 12 rfl rfl, ⟨by decide +kernel, by decide +kernel, by decide +kernel⟩, rfl, rfl⟩
theorem ok2_X12_isAhead : Cond.instanceMethod yX12_isAhead ∈ gdT ∧ Cond.selects yX12_isAhead.cls yX12_isAhead yX12_isAhead ∈ gdT := ⟨gm_5 126 rfl rfl, gm_s 49 rfl rfl⟩
theorem ok_X12_isRead : okB mX12_isRead 0 := ⟨gm_5 21 rfl rfl, gm_1 12 rfl rfl, ⟨by decide +kernel, by decide +kernel, by decide +kernel⟩, rfl, rfl⟩
theorem ok2_X12_isRead : Cond.instanceMethod yX12_isRead ∈ gdT ∧ Cond.selects yX12_isRead.cls yX12_isRead yX12_isRead ∈ gdT := ⟨gm_5 20 rfl rfl, gm_s 33 rfl rfl⟩
theorem ok_X12_isThing : okB mX12_isThing 1 := ⟨gm_4 221 rfl rfl, gm_1 12 rfl rfl, ⟨by decide +kernel, by decide +kernel, by decide +kernel⟩, rfl, rfl⟩
theorem ok2_X12_isThing : Cond.instanceMethod yX12_isThing ∈ gdT ∧ Cond.selects yX12_isThing.cls yX12_isThing yX12_isThing ∈ gdT := ⟨gm_4 220 rfl rfl, gm_s 30 rfl rfl⟩
theorem ok_X12_keep : okB mX12_keep 0 := ⟨gm_5 92 rfl rfl, gm_1 12 rfl rfl, ⟨by decide +kernel, by decide +kernel, by decide +kernel⟩, rfl, rfl⟩
theorem ok2_X12_keep : Cond.instanceMethod yX12_keep ∈ gdT ∧ Cond.selects yX12_keep.cls yX12_keep yX12_keep ∈ gdT := ⟨gm_5 90 rfl rfl, gm_5 91 rfl rfl⟩
theorem ok_X12_kept : okB mX12_kept 2 := ⟨gm_5 96 rfl rfl, gm_1 12 rfl rfl, ⟨by decide +kernel, by decide +kernel, by decide +kernel⟩, rfl, rfl⟩
theorem ok2_X12_kept : Cond.instanceMethod yX12_kept ∈ gdT ∧ Cond.selects yX12_kept.cls yX12_kept yX12_kept ∈ gdT := ⟨gm_5 94 rfl rfl, gm_5 95 rfl rfl⟩
theorem ok_X12_leftmost : okB mX12_leftmost 1 := ⟨gm_5 84 rfl rfl, gm_1 12 rfl rfl, ⟨by decide +kernel, by decide +kernel, by decide +kernel⟩, rfl, rfl⟩
theorem ok2_X12_leftmost : Cond.instanceMethod yX12_leftmost ∈ gdT ∧ Cond.selects yX12_leftmost.cls yX12_leftmost yX12_leftmost ∈ gdT := ⟨gm_5 83 rfl rfl, gm_s 42 rfl rfl⟩
theorem ok_X12_made : okB mX12_made 3 := ⟨gm_5 72 rfl rfl, gm_1 12 rfl rfl, ⟨by decide +kernel, by decide +kernel, by decide +kernel⟩, rfl, rfl⟩
theorem ok2_X12_made : Cond.instanceMethod yX12_made ∈ gdT ∧ Cond.selects yX12_made.cls yX12_made yX12_made ∈ gdT := ⟨gm_5 71 rfl rfl, gm_s 39 rfl rfl⟩
theorem ok_X12_meaning : okB mX12_meaning 0 := ⟨gm_5 64 rfl rfl, gm_1 12 rfl rfl, ⟨by decide +kernel, by decide +kernel, by decide +kernel⟩, rfl, rfl⟩
theorem ok2_X12_meaning : Cond.instanceMethod yX12_meaning ∈ gdT ∧ Cond.selects yX12_meaning.cls yX12_meaning yX12_meaning ∈ gdT := ⟨gm_5 63 rfl rfl, gm_s 37 rfl rfl⟩
theorem ok_X12_name : okB mX12_name 1 := ⟨gm_5 191 rfl rfl, gm_1 12 rfl rfl, ⟨by decide +kernel, by decide +kernel, by decide +kernel⟩, rfl, rfl⟩
theorem ok2_X12_name : Cond.instanceMethod yX12_name ∈ gdT ∧ Cond.selects yX12_name.cls yX12_name yX12_name ∈ gdT := ⟨gm_5 189 rfl rfl, gm_5 190 rfl rfl⟩
theorem ok_X12_needs : okB mX12_needs 1 := ⟨gm_5 56 rfl rfl, gm_1 12 rfl rfl, ⟨by decide +kernel, by decide +kernel, by decide +kernel⟩, rfl, rfl⟩
theorem ok2_X12_needs : Cond.static yX12_needs ∈ gdT := gm_5 55 rfl rfl
theorem ok_X12_nextToken : okB mX12_nextToken 0 := ⟨gm_5 25 rfl rfl, gm_1 12 rfl rfl, ⟨by decide +kernel, by decide +kernel, by decide +kernel⟩, rfl, rfl⟩
theorem ok2_X12_nextToken : Cond.instanceMethod yX12_nextToken ∈ gdT ∧ Cond.selects yX12_nextToken.cls yX12_nextToken yX12_nextToken ∈ gdT := ⟨gm_5 24 rfl rfl, gm_s 34 rfl rfl⟩
theorem ok_X12_of : okB mX12_of 2 := ⟨gm_4 236 rfl rfl, gm_1 12 rfl rfl, ⟨by decide +kernel, by decide +kernel, by decide +kernel⟩, rfl, rfl⟩
theorem ok2_X12_of : Cond.instanceMethod yX12_of ∈ gdT ∧ Cond.selects yX12_of.cls yX12_of yX12_of ∈ gdT := ⟨gm_4 234 rfl rfl, gm_4 235 rfl rfl⟩
theorem ok_X12_offer : okB mX12_offer 5 := ⟨gm_5 115 rfl rfl, gm_1 12 rfl rfl, ⟨by decide +kernel, by decide +kernel, by decide +kernel⟩, rfl, rfl⟩
theorem ok2_X12_offer : Cond.instanceMethod yX12_offer ∈ gdT ∧ Cond.selects yX12_offer.cls yX12_offer yX12_offer ∈ gdT := ⟨gm_5 114 rfl rfl, gm_s 46 rfl rfl⟩
theorem ok_X12_paint : okB mX12_paint 3 := ⟨gm_4 217 rfl rfl, gm_1 12 rfl rfl, ⟨by decide +kernel, by decide +kernel, by decide +kernel⟩, rfl, rfl⟩
theorem ok2_X12_paint : Cond.instanceMethod yX12_paint ∈ gdT ∧ Cond.selects yX12_paint.cls yX12_paint yX12_paint ∈ gdT := ⟨gm_4 215 rfl rfl, gm_4 216 rfl rfl⟩
theorem ok_X12_price : okB mX12_price 2 := ⟨gm_5 4 rfl rfl, gm_1 12 rfl rfl, ⟨by decide +kernel, by decide +kernel, by decide +kernel⟩, rfl, rfl⟩
theorem ok2_X12_price : Cond.instanceMethod yX12_price ∈ gdT ∧ Cond.selects yX12_price.cls yX12_price yX12_price ∈ gdT := ⟨gm_5 2 rfl rfl, gm_5 3 rfl rfl⟩
theorem ok_X12_quick : okB mX12_quick 1 := ⟨gm_5 135 rfl rfl, gm_1 12 rfl rfl, ⟨by decide +kernel, by decide +kernel, by decide +kernel⟩, rfl, rfl⟩
theorem ok2_X12_quick : Cond.instanceMethod yX12_quick ∈ gdT ∧ Cond.selects yX12_quick.cls yX12_quick yX12_quick ∈ gdT := ⟨gm_5 133 rfl rfl, gm_5 134 rfl rfl⟩
theorem ok_X12_recall : okB mX12_recall 1 := ⟨gm_5 100 rfl rfl, gm_1 12 rfl rfl, ⟨by decide +kernel, by decide +kernel, by decide +kernel⟩, rfl, rfl⟩
theorem ok2_X12_recall : Cond.instanceMethod yX12_recall ∈ gdT ∧ Cond.selects yX12_recall.cls yX12_recall yX12_recall ∈ gdT := ⟨gm_5 99 rfl rfl, gm_s 44 rfl rfl⟩
theorem ok_X12_says : okB mX12_says 1 := ⟨gm_5 60 rfl rfl, gm_1 12 rfl rfl, ⟨by decide +kernel, by decide +kernel, by decide +kernel⟩, rfl, rfl⟩
theorem ok2_X12_says : Cond.instanceMethod yX12_says ∈ gdT ∧ Cond.selects yX12_says.cls yX12_says yX12_says ∈ gdT := ⟨gm_5 58 rfl rfl, gm_5 59 rfl rfl⟩
theorem ok_X12_search : okB mX12_search 1 := ⟨gm_5 111 rfl rfl, gm_1 12 rfl rfl, ⟨by decide +kernel, by decide +kernel, by decide +kernel⟩, rfl, rfl⟩
theorem ok2_X12_search : Cond.instanceMethod yX12_search ∈ gdT ∧ Cond.selects yX12_search.cls yX12_search yX12_search ∈ gdT := ⟨gm_5 110 rfl rfl, gm_s 45 rfl rfl⟩
theorem ok_X12_sets : okB mX12_sets 1 := ⟨gm_5 131 rfl rfl, gm_1 12 rfl rfl, ⟨by decide +kernel, by decide +kernel, by decide +kernel⟩, rfl, rfl⟩
theorem ok2_X12_sets : Cond.instanceMethod yX12_sets ∈ gdT ∧ Cond.selects yX12_sets.cls yX12_sets yX12_sets ∈ gdT := ⟨gm_5 129 rfl rfl, gm_5 130 rfl rfl⟩
theorem ok_X12_settle : okB mX12_settle 1 := ⟨gm_5 123 rfl rfl, gm_1 12 rfl rfl, ⟨by decide +kernel, by decide +kernel, by decide +kernel⟩, rfl, rfl⟩
theorem ok2_X12_settle : Cond.instanceMethod yX12_settle ∈ gdT ∧ Cond.selects yX12_settle.cls yX12_settle yX12_settle ∈ gdT := ⟨gm_5 122 rfl rfl, gm_s 48 rfl rfl⟩
theorem ok_X12_talk : okB mX12_talk 1 := ⟨gm_5 199 rfl rfl, gm_1 12 rfl rfl, ⟨by decide +kernel, by decide +kernel, by decide +kernel⟩, rfl, rfl⟩
theorem ok2_X12_talk : Cond.instanceMethod yX12_talk ∈ gdT ∧ Cond.selects yX12_talk.cls yX12_talk yX12_talk ∈ gdT := ⟨gm_5 197 rfl rfl, gm_5 198 rfl rfl⟩
theorem ok_X12_tells : okB mX12_tells 2 := ⟨gm_5 175 rfl rfl, gm_1 12 rfl rfl, ⟨by decide +kernel, by decide +kernel, by decide +kernel⟩, rfl, rfl⟩
theorem ok2_X12_tells : Cond.instanceMethod yX12_tells ∈ gdT ∧ Cond.selects yX12_tells.cls yX12_tells yX12_tells ∈ gdT := ⟨gm_5 173 rfl rfl, gm_5 174 rfl rfl⟩
theorem ok_X12_thing : okB mX12_thing 4 := ⟨gm_4 210 rfl rfl, gm_1 12 rfl rfl, ⟨by decide +kernel, by decide +kernel, by decide +kernel⟩, rfl, rfl⟩
theorem ok2_X12_thing : Cond.instanceMethod yX12_thing ∈ gdT ∧ Cond.selects yX12_thing.cls yX12_thing yX12_thing ∈ gdT := ⟨gm_4 208 rfl rfl, gm_4 209 rfl rfl⟩
theorem ok_X12_think : okB mX12_think 1 := ⟨gm_5 167 rfl rfl, gm_1 12 rfl rfl, ⟨by decide +kernel, by decide +kernel, by decide +kernel⟩, rfl, rfl⟩
theorem ok2_X12_think : Cond.instanceMethod yX12_think ∈ gdT ∧ Cond.selects yX12_think.cls yX12_think yX12_think ∈ gdT := ⟨gm_5 166 rfl rfl, gm_s 54 rfl rfl⟩
theorem ok_X12_tie : okB mX12_tie 2 := ⟨gm_4 225 rfl rfl, gm_1 12 rfl rfl, ⟨by decide +kernel, by decide +kernel, by decide +kernel⟩, rfl, rfl⟩
theorem ok2_X12_tie : Cond.instanceMethod yX12_tie ∈ gdT ∧ Cond.selects yX12_tie.cls yX12_tie yX12_tie ∈ gdT := ⟨gm_4 223 rfl rfl, gm_4 224 rfl rfl⟩
theorem ok_X12_tieMany : okB mX12_tieMany 0 := ⟨gm_4 229 rfl rfl, gm_1 12 rfl rfl, ⟨by decide +kernel, by decide +kernel, by decide +kernel⟩, rfl, rfl⟩
theorem ok2_X12_tieMany : Cond.instanceMethod yX12_tieMany ∈ gdT ∧ Cond.selects yX12_tieMany.cls yX12_tieMany yX12_tieMany ∈ gdT := ⟨gm_4 228 rfl rfl, gm_s 31 rfl rfl⟩
theorem ok_X12_tiesTo : okB mX12_tiesTo 1 := ⟨gm_5 155 rfl rfl, gm_1 12 rfl rfl, ⟨by decide +kernel, by decide +kernel, by decide +kernel⟩, rfl, rfl⟩
theorem ok2_X12_tiesTo : Cond.instanceMethod yX12_tiesTo ∈ gdT ∧ Cond.selects yX12_tiesTo.cls yX12_tiesTo yX12_tiesTo ∈ gdT := ⟨gm_5 154 rfl rfl, gm_s 53 rfl rfl⟩
theorem ok_X12_tryWord : okB mX12_tryWord 3 := ⟨gm_5 187 rfl rfl, gm_1 12 rfl rfl, ⟨by decide +kernel, by decide +kernel, by decide +kernel⟩, rfl, rfl⟩
theorem ok2_X12_tryWord : Cond.instanceMethod yX12_tryWord ∈ gdT ∧ Cond.selects yX12_tryWord.cls yX12_tryWord yX12_tryWord ∈ gdT := ⟨gm_5 186 rfl rfl, gm_s 56 rfl rfl⟩
theorem ok_X12_twin : okB mX12_twin 2 := ⟨gm_5 139 rfl rfl, gm_1 12 rfl rfl, ⟨by decide +kernel, by decide +kernel, by decide +kernel⟩, rfl, rfl⟩
theorem ok2_X12_twin : Cond.instanceMethod yX12_twin ∈ gdT ∧ Cond.selects yX12_twin.cls yX12_twin yX12_twin ∈ gdT := ⟨gm_5 137 rfl rfl, gm_5 138 rfl rfl⟩
theorem ok_X12_wordTold : okB mX12_wordTold 0 := ⟨gm_5 34 rfl rfl, gm_1 12 rfl rfl, ⟨by decide +kernel, by decide +kernel, by decide +kernel⟩, rfl, rfl⟩
theorem ok2_X12_wordTold : Cond.instanceMethod yX12_wordTold ∈ gdT ∧ Cond.selects yX12_wordTold.cls yX12_wordTold yX12_wordTold ∈ gdT := ⟨gm_5 33 rfl rfl, gm_s 35 rfl rfl⟩
theorem ok_X12_worth : okB mX12_worth 2 := ⟨gm_5 203 rfl rfl, gm_1 12 rfl rfl, ⟨by decide +kernel, by decide +kernel, by decide +kernel⟩, rfl, rfl⟩
theorem ok2_X12_worth : Cond.instanceMethod yX12_worth ∈ gdT ∧ Cond.selects yX12_worth.cls yX12_worth yX12_worth ∈ gdT := ⟨gm_5 201 rfl rfl, gm_5 202 rfl rfl⟩
theorem ok_X12_worthOf : okB mX12_worthOf 1 := ⟨gm_5 207 rfl rfl, gm_1 12 rfl rfl, ⟨by decide +kernel, by decide +kernel, by decide +kernel⟩, rfl, rfl⟩
theorem ok2_X12_worthOf : Cond.instanceMethod yX12_worthOf ∈ gdT ∧ Cond.selects yX12_worthOf.cls yX12_worthOf yX12_worthOf ∈ gdT := ⟨gm_5 206 rfl rfl, gm_s 57 rfl rfl⟩
theorem ok_X12_write : okB mX12_write 2 := ⟨gm_5 8 rfl rfl, gm_1 12 rfl rfl, ⟨by decide +kernel, by decide +kernel, by decide +kernel⟩, rfl, rfl⟩
theorem ok2_X12_write : Cond.instanceMethod yX12_write ∈ gdT ∧ Cond.selects yX12_write.cls yX12_write yX12_write ∈ gdT := ⟨gm_5 6 rfl rfl, gm_5 7 rfl rfl⟩
theorem ok_X12_wrong : okB mX12_wrong 1 := ⟨gm_5 183 rfl rfl, gm_1 12 rfl rfl, ⟨by decide +kernel, by decide +kernel, by decide +kernel⟩, rfl, rfl⟩
theorem ok2_X12_wrong : Cond.instanceMethod yX12_wrong ∈ gdT ∧ Cond.selects yX12_wrong.cls yX12_wrong yX12_wrong ∈ gdT := ⟨gm_5 181 rfl rfl, gm_5 182 rfl rfl⟩
theorem ok_X1_add : okB mX1_add 2 := ⟨gm_3 213 rfl rfl, gm_1 8 rfl rfl, ⟨by decide +kernel, by decide +kernel, by decide +kernel⟩, rfl, rfl⟩
theorem ok2_X1_add : Cond.instanceMethod yX1_add ∈ gdT ∧ Cond.selects yX1_add.cls yX1_add yX1_add ∈ gdT := ⟨gm_3 211 rfl rfl, gm_3 212 rfl rfl⟩
theorem ok_X1_deepen : okB mX1_deepen 1 := ⟨gm_3 217 rfl rfl, gm_1 8 rfl rfl, ⟨by decide +kernel, by decide +kernel, by decide +kernel⟩, rfl, rfl⟩
theorem ok2_X1_deepen : Cond.instanceMethod yX1_deepen ∈ gdT ∧ Cond.selects yX1_deepen.cls yX1_deepen yX1_deepen ∈ gdT := ⟨gm_3 215 rfl rfl, gm_3 216 rfl rfl⟩
theorem ok_X1_isBetter : okB mX1_isBetter 2 := ⟨gm_3 226 rfl rfl, gm_1 8 rfl rfl, ⟨by decide +kernel, by decide +kernel, by decide +kernel⟩, rfl, rfl⟩
theorem ok2_X1_isBetter : Cond.instanceMethod yX1_isBetter ∈ gdT ∧ Cond.selects yX1_isBetter.cls yX1_isBetter yX1_isBetter ∈ gdT := ⟨gm_3 225 rfl rfl, gm_s 26 rfl rfl⟩
theorem ok_X1_saidOf : okB mX1_saidOf 1 := ⟨gm_3 222 rfl rfl, gm_1 8 rfl rfl, ⟨by decide +kernel, by decide +kernel, by decide +kernel⟩, rfl, rfl⟩
theorem ok2_X1_saidOf : Cond.instanceMethod yX1_saidOf ∈ gdT ∧ Cond.selects yX1_saidOf.cls yX1_saidOf yX1_saidOf ∈ gdT := ⟨gm_3 220 rfl rfl, gm_3 221 rfl rfl⟩
theorem ok_X1_start : okB mX1_start 0 := ⟨gm_3 209 rfl rfl, gm_1 8 rfl rfl, ⟨by decide +kernel, by decide +kernel, by decide +kernel⟩, rfl, rfl⟩
theorem ok2_X1_start : Cond.instanceMethod yX1_start ∈ gdT ∧ Cond.selects yX1_start.cls yX1_start yX1_start ∈ gdT := ⟨gm_3 207 rfl rfl, gm_3 208 rfl rfl⟩
theorem ok_X2_hear : okB mX2_hear 2 := ⟨gm_4 5 rfl rfl, gm_1 9 rfl rfl, ⟨by decide +kernel, by decide +kernel, by decide +kernel⟩, rfl, rfl⟩
theorem ok2_X2_hear : Cond.instanceMethod yX2_hear ∈ gdT ∧ Cond.selects yX2_hear.cls yX2_hear yX2_hear ∈ gdT := ⟨gm_4 3 rfl rfl, gm_4 4 rfl rfl⟩
theorem ok_X2_hearAs : okB mX2_hearAs 4 := ⟨gm_4 20 rfl rfl, gm_1 9 rfl rfl, ⟨by decide +kernel, by decide +kernel, by decide +kernel⟩, rfl, rfl⟩
theorem ok2_X2_hearAs : Cond.instanceMethod yX2_hearAs ∈ gdT ∧ Cond.selects yX2_hearAs.cls yX2_hearAs yX2_hearAs ∈ gdT := ⟨gm_4 19 rfl rfl, gm_s 27 rfl rfl⟩
theorem ok_X3_cost : okB mX3_cost 3 := ⟨gm_3 152 rfl rfl, gm_1 20 rfl rfl, ⟨by decide +kernel, by decide +kernel, by decide +kernel⟩, rfl, rfl⟩
theorem ok2_X3_cost : Cond.static yX3_cost ∈ gdT := gm_3 151 rfl rfl
theorem ok_X3_property : okB mX3_property 3 := ⟨gm_3 156 rfl rfl, gm_1 20 rfl rfl, ⟨by decide +kernel, by decide +kernel, by decide +kernel⟩, rfl, rfl⟩
theorem ok2_X3_property : Cond.static yX3_property ∈ gdT := gm_3 155 rfl rfl
theorem ok_X4_add : okB mX4_add 1 := ⟨gm_2 209 rfl rfl, gm_1 4 rfl rfl, ⟨by decide +kernel, by decide +kernel, by decide +kernel⟩, rfl, rfl⟩
theorem ok2_X4_add : Cond.instanceMethod yX4_add ∈ gdT ∧ Cond.selects yX4_add.cls yX4_add yX4_add ∈ gdT := ⟨gm_2 207 rfl rfl, gm_2 208 rfl rfl⟩
theorem ok_X4_addNumber : okB mX4_addNumber 1 := ⟨gm_2 154 rfl rfl, gm_1 4 rfl rfl, ⟨by decide +kernel, by decide +kernel, by decide +kernel⟩, rfl, rfl⟩
theorem ok2_X4_addNumber : Cond.instanceMethod yX4_addNumber ∈ gdT ∧ Cond.selects yX4_addNumber.cls yX4_addNumber yX4_addNumber ∈ gdT := ⟨gm_2 152 rfl rfl, gm_2 153 rfl rfl⟩
theorem ok_X4_copy : okB mX4_copy 1 := ⟨gm_3 59 rfl rfl, gm_1 4 rfl rfl, ⟨by decide +kernel, by decide +kernel, by decide +kernel⟩, rfl, rfl⟩
theorem ok2_X4_copy : Cond.instanceMethod yX4_copy ∈ gdT ∧ Cond.selects yX4_copy.cls yX4_copy yX4_copy ∈ gdT := ⟨gm_3 57 rfl rfl, gm_3 58 rfl rfl⟩
theorem ok_X4_cost : okB mX4_cost 1 := ⟨gm_3 50 rfl rfl, gm_1 4 rfl rfl, ⟨by decide +kernel, by decide +kernel, by decide +kernel⟩, rfl, rfl⟩
theorem ok2_X4_cost : Cond.instanceMethod yX4_cost ∈ gdT ∧ Cond.selects yX4_cost.cls yX4_cost yX4_cost ∈ gdT := ⟨gm_3 48 rfl rfl, gm_3 49 rfl rfl⟩
theorem ok_X4_meaning : okB mX4_meaning 1 := ⟨gm_2 233 rfl rfl, gm_1 4 rfl rfl, ⟨by decide +kernel, by decide +kernel, by decide +kernel⟩, rfl, rfl⟩
theorem ok2_X4_meaning : Cond.instanceMethod yX4_meaning ∈ gdT ∧ Cond.selects yX4_meaning.cls yX4_meaning yX4_meaning ∈ gdT := ⟨gm_2 231 rfl rfl, gm_2 232 rfl rfl⟩
theorem ok_X5_add : okB mX5_add 4 := ⟨gm_2 79 rfl rfl, gm_1 2 rfl rfl, ⟨by decide +kernel, by decide +kernel, by decide +kernel⟩, rfl, rfl⟩
theorem ok2_X5_add : Cond.instanceMethod yX5_add ∈ gdT ∧ Cond.selects yX5_add.cls yX5_add yX5_add ∈ gdT := ⟨gm_2 77 rfl rfl, gm_2 78 rfl rfl⟩
theorem ok_X5_addTie : okB mX5_addTie 2 := ⟨gm_2 100 rfl rfl, gm_1 2 rfl rfl, ⟨by decide +kernel, by decide +kernel, by decide +kernel⟩, rfl, rfl⟩
theorem ok2_X5_addTie : Cond.instanceMethod yX5_addTie ∈ gdT ∧ Cond.selects yX5_addTie.cls yX5_addTie yX5_addTie ∈ gdT := ⟨gm_2 98 rfl rfl, gm_2 99 rfl rfl⟩
theorem ok_X5_all : okB mX5_all 0 := ⟨gm_3 5 rfl rfl, gm_1 2 rfl rfl, ⟨by decide +kernel, by decide +kernel, by decide +kernel⟩, rfl, rfl⟩
theorem ok2_X5_all : Cond.instanceMethod yX5_all ∈ gdT ∧ Cond.selects yX5_all.cls yX5_all yX5_all ∈ gdT := ⟨gm_3 3 rfl rfl, gm_3 4 rfl rfl⟩
theorem ok_X5_greatestSize : okB mX5_greatestSize 1 := ⟨gm_3 21 rfl rfl, gm_1 2 rfl rfl, ⟨by decide +kernel, by decide +kernel, by decide +kernel⟩, rfl, rfl⟩
theorem ok2_X5_greatestSize : Cond.instanceMethod yX5_greatestSize ∈ gdT ∧ Cond.selects yX5_greatestSize.cls yX5_greatestSize yX5_greatestSize ∈ gdT := ⟨gm_3 20 rfl rfl, gm_s 8 rfl rfl⟩
theorem ok_X5_has : okB mX5_has 1 := ⟨gm_2 87 rfl rfl, gm_1 2 rfl rfl, ⟨by decide +kernel, by decide +kernel, by decide +kernel⟩, rfl, rfl⟩
theorem ok2_X5_has : Cond.instanceMethod yX5_has ∈ gdT ∧ Cond.selects yX5_has.cls yX5_has yX5_has ∈ gdT := ⟨gm_2 85 rfl rfl, gm_2 86 rfl rfl⟩
theorem ok_X5_isLook : okB mX5_isLook 2 := ⟨gm_2 59 rfl rfl, gm_1 2 rfl rfl, ⟨by decide +kernel, by decide +kernel, by decide +kernel⟩, rfl, rfl⟩
theorem ok2_X5_isLook : Cond.static yX5_isLook ∈ gdT := gm_2 58 rfl rfl
theorem ok_X5_isTaken : okB mX5_isTaken 1 := ⟨gm_2 71 rfl rfl, gm_1 2 rfl rfl, ⟨by decide +kernel, by decide +kernel, by decide +kernel⟩, rfl, rfl⟩
theorem ok2_X5_isTaken : Cond.instanceMethod yX5_isTaken ∈ gdT ∧ Cond.selects yX5_isTaken.cls yX5_isTaken yX5_isTaken ∈ gdT := ⟨gm_2 69 rfl rfl, gm_2 70 rfl rfl⟩
theorem ok_X5_isTied : okB mX5_isTied 2 := ⟨gm_2 95 rfl rfl, gm_1 2 rfl rfl, ⟨by decide +kernel, by decide +kernel, by decide +kernel⟩, rfl, rfl⟩
theorem ok2_X5_isTied : Cond.instanceMethod yX5_isTied ∈ gdT ∧ Cond.selects yX5_isTied.cls yX5_isTied yX5_isTied ∈ gdT := ⟨gm_2 93 rfl rfl, gm_2 94 rfl rfl⟩
theorem ok_X5_leastSize : okB mX5_leastSize 1 := ⟨gm_3 32 rfl rfl, gm_1 2 rfl rfl, ⟨by decide +kernel, by decide +kernel, by decide +kernel⟩, rfl, rfl⟩
theorem ok2_X5_leastSize : Cond.instanceMethod yX5_leastSize ∈ gdT ∧ Cond.selects yX5_leastSize.cls yX5_leastSize yX5_leastSize ∈ gdT := ⟨gm_3 31 rfl rfl, gm_s 10 rfl rfl⟩
theorem ok_X5_leftmost : okB mX5_leftmost 1 := ⟨gm_3 37 rfl rfl, gm_1 2 rfl rfl, ⟨by decide +kernel, by decide +kernel, by decide +kernel⟩, rfl, rfl⟩
theorem ok2_X5_leftmost : Cond.instanceMethod yX5_leftmost ∈ gdT ∧ Cond.selects yX5_leftmost.cls yX5_leftmost yX5_leftmost ∈ gdT := ⟨gm_3 36 rfl rfl, gm_s 11 rfl rfl⟩
theorem ok_X5_named : okB mX5_named 1 := ⟨gm_3 1 rfl rfl, gm_1 2 rfl rfl, ⟨by decide +kernel, by decide +kernel, by decide +kernel⟩, rfl, rfl⟩
theorem ok2_X5_named : Cond.instanceMethod yX5_named ∈ gdT ∧ Cond.selects yX5_named.cls yX5_named yX5_named ∈ gdT := ⟨gm_2 239 rfl rfl, gm_3 0 rfl rfl⟩
theorem ok_X5_ofSize : okB mX5_ofSize 2 := ⟨gm_3 28 rfl rfl, gm_1 2 rfl rfl, ⟨by decide +kernel, by decide +kernel, by decide +kernel⟩, rfl, rfl⟩
theorem ok2_X5_ofSize : Cond.instanceMethod yX5_ofSize ∈ gdT ∧ Cond.selects yX5_ofSize.cls yX5_ofSize yX5_ofSize ∈ gdT := ⟨gm_3 27 rfl rfl, gm_s 9 rfl rfl⟩
theorem ok_X5_thoseLinked : okB mX5_thoseLinked 2 := ⟨gm_3 17 rfl rfl, gm_1 2 rfl rfl, ⟨by decide +kernel, by decide +kernel, by decide +kernel⟩, rfl, rfl⟩
theorem ok2_X5_thoseLinked : Cond.instanceMethod yX5_thoseLinked ∈ gdT ∧ Cond.selects yX5_thoseLinked.cls yX5_thoseLinked yX5_thoseLinked ∈ gdT := ⟨gm_3 16 rfl rfl, gm_s 7 rfl rfl⟩
theorem ok_X5_thoseMarked : okB mX5_thoseMarked 1 := ⟨gm_3 9 rfl rfl, gm_1 2 rfl rfl, ⟨by decide +kernel, by decide +kernel, by decide +kernel⟩, rfl, rfl⟩
theorem ok2_X5_thoseMarked : Cond.instanceMethod yX5_thoseMarked ∈ gdT ∧ Cond.selects yX5_thoseMarked.cls yX5_thoseMarked yX5_thoseMarked ∈ gdT := ⟨gm_3 8 rfl rfl, gm_s 6 rfl rfl⟩
theorem ok_X5_thoseWith : okB mX5_thoseWith 2 := ⟨gm_2 75 rfl rfl, gm_1 2 rfl rfl, ⟨by decide +kernel, by decide +kernel, by decide +kernel⟩, rfl, rfl⟩
theorem ok2_X5_thoseWith : Cond.instanceMethod yX5_thoseWith ∈ gdT ∧ Cond.selects yX5_thoseWith.cls yX5_thoseWith yX5_thoseWith ∈ gdT := ⟨gm_2 74 rfl rfl, gm_s 0 rfl rfl⟩
theorem ok_X5_turned : okB mX5_turned 2 := ⟨gm_3 13 rfl rfl, gm_1 2 rfl rfl, ⟨by decide +kernel, by decide +kernel, by decide +kernel⟩, rfl, rfl⟩
theorem ok2_X5_turned : Cond.instanceMethod yX5_turned ∈ gdT ∧ Cond.selects yX5_turned.cls yX5_turned yX5_turned ∈ gdT := ⟨gm_3 11 rfl rfl, gm_3 12 rfl rfl⟩
theorem ok_X6_add : okB mX6_add 1 := ⟨gm_4 32 rfl rfl, gm_1 10 rfl rfl, ⟨by decide +kernel, by decide +kernel, by decide +kernel⟩, rfl, rfl⟩
theorem ok2_X6_add : Cond.instanceMethod yX6_add ∈ gdT ∧ Cond.selects yX6_add.cls yX6_add yX6_add ∈ gdT := ⟨gm_4 30 rfl rfl, gm_4 31 rfl rfl⟩
theorem ok_X6_cost : okB mX6_cost 1 := ⟨gm_4 44 rfl rfl, gm_1 10 rfl rfl, ⟨by decide +kernel, by decide +kernel, by decide +kernel⟩, rfl, rfl⟩
theorem ok2_X6_cost : Cond.instanceMethod yX6_cost ∈ gdT ∧ Cond.selects yX6_cost.cls yX6_cost yX6_cost ∈ gdT := ⟨gm_4 42 rfl rfl, gm_4 43 rfl rfl⟩
theorem ok_X6_pointingAt : okB mX6_pointingAt 1 := ⟨gm_4 48 rfl rfl, gm_1 10 rfl rfl, ⟨by decide +kernel, by decide +kernel, by decide +kernel⟩, rfl, rfl⟩
theorem ok2_X6_pointingAt : Cond.instanceMethod yX6_pointingAt ∈ gdT ∧ Cond.selects yX6_pointingAt.cls yX6_pointingAt yX6_pointingAt ∈ gdT := ⟨gm_4 47 rfl rfl, gm_s 28 rfl rfl⟩
theorem ok_X7_append : okB mX7_append 2 := ⟨gm_2 120 rfl rfl, gm_1 3 rfl rfl, ⟨by decide +kernel, by decide +kernel, by decide +kernel⟩, rfl, rfl⟩
theorem ok2_X7_append : Cond.instanceMethod yX7_append ∈ gdT ∧ Cond.selects yX7_append.cls yX7_append yX7_append ∈ gdT := ⟨gm_2 118 rfl rfl, gm_2 119 rfl rfl⟩
theorem ok_X7_clear : okB mX7_clear 0 := ⟨gm_2 129 rfl rfl, gm_1 3 rfl rfl, ⟨by decide +kernel, by decide +kernel, by decide +kernel⟩, rfl, rfl⟩
theorem ok2_X7_clear : Cond.instanceMethod yX7_clear ∈ gdT ∧ Cond.selects yX7_clear.cls yX7_clear yX7_clear ∈ gdT := ⟨gm_2 127 rfl rfl, gm_2 128 rfl rfl⟩
theorem ok_X7_endOfToken : okB mX7_endOfToken 1 := ⟨gm_2 141 rfl rfl, gm_1 3 rfl rfl, ⟨by decide +kernel, by decide +kernel, by decide +kernel⟩, rfl, rfl⟩
theorem ok2_X7_endOfToken : Cond.instanceMethod yX7_endOfToken ∈ gdT ∧ Cond.selects yX7_endOfToken.cls yX7_endOfToken yX7_endOfToken ∈ gdT := ⟨gm_2 140 rfl rfl, gm_s 1 rfl rfl⟩
theorem ok_X7_hasRoomFor : okB mX7_hasRoomFor 1 := ⟨gm_2 116 rfl rfl, gm_1 3 rfl rfl, ⟨by decide +kernel, by decide +kernel, by decide +kernel⟩, rfl, rfl⟩
theorem ok2_X7_hasRoomFor : Cond.instanceMethod yX7_hasRoomFor ∈ gdT ∧ Cond.selects yX7_hasRoomFor.cls yX7_hasRoomFor yX7_hasRoomFor ∈ gdT := ⟨gm_2 114 rfl rfl, gm_2 115 rfl rfl⟩
theorem ok_X7_read : okB mX7_read 0 := ⟨gm_2 137 rfl rfl, gm_1 3 rfl rfl, ⟨by decide +kernel, by decide +kernel, by decide +kernel⟩, rfl, rfl⟩
theorem ok2_X7_read : Cond.instanceMethod yX7_read ∈ gdT ∧ Cond.selects yX7_read.cls yX7_read yX7_read ∈ gdT := ⟨gm_2 135 rfl rfl, gm_2 136 rfl rfl⟩
theorem ok_X7_readNumber : okB mX7_readNumber 2 := ⟨gm_2 150 rfl rfl, gm_1 3 rfl rfl, ⟨by decide +kernel, by decide +kernel, by decide +kernel⟩, rfl, rfl⟩
theorem ok2_X7_readNumber : Cond.instanceMethod yX7_readNumber ∈ gdT ∧ Cond.selects yX7_readNumber.cls yX7_readNumber yX7_readNumber ∈ gdT := ⟨gm_2 149 rfl rfl, gm_s 3 rfl rfl⟩
theorem ok_X7_readWord : okB mX7_readWord 2 := ⟨gm_2 158 rfl rfl, gm_1 3 rfl rfl, ⟨by decide +kernel, by decide +kernel, by decide +kernel⟩, rfl, rfl⟩
theorem ok2_X7_readWord : Cond.instanceMethod yX7_readWord ∈ gdT ∧ Cond.selects yX7_readWord.cls yX7_readWord yX7_readWord ∈ gdT := ⟨gm_2 157 rfl rfl, gm_s 4 rfl rfl⟩
theorem ok_X7_sortAt : okB mX7_sortAt 1 := ⟨gm_2 145 rfl rfl, gm_1 3 rfl rfl, ⟨by decide +kernel, by decide +kernel, by decide +kernel⟩, rfl, rfl⟩
theorem ok2_X7_sortAt : Cond.instanceMethod yX7_sortAt ∈ gdT ∧ Cond.selects yX7_sortAt.cls yX7_sortAt yX7_sortAt ∈ gdT := ⟨gm_2 144 rfl rfl, gm_s 2 rfl rfl⟩
theorem ok_X8_find : okB mX8_find 1 := ⟨gm_3 165 rfl rfl, gm_1 7 rfl rfl, ⟨by decide +kernel, by decide +kernel, by decide +kernel⟩, rfl, rfl⟩
theorem ok2_X8_find : Cond.instanceMethod yX8_find ∈ gdT ∧ Cond.selects yX8_find.cls yX8_find yX8_find ∈ gdT := ⟨gm_3 163 rfl rfl, gm_3 164 rfl rfl⟩
theorem ok_X8_hasAsMany : okB mX8_hasAsMany 3 := ⟨gm_3 179 rfl rfl, gm_1 7 rfl rfl, ⟨by decide +kernel, by decide +kernel, by decide +kernel⟩, rfl, rfl⟩
theorem ok2_X8_hasAsMany : Cond.instanceMethod yX8_hasAsMany ∈ gdT ∧ Cond.selects yX8_hasAsMany.cls yX8_hasAsMany yX8_hasAsMany ∈ gdT := ⟨gm_3 178 rfl rfl, gm_s 23 rfl rfl⟩
theorem ok_X8_looksLike : okB mX8_looksLike 2 := ⟨gm_3 168 rfl rfl, gm_1 7 rfl rfl, ⟨by decide +kernel, by decide +kernel, by decide +kernel⟩, rfl, rfl⟩
theorem ok2_X8_looksLike : Cond.static yX8_looksLike ∈ gdT := gm_3 167 rfl rfl
theorem ok_X8_part : okB mX8_part 2 := ⟨gm_3 172 rfl rfl, gm_1 7 rfl rfl, ⟨by decide +kernel, by decide +kernel, by decide +kernel⟩, rfl, rfl⟩
theorem ok2_X8_part : Cond.instanceMethod yX8_part ∈ gdT ∧ Cond.selects yX8_part.cls yX8_part yX8_part ∈ gdT := ⟨gm_3 171 rfl rfl, gm_s 22 rfl rfl⟩
theorem ok_X8_sorts : okB mX8_sorts 1 := ⟨gm_3 188 rfl rfl, gm_1 7 rfl rfl, ⟨by decide +kernel, by decide +kernel, by decide +kernel⟩, rfl, rfl⟩
theorem ok2_X8_sorts : Cond.instanceMethod yX8_sorts ∈ gdT ∧ Cond.selects yX8_sorts.cls yX8_sorts yX8_sorts ∈ gdT := ⟨gm_3 186 rfl rfl, gm_3 187 rfl rfl⟩
theorem ok_X9_codeAt : okB mX9_codeAt 2 := ⟨gm_3 141 rfl rfl, gm_1 5 rfl rfl, ⟨by decide +kernel, by decide +kernel, by decide +kernel⟩, rfl, rfl⟩
theorem ok2_X9_codeAt : Cond.instanceMethod yX9_codeAt ∈ gdT ∧ Cond.selects yX9_codeAt.cls yX9_codeAt yX9_codeAt ∈ gdT := ⟨gm_3 139 rfl rfl, gm_3 140 rfl rfl⟩
theorem ok_X9_fill : okB mX9_fill 4 := ⟨gm_3 81 rfl rfl, gm_1 5 rfl rfl, ⟨by decide +kernel, by decide +kernel, by decide +kernel⟩, rfl, rfl⟩
theorem ok2_X9_fill : Cond.instanceMethod yX9_fill ∈ gdT ∧ Cond.selects yX9_fill.cls yX9_fill yX9_fill ∈ gdT := ⟨gm_3 79 rfl rfl, gm_3 80 rfl rfl⟩
theorem ok_X9_isAhead : okB mX9_isAhead 2 := ⟨gm_3 105 rfl rfl, gm_1 5 rfl rfl, ⟨by decide +kernel, by decide +kernel, by decide +kernel⟩, rfl, rfl⟩
theorem ok2_X9_isAhead : Cond.instanceMethod yX9_isAhead ∈ gdT ∧ Cond.selects yX9_isAhead.cls yX9_isAhead yX9_isAhead ∈ gdT := ⟨gm_3 104 rfl rfl, gm_s 16 rfl rfl⟩
theorem ok_X9_isReached : okB mX9_isReached 1 := ⟨gm_3 137 rfl rfl, gm_1 5 rfl rfl, ⟨by decide +kernel, by decide +kernel, by decide +kernel⟩, rfl, rfl⟩
theorem ok2_X9_isReached : Cond.instanceMethod yX9_isReached ∈ gdT ∧ Cond.selects yX9_isReached.cls yX9_isReached yX9_isReached ∈ gdT := ⟨gm_3 135 rfl rfl, gm_3 136 rfl rfl⟩
theorem ok_X9_joinAll : okB mX9_joinAll 2 := ⟨gm_3 126 rfl rfl, gm_1 5 rfl rfl, ⟨by decide +kernel, by decide +kernel, by decide +kernel⟩, rfl, rfl⟩
theorem ok2_X9_joinAll : Cond.instanceMethod yX9_joinAll ∈ gdT ∧ Cond.selects yX9_joinAll.cls yX9_joinAll yX9_joinAll ∈ gdT := ⟨gm_3 125 rfl rfl, gm_s 20 rfl rfl⟩
theorem ok_X9_joinTwo : okB mX9_joinTwo 3 := ⟨gm_3 130 rfl rfl, gm_1 5 rfl rfl, ⟨by decide +kernel, by decide +kernel, by decide +kernel⟩, rfl, rfl⟩
theorem ok2_X9_joinTwo : Cond.instanceMethod yX9_joinTwo ∈ gdT ∧ Cond.selects yX9_joinTwo.cls yX9_joinTwo yX9_joinTwo ∈ gdT := ⟨gm_3 129 rfl rfl, gm_s 21 rfl rfl⟩
theorem ok_X9_nearest : okB mX9_nearest 1 := ⟨gm_3 111 rfl rfl, gm_1 5 rfl rfl, ⟨by decide +kernel, by decide +kernel, by decide +kernel⟩, rfl, rfl⟩
theorem ok2_X9_nearest : Cond.instanceMethod yX9_nearest ∈ gdT ∧ Cond.selects yX9_nearest.cls yX9_nearest yX9_nearest ∈ gdT := ⟨gm_3 110 rfl rfl, gm_s 17 rfl rfl⟩
theorem ok_X9_offer : okB mX9_offer 3 := ⟨gm_3 101 rfl rfl, gm_1 5 rfl rfl, ⟨by decide +kernel, by decide +kernel, by decide +kernel⟩, rfl, rfl⟩
theorem ok2_X9_offer : Cond.instanceMethod yX9_offer ∈ gdT ∧ Cond.selects yX9_offer.cls yX9_offer yX9_offer ∈ gdT := ⟨gm_3 100 rfl rfl, gm_s 15 rfl rfl⟩
theorem ok_X9_offerNamed : okB mX9_offerNamed 3 := ⟨gm_3 94 rfl rfl, gm_1 5 rfl rfl, ⟨by decide +kernel, by decide +kernel, by decide +kernel⟩, rfl, rfl⟩
theorem ok2_X9_offerNamed : Cond.instanceMethod yX9_offerNamed ∈ gdT ∧ Cond.selects yX9_offerNamed.cls yX9_offerNamed yX9_offerNamed ∈ gdT := ⟨gm_3 93 rfl rfl, gm_s 14 rfl rfl⟩
theorem ok_X9_reach : okB mX9_reach 1 := ⟨gm_3 116 rfl rfl, gm_1 5 rfl rfl, ⟨by decide +kernel, by decide +kernel, by decide +kernel⟩, rfl, rfl⟩
theorem ok2_X9_reach : Cond.instanceMethod yX9_reach ∈ gdT ∧ Cond.selects yX9_reach.cls yX9_reach yX9_reach ∈ gdT := ⟨gm_3 115 rfl rfl, gm_s 18 rfl rfl⟩
theorem ok_X9_start : okB mX9_start 2 := ⟨gm_3 85 rfl rfl, gm_1 5 rfl rfl, ⟨by decide +kernel, by decide +kernel, by decide +kernel⟩, rfl, rfl⟩
theorem ok2_X9_start : Cond.instanceMethod yX9_start ∈ gdT ∧ Cond.selects yX9_start.cls yX9_start yX9_start ∈ gdT := ⟨gm_3 84 rfl rfl, gm_s 13 rfl rfl⟩
theorem ok_X9_turn : okB mX9_turn 3 := ⟨gm_3 121 rfl rfl, gm_1 5 rfl rfl, ⟨by decide +kernel, by decide +kernel, by decide +kernel⟩, rfl, rfl⟩
theorem ok2_X9_turn : Cond.instanceMethod yX9_turn ∈ gdT ∧ Cond.selects yX9_turn.cls yX9_turn yX9_turn ∈ gdT := ⟨gm_3 120 rfl rfl, gm_s 19 rfl rfl⟩
theorem ok_X9_worthOf : okB mX9_worthOf 1 := ⟨gm_4 58 rfl rfl, gm_1 5 rfl rfl, ⟨by decide +kernel, by decide +kernel, by decide +kernel⟩, rfl, rfl⟩
theorem ok2_X9_worthOf : Cond.instanceMethod yX9_worthOf ∈ gdT ∧ Cond.selects yX9_worthOf.cls yX9_worthOf yX9_worthOf ∈ gdT := ⟨gm_4 56 rfl rfl, gm_4 57 rfl rfl⟩
theorem ok_mmax : Cond.static Lib.Math.max.name ∈ gdT ∧ Cond.initialized "java/lang/Math" ∈ gdT ∧ Cond.code Lib.Math.max.name Lib.Math.max.code 2 (some .int) ∈ gdT := ⟨gm_3 23 rfl rfl, gm_1 18 rfl rfl, gm_3 24 rfl rfl⟩
theorem ok_mmin : Cond.static Lib.Math.min.name ∈ gdT ∧ Cond.initialized "java/lang/Math" ∈ gdT ∧ Cond.code Lib.Math.min.name Lib.Math.min.code 2 (some .int) ∈ gdT := ⟨gm_2 235 rfl rfl, gm_1 18 rfl rfl, gm_2 236 rfl rfl⟩
theorem lk_RX8_m45 : Cond.methodLink RX8 45 arraycopyName ∈ gdT := gm_3 173 rfl rfl
theorem lk_RX0_m38 : Cond.methodLink RX0 38 yX10_isKnown ∈ gdT := gm_4 64 rfl rfl
theorem lk_RX0_m42 : Cond.methodLink RX0 42 yX0_tryMark ∈ gdT := gm_4 65 rfl rfl
theorem lk_RX0_m50 : Cond.methodLink RX0 50 yX5_has ∈ gdT := gm_4 69 rfl rfl
theorem lk_RX0_m54 : Cond.methodLink RX0 54 yX9_fill ∈ gdT := gm_4 70 rfl rfl
theorem lk_RX0_m58 : Cond.methodLink RX0 58 yX9_worthOf ∈ gdT := gm_4 71 rfl rfl
theorem lk_RX1_m25 : Cond.methodLink RX1 25 yX1_isBetter ∈ gdT := gm_3 223 rfl rfl
theorem lk_RX1_m29 : Cond.methodLink RX1 29 yJ6_bitCount_0f7a4 ∈ gdT := gm_3 227 rfl rfl
theorem lk_RX1_m35 : Cond.methodLink RX1 35 yJ7_fill_53178 ∈ gdT := gm_3 218 rfl rfl
theorem lk_RX1_m41 : Cond.methodLink RX1 41 yX1_saidOf ∈ gdT := gm_3 219 rfl rfl
theorem lk_RX2_m15 : Cond.methodLink RX2 15 yJ7_fill_53178 ∈ gdT := gm_4 6 rfl rfl
theorem lk_RX2_m33 : Cond.methodLink RX2 33 yX10_firstLike ∈ gdT := gm_4 7 rfl rfl
theorem lk_RX2_m39 : Cond.methodLink RX2 39 yX10_lastLike ∈ gdT := gm_4 12 rfl rfl
theorem lk_RX2_m42 : Cond.methodLink RX2 42 yX2_hearAs ∈ gdT := gm_4 17 rfl rfl
theorem lk_RX2_m53 : Cond.methodLink RX2 53 yX10_numbers ∈ gdT := gm_4 22 rfl rfl
theorem lk_RX2_m62 : Cond.methodLink RX2 62 yX4_meaning ∈ gdT := gm_4 24 rfl rfl
theorem lk_RX3_m15 : Cond.methodLink RX3 15 yX3_property ∈ gdT := gm_3 154 rfl rfl
theorem lk_RX3_m21 : Cond.methodLink RX3 21 yX5_named ∈ gdT := gm_3 157 rfl rfl
theorem lk_RX3_m9 : Cond.methodLink RX3 9 yX5_all ∈ gdT := gm_3 153 rfl rfl
theorem lk_RX4_m20 : Cond.methodLink RX4 20 yX4_add ∈ gdT := gm_3 60 rfl rfl
theorem lk_RX4_m30 : Cond.methodLink RX4 30 yX10_parts ∈ gdT := gm_2 237 rfl rfl
theorem lk_RX4_m36 : Cond.methodLink RX4 36 yX5_named ∈ gdT := gm_2 238 rfl rfl
theorem lk_RX4_m41 : Cond.methodLink RX4 41 yX5_turned ∈ gdT := gm_3 10 rfl rfl
theorem lk_RX4_m44 : Cond.methodLink RX4 44 yX10_join ∈ gdT := gm_3 44 rfl rfl
theorem lk_RX5_m31 : Cond.methodLink RX5 31 yX5_thoseWith ∈ gdT := gm_2 72 rfl rfl
theorem lk_RX5_m35 : Cond.methodLink RX5 35 yX5_has ∈ gdT := gm_2 96 rfl rfl
theorem lk_RX5_m42 : Cond.methodLink RX5 42 yX5_all ∈ gdT := gm_3 2 rfl rfl
theorem lk_RX5_m46 : Cond.methodLink RX5 46 yX5_thoseMarked ∈ gdT := gm_3 6 rfl rfl
theorem lk_RX5_m50 : Cond.methodLink RX5 50 yX5_thoseLinked ∈ gdT := gm_3 14 rfl rfl
theorem lk_RX5_m53 : Cond.methodLink RX5 53 yX5_greatestSize ∈ gdT := gm_3 18 rfl rfl
theorem lk_RX5_m56 : Cond.methodLink RX5 56 yX5_ofSize ∈ gdT := gm_3 25 rfl rfl
theorem lk_RX5_m59 : Cond.methodLink RX5 59 yX5_leastSize ∈ gdT := gm_3 29 rfl rfl
theorem lk_RX5_m62 : Cond.methodLink RX5 62 yX5_leftmost ∈ gdT := gm_3 34 rfl rfl
theorem lk_RX5_m65 : Cond.methodLink RX5 65 yJ6_bitCount_0f7a4 ∈ gdT := gm_3 38 rfl rfl
theorem lk_RX6_m19 : Cond.methodLink RX6 19 yX6_pointingAt ∈ gdT := gm_4 45 rfl rfl
theorem lk_RX6_m23 : Cond.methodLink RX6 23 yX9_isReached ∈ gdT := gm_4 49 rfl rfl
theorem lk_RX7_m35 : Cond.methodLink RX7 35 yX7_endOfToken ∈ gdT := gm_2 138 rfl rfl
theorem lk_RX7_m39 : Cond.methodLink RX7 39 yX7_readNumber ∈ gdT := gm_2 147 rfl rfl
theorem lk_RX7_m43 : Cond.methodLink RX7 43 yX7_readWord ∈ gdT := gm_2 155 rfl rfl
theorem lk_RX7_m46 : Cond.methodLink RX7 46 yX7_sortAt ∈ gdT := gm_2 142 rfl rfl
theorem lk_RX7_m52 : Cond.methodLink RX7 52 yX4_addNumber ∈ gdT := gm_2 151 rfl rfl
theorem lk_RX7_m56 : Cond.methodLink RX7 56 yX10_spelt ∈ gdT := gm_2 159 rfl rfl
theorem lk_RX7_m62 : Cond.methodLink RX7 62 yX4_add ∈ gdT := gm_2 206 rfl rfl
theorem lk_RX7_m66 : Cond.methodLink RX7 66 yX10_parts ∈ gdT := gm_2 210 rfl rfl
theorem lk_RX7_m69 : Cond.methodLink RX7 69 yX10_numbers ∈ gdT := gm_2 216 rfl rfl
theorem lk_RX8_m27 : Cond.methodLink RX8 27 yX8_looksLike ∈ gdT := gm_3 166 rfl rfl
theorem lk_RX8_m31 : Cond.methodLink RX8 31 yX8_part ∈ gdT := gm_3 169 rfl rfl
theorem lk_RX8_m35 : Cond.methodLink RX8 35 yJ6_numberOfTrailingZeros_0f7a4 ∈ gdT := gm_3 189 rfl rfl
theorem lk_RX8_m51 : Cond.methodLink RX8 51 yX8_hasAsMany ∈ gdT := gm_3 176 rfl rfl
theorem lk_RX8_m55 : Cond.methodLink RX8 55 yJ6_bitCount_0f7a4 ∈ gdT := gm_3 180 rfl rfl
theorem lk_RX9_m104 : Cond.methodLink RX9 104 yX10_numbers ∈ gdT := gm_3 95 rfl rfl
theorem lk_RX9_m110 : Cond.methodLink RX9 110 yX5_named ∈ gdT := gm_3 97 rfl rfl
theorem lk_RX9_m113 : Cond.methodLink RX9 113 yX9_offer ∈ gdT := gm_3 98 rfl rfl
theorem lk_RX9_m120 : Cond.methodLink RX9 120 yJ6_bitCount_0f7a4 ∈ gdT := gm_3 112 rfl rfl
theorem lk_RX9_m125 : Cond.methodLink RX9 125 yX9_isAhead ∈ gdT := gm_3 102 rfl rfl
theorem lk_RX9_m128 : Cond.methodLink RX9 128 yX5_turned ∈ gdT := gm_3 122 rfl rfl
theorem lk_RX9_m131 : Cond.methodLink RX9 131 yX9_joinTwo ∈ gdT := gm_3 127 rfl rfl
theorem lk_RX9_m38 : Cond.methodLink RX9 38 yX9_isReached ∈ gdT := gm_4 59 rfl rfl
theorem lk_RX9_m49 : Cond.methodLink RX9 49 yX9_start ∈ gdT := gm_3 82 rfl rfl
theorem lk_RX9_m53 : Cond.methodLink RX9 53 yX5_all ∈ gdT := gm_3 107 rfl rfl
theorem lk_RX9_m59 : Cond.methodLink RX9 59 yX9_nearest ∈ gdT := gm_3 108 rfl rfl
theorem lk_RX9_m63 : Cond.methodLink RX9 63 yX9_reach ∈ gdT := gm_3 113 rfl rfl
theorem lk_RX9_m67 : Cond.methodLink RX9 67 yX9_turn ∈ gdT := gm_3 118 rfl rfl
theorem lk_RX9_m71 : Cond.methodLink RX9 71 yX9_joinAll ∈ gdT := gm_3 123 rfl rfl
theorem lk_RX9_m78 : Cond.methodLink RX9 78 yJ7_fill_53178 ∈ gdT := gm_3 86 rfl rfl
theorem lk_RX9_m88 : Cond.methodLink RX9 88 yX10_isKnown ∈ gdT := gm_3 87 rfl rfl
theorem lk_RX9_m91 : Cond.methodLink RX9 91 yX10_parts ∈ gdT := gm_3 90 rfl rfl
theorem lk_RX9_m94 : Cond.methodLink RX9 94 yX9_offerNamed ∈ gdT := gm_3 91 rfl rfl
theorem lk_RX10_m29 : Cond.methodLink RX10 29 yX10_isSpelt ∈ gdT := gm_2 162 rfl rfl
theorem lk_RX10_m35 : Cond.methodLink RX10 35 yJ0_charAt_5068e ∈ gdT := gm_2 166 rfl rfl
theorem lk_RX11_m102 : Cond.methodLink RX11 102 yX5_add ∈ gdT := gm_2 76 rfl rfl
theorem lk_RX11_m106 : Cond.methodLink RX11 106 yX5_has ∈ gdT := gm_2 84 rfl rfl
theorem lk_RX11_m113 : Cond.methodLink RX11 113 yX5_isTied ∈ gdT := gm_2 92 rfl rfl
theorem lk_RX11_m116 : Cond.methodLink RX11 116 yX5_addTie ∈ gdT := gm_2 97 rfl rfl
theorem lk_RX11_m120 : Cond.methodLink RX11 120 yX7_hasRoomFor ∈ gdT := gm_2 113 rfl rfl
theorem lk_RX11_m123 : Cond.methodLink RX11 123 yX7_append ∈ gdT := gm_2 117 rfl rfl
theorem lk_RX11_m127 : Cond.methodLink RX11 127 yX7_clear ∈ gdT := gm_2 126 rfl rfl
theorem lk_RX11_m131 : Cond.methodLink RX11 131 yX7_read ∈ gdT := gm_2 134 rfl rfl
theorem lk_RX11_m138 : Cond.methodLink RX11 138 yX11_told ∈ gdT := gm_2 226 rfl rfl
theorem lk_RX11_m145 : Cond.methodLink RX11 145 yX4_copy ∈ gdT := gm_3 56 rfl rfl
theorem lk_RX11_m149 : Cond.methodLink RX11 149 yX4_meaning ∈ gdT := gm_2 230 rfl rfl
theorem lk_RX11_m153 : Cond.methodLink RX11 153 yX4_cost ∈ gdT := gm_3 47 rfl rfl
theorem lk_RX11_m160 : Cond.methodLink RX11 160 yX5_all ∈ gdT := gm_3 69 rfl rfl
theorem lk_RX11_m163 : Cond.methodLink RX11 163 yX10_areWords ∈ gdT := gm_3 70 rfl rfl
theorem lk_RX11_m166 : Cond.methodLink RX11 166 yX11_waysWith ∈ gdT := gm_3 74 rfl rfl
theorem lk_RX11_m170 : Cond.methodLink RX11 170 yX9_isReached ∈ gdT := gm_3 134 rfl rfl
theorem lk_RX11_m179 : Cond.methodLink RX11 179 yX9_codeAt ∈ gdT := gm_3 138 rfl rfl
theorem lk_RX11_m185 : Cond.methodLink RX11 185 yX3_cost ∈ gdT := gm_3 150 rfl rfl
theorem lk_RX11_m190 : Cond.methodLink RX11 190 yX8_find ∈ gdT := gm_3 162 rfl rfl
theorem lk_RX11_m197 : Cond.methodLink RX11 197 yJ6_numberOfTrailingZeros_0f7a4 ∈ gdT := gm_3 181 rfl rfl
theorem lk_RX11_m206 : Cond.methodLink RX11 206 yX8_sorts ∈ gdT := gm_3 185 rfl rfl
theorem lk_RX11_m215 : Cond.methodLink RX11 215 yX9_fill ∈ gdT := gm_3 78 rfl rfl
theorem lk_RX11_m218 : Cond.methodLink RX11 218 yX11_firstBreak ∈ gdT := gm_3 194 rfl rfl
theorem lk_RX11_m222 : Cond.methodLink RX11 222 yX11_think ∈ gdT := gm_3 202 rfl rfl
theorem lk_RX11_m229 : Cond.methodLink RX11 229 yX1_saidOf ∈ gdT := gm_3 233 rfl rfl
theorem lk_RX11_m232 : Cond.methodLink RX11 232 yX1_deepen ∈ gdT := gm_3 214 rfl rfl
theorem lk_RX11_m235 : Cond.methodLink RX11 235 yX1_start ∈ gdT := gm_3 206 rfl rfl
theorem lk_RX11_m238 : Cond.methodLink RX11 238 yX1_add ∈ gdT := gm_3 210 rfl rfl
theorem lk_RX11_m241 : Cond.methodLink RX11 241 yX2_hear ∈ gdT := gm_4 2 rfl rfl
theorem lk_RX11_m255 : Cond.methodLink RX11 255 yX6_add ∈ gdT := gm_4 29 rfl rfl
theorem lk_RX11_m257 : Cond.methodLink RX11 257 yX6_cost ∈ gdT := gm_4 41 rfl rfl
theorem lk_RX11_m260 : Cond.methodLink RX11 260 yX9_worthOf ∈ gdT := gm_4 55 rfl rfl
theorem lk_RX11_m265 : Cond.methodLink RX11 265 yX0_find ∈ gdT := gm_4 60 rfl rfl
theorem lk_RX11_m84 : Cond.methodLink RX11 84 yX5_isLook ∈ gdT := gm_2 57 rfl rfl
theorem lk_RX11_m88 : Cond.methodLink RX11 88 yX11_isWithin ∈ gdT := gm_2 67 rfl rfl
theorem lk_RX11_m91 : Cond.methodLink RX11 91 yX5_isTaken ∈ gdT := gm_2 68 rfl rfl
theorem lk_RL_m100 : Cond.methodLink RL 100 yX12_wrong ∈ gdT := gm_5 180 rfl rfl
theorem lk_RL_m101 : Cond.methodLink RL 101 yX11_name ∈ gdT := gm_4 25 rfl rfl
theorem lk_RL_m104 : Cond.methodLink RL 104 yX12_name ∈ gdT := gm_5 188 rfl rfl
theorem lk_RL_m105 : Cond.methodLink RL 105 yX11_hush ∈ gdT := gm_4 33 rfl rfl
theorem lk_RL_m108 : Cond.methodLink RL 108 yX12_hush ∈ gdT := gm_5 192 rfl rfl
theorem lk_RL_m109 : Cond.methodLink RL 109 yX11_talk ∈ gdT := gm_4 37 rfl rfl
theorem lk_RL_m112 : Cond.methodLink RL 112 yX12_talk ∈ gdT := gm_5 196 rfl rfl
theorem lk_RL_m113 : Cond.methodLink RL 113 yX11_worth ∈ gdT := gm_4 51 rfl rfl
theorem lk_RL_m116 : Cond.methodLink RL 116 yX12_worth ∈ gdT := gm_5 200 rfl rfl
theorem lk_RL_m117 : Cond.methodLink RL 117 yX11_count ∈ gdT := gm_4 72 rfl rfl
theorem lk_RL_m120 : Cond.methodLink RL 120 yX12_count ∈ gdT := gm_5 208 rfl rfl
theorem lk_RL_m13 : Cond.methodLink RL 13 yX11_thing ∈ gdT := gm_2 53 rfl rfl
theorem lk_RL_m17 : Cond.methodLink RL 17 yX12_thing ∈ gdT := gm_4 207 rfl rfl
theorem lk_RL_m18 : Cond.methodLink RL 18 yX11_paint ∈ gdT := gm_2 80 rfl rfl
theorem lk_RL_m22 : Cond.methodLink RL 22 yX12_paint ∈ gdT := gm_4 214 rfl rfl
theorem lk_RL_m23 : Cond.methodLink RL 23 yX11_tie ∈ gdT := gm_2 88 rfl rfl
theorem lk_RL_m27 : Cond.methodLink RL 27 yX12_tie ∈ gdT := gm_4 222 rfl rfl
theorem lk_RL_m28 : Cond.methodLink RL 28 yX11_of ∈ gdT := gm_2 101 rfl rfl
theorem lk_RL_m31 : Cond.methodLink RL 31 yX12_of ∈ gdT := gm_4 233 rfl rfl
theorem lk_RL_m32 : Cond.methodLink RL 32 yX11_price ∈ gdT := gm_2 105 rfl rfl
theorem lk_RL_m35 : Cond.methodLink RL 35 yX12_price ∈ gdT := gm_5 1 rfl rfl
theorem lk_RL_m38 : Cond.methodLink RL 38 yX11_write ∈ gdT := gm_2 109 rfl rfl
theorem lk_RL_m42 : Cond.methodLink RL 42 yX12_write ∈ gdT := gm_5 5 rfl rfl
theorem lk_RL_m43 : Cond.methodLink RL 43 yX11_erase ∈ gdT := gm_2 122 rfl rfl
theorem lk_RL_m47 : Cond.methodLink RL 47 yX12_erase ∈ gdT := gm_5 10 rfl rfl
theorem lk_RL_m48 : Cond.methodLink RL 48 yX11_fault ∈ gdT := gm_2 130 rfl rfl
theorem lk_RL_m51 : Cond.methodLink RL 51 yX12_fault ∈ gdT := gm_5 14 rfl rfl
theorem lk_RL_m52 : Cond.methodLink RL 52 yX11_says ∈ gdT := gm_2 222 rfl rfl
theorem lk_RL_m56 : Cond.methodLink RL 56 yX12_says ∈ gdT := gm_5 57 rfl rfl
theorem lk_RL_m57 : Cond.methodLink RL 57 yX11_keep ∈ gdT := gm_3 52 rfl rfl
theorem lk_RL_m60 : Cond.methodLink RL 60 yX12_keep ∈ gdT := gm_5 89 rfl rfl
theorem lk_RL_m61 : Cond.methodLink RL 61 yX11_kept ∈ gdT := gm_3 61 rfl rfl
theorem lk_RL_m64 : Cond.methodLink RL 64 yX12_kept ∈ gdT := gm_5 93 rfl rfl
theorem lk_RL_m65 : Cond.methodLink RL 65 yX11_cheapest ∈ gdT := gm_3 65 rfl rfl
theorem lk_RL_m68 : Cond.methodLink RL 68 yX12_cheapest ∈ gdT := gm_5 101 rfl rfl
theorem lk_RL_m69 : Cond.methodLink RL 69 yX11_sets ∈ gdT := gm_3 142 rfl rfl
theorem lk_RL_m72 : Cond.methodLink RL 72 yX12_sets ∈ gdT := gm_5 128 rfl rfl
theorem lk_RL_m73 : Cond.methodLink RL 73 yX11_quick ∈ gdT := gm_3 146 rfl rfl
theorem lk_RL_m76 : Cond.methodLink RL 76 yX12_quick ∈ gdT := gm_5 132 rfl rfl
theorem lk_RL_m77 : Cond.methodLink RL 77 yX11_twin ∈ gdT := gm_3 158 rfl rfl
theorem lk_RL_m80 : Cond.methodLink RL 80 yX12_twin ∈ gdT := gm_5 136 rfl rfl
theorem lk_RL_m81 : Cond.methodLink RL 81 yX11_breaks ∈ gdT := gm_3 190 rfl rfl
theorem lk_RL_m84 : Cond.methodLink RL 84 yX12_breaks ∈ gdT := gm_5 156 rfl rfl
theorem lk_RL_m85 : Cond.methodLink RL 85 yX11_hears ∈ gdT := gm_3 198 rfl rfl
theorem lk_RL_m88 : Cond.methodLink RL 88 yX12_hears ∈ gdT := gm_5 160 rfl rfl
theorem lk_RL_m89 : Cond.methodLink RL 89 yX11_tells ∈ gdT := gm_3 229 rfl rfl
theorem lk_RL_m92 : Cond.methodLink RL 92 yX12_tells ∈ gdT := gm_5 172 rfl rfl
theorem lk_RL_m93 : Cond.methodLink RL 93 yX11_ends ∈ gdT := gm_3 234 rfl rfl
theorem lk_RL_m96 : Cond.methodLink RL 96 yX12_ends ∈ gdT := gm_5 176 rfl rfl
theorem lk_RL_m97 : Cond.methodLink RL 97 yX11_wrong ∈ gdT := gm_3 238 rfl rfl
theorem lk_RX12_m102 : Cond.methodLink RX12 102 yX12_in ∈ gdT := gm_4 211 rfl rfl
theorem lk_RX12_m106 : Cond.methodLink RX12 106 yX12_isThing ∈ gdT := gm_4 218 rfl rfl
theorem lk_RX12_m110 : Cond.methodLink RX12 110 yX12_bits ∈ gdT := gm_4 230 rfl rfl
theorem lk_RX12_m114 : Cond.methodLink RX12 114 yX12_tieMany ∈ gdT := gm_4 226 rfl rfl
theorem lk_RX12_m118 : Cond.methodLink RX12 118 yX12_besides ∈ gdT := gm_4 237 rfl rfl
theorem lk_RX12_m188 : Cond.methodLink RX12 188 yX12_nextToken ∈ gdT := gm_5 22 rfl rfl
theorem lk_RX12_m191 : Cond.methodLink RX12 191 yX12_wordTold ∈ gdT := gm_5 31 rfl rfl
theorem lk_RX12_m194 : Cond.methodLink RX12 194 yX12_fails ∈ gdT := gm_5 50 rfl rfl
theorem lk_RX12_m198 : Cond.methodLink RX12 198 yX12_needs ∈ gdT := gm_5 54 rfl rfl
theorem lk_RX12_m201 : Cond.methodLink RX12 201 yX12_isRead ∈ gdT := gm_5 18 rfl rfl
theorem lk_RX12_m204 : Cond.methodLink RX12 204 yX12_every ∈ gdT := gm_5 73 rfl rfl
theorem lk_RX12_m207 : Cond.methodLink RX12 207 yX12_bySize ∈ gdT := gm_5 77 rfl rfl
theorem lk_RX12_m211 : Cond.methodLink RX12 211 yX12_leftmost ∈ gdT := gm_5 81 rfl rfl
theorem lk_RX12_m214 : Cond.methodLink RX12 214 yX12_allOf ∈ gdT := gm_5 65 rfl rfl
theorem lk_RX12_m218 : Cond.methodLink RX12 218 yX12_made ∈ gdT := gm_5 69 rfl rfl
theorem lk_RX12_m222 : Cond.methodLink RX12 222 yX12_meaning ∈ gdT := gm_5 61 rfl rfl
theorem lk_RX12_m225 : Cond.methodLink RX12 225 yX12_costTold ∈ gdT := gm_5 85 rfl rfl
theorem lk_RX12_m231 : Cond.methodLink RX12 231 yX12_recall ∈ gdT := gm_5 97 rfl rfl
theorem lk_RX12_m235 : Cond.methodLink RX12 235 yX12_isAhead ∈ gdT := gm_5 124 rfl rfl
theorem lk_RX12_m239 : Cond.methodLink RX12 239 yX12_offer ∈ gdT := gm_5 112 rfl rfl
theorem lk_RX12_m243 : Cond.methodLink RX12 243 yX12_cheapestLeft ∈ gdT := gm_5 116 rfl rfl
theorem lk_RX12_m246 : Cond.methodLink RX12 246 yX12_settle ∈ gdT := gm_5 120 rfl rfl
theorem lk_RX12_m249 : Cond.methodLink RX12 249 yX12_areWords ∈ gdT := gm_5 105 rfl rfl
theorem lk_RX12_m252 : Cond.methodLink RX12 252 yX12_search ∈ gdT := gm_5 108 rfl rfl
theorem lk_RX12_m255 : Cond.methodLink RX12 255 yX12_howMany ∈ gdT := gm_5 148 rfl rfl
theorem lk_RX12_m258 : Cond.methodLink RX12 258 yX12_tiesTo ∈ gdT := gm_5 152 rfl rfl
theorem lk_RX12_m261 : Cond.methodLink RX12 261 yX12_areAlike ∈ gdT := gm_5 144 rfl rfl
theorem lk_RX12_m264 : Cond.methodLink RX12 264 yX12_findTwins ∈ gdT := gm_5 140 rfl rfl
theorem lk_RX12_m267 : Cond.methodLink RX12 267 yX12_findSaid ∈ gdT := gm_5 168 rfl rfl
theorem lk_RX12_m270 : Cond.methodLink RX12 270 yX12_think ∈ gdT := gm_5 164 rfl rfl
theorem lk_RX12_m276 : Cond.methodLink RX12 276 yX12_tryWord ∈ gdT := gm_5 184 rfl rfl
theorem lk_RX12_m283 : Cond.methodLink RX12 283 yX12_worthOf ∈ gdT := gm_5 204 rfl rfl
theorem lk_RX9_c135 : Cond.constant RX9 135 (2621440) ∈ gdT := gm_3 131 rfl rfl
theorem lk_RX9_c136 : Cond.constant RX9 136 (3145728) ∈ gdT := gm_3 132 rfl rfl
theorem lk_RX9_c137 : Cond.constant RX9 137 (3670016) ∈ gdT := gm_3 133 rfl rfl
theorem lk_RX10_c11 : Cond.constant RX10 11 (32768) ∈ gdT := gm_3 73 rfl rfl
theorem lk_RJ6_c264 : Cond.constant RJ6 264 (65536) ∈ gdT := gm_3 184 rfl rfl
theorem lk_RJ6_c265 : Cond.constant RJ6 265 (1431655765) ∈ gdT := gm_3 41 rfl rfl
theorem lk_RJ6_c266 : Cond.constant RJ6 266 (858993459) ∈ gdT := gm_3 42 rfl rfl
theorem lk_RJ6_c267 : Cond.constant RJ6 267 (252645135) ∈ gdT := gm_3 43 rfl rfl
theorem lk_RX0_f12 : Cond.fieldLink RX0 12 (TX0 0).1 (TX0 0).2.1 (TX0 0).2.2.1 ∈ gdT := gm_1 161 rfl rfl
theorem lk_RX0_f22 : Cond.fieldLink RX0 22 (TX0 1).1 (TX0 1).2.1 (TX0 1).2.2.1 ∈ gdT := gm_1 162 rfl rfl
theorem lk_RX0_f25 : Cond.fieldLink RX0 25 (TX0 3).1 (TX0 3).2.1 (TX0 3).2.2.1 ∈ gdT := gm_1 166 rfl rfl
theorem lk_RX0_f28 : Cond.fieldLink RX0 28 (TX0 4).1 (TX0 4).2.1 (TX0 4).2.2.1 ∈ gdT := gm_1 168 rfl rfl
theorem lk_RX0_f31 : Cond.fieldLink RX0 31 (TX5 1).1 (TX5 1).2.1 (TX5 1).2.2.1 ∈ gdT := gm_1 44 rfl rfl
theorem lk_RX0_f46 : Cond.fieldLink RX0 46 (TX5 0).1 (TX5 0).2.1 (TX5 0).2.2.1 ∈ gdT := gm_1 39 rfl rfl
theorem lk_RX1_f15 : Cond.fieldLink RX1 15 (TX1 1).1 (TX1 1).2.1 (TX1 1).2.2.1 ∈ gdT := gm_1 207 rfl rfl
theorem lk_RX1_f18 : Cond.fieldLink RX1 18 (TX1 2).1 (TX1 2).2.1 (TX1 2).2.2.1 ∈ gdT := gm_1 208 rfl rfl
theorem lk_RX1_f21 : Cond.fieldLink RX1 21 (TX1 3).1 (TX1 3).2.1 (TX1 3).2.2.1 ∈ gdT := gm_1 209 rfl rfl
theorem lk_RX1_f9 : Cond.fieldLink RX1 9 (TX1 0).1 (TX1 0).2.1 (TX1 0).2.2.1 ∈ gdT := gm_1 205 rfl rfl
theorem lk_RX2_f21 : Cond.fieldLink RX2 21 (TX2 1).1 (TX2 1).2.1 (TX2 1).2.2.1 ∈ gdT := gm_1 227 rfl rfl
theorem lk_RX2_f25 : Cond.fieldLink RX2 25 (TX4 2).1 (TX4 2).2.1 (TX4 2).2.2.1 ∈ gdT := gm_1 73 rfl rfl
theorem lk_RX2_f30 : Cond.fieldLink RX2 30 (TX4 0).1 (TX4 0).2.1 (TX4 0).2.2.1 ∈ gdT := gm_1 70 rfl rfl
theorem lk_RX2_f46 : Cond.fieldLink RX2 46 (TX2 2).1 (TX2 2).2.1 (TX2 2).2.2.1 ∈ gdT := gm_1 229 rfl rfl
theorem lk_RX2_f9 : Cond.fieldLink RX2 9 (TX2 0).1 (TX2 0).2.1 (TX2 0).2.2.1 ∈ gdT := gm_1 225 rfl rfl
theorem lk_RX3_f27 : Cond.fieldLink RX3 27 (TX5 0).1 (TX5 0).2.1 (TX5 0).2.2.1 ∈ gdT := gm_1 40 rfl rfl
theorem lk_RX4_f13 : Cond.fieldLink RX4 13 (TX4 1).1 (TX4 1).2.1 (TX4 1).2.2.1 ∈ gdT := gm_1 71 rfl rfl
theorem lk_RX4_f16 : Cond.fieldLink RX4 16 (TX4 2).1 (TX4 2).2.1 (TX4 2).2.2.1 ∈ gdT := gm_1 72 rfl rfl
theorem lk_RX4_f9 : Cond.fieldLink RX4 9 (TX4 0).1 (TX4 0).2.1 (TX4 0).2.2.1 ∈ gdT := gm_1 69 rfl rfl
theorem lk_RX5_f11 : Cond.fieldLink RX5 11 (TX5 0).1 (TX5 0).2.1 (TX5 0).2.2.1 ∈ gdT := gm_1 38 rfl rfl
theorem lk_RX5_f27 : Cond.fieldLink RX5 27 (TX5 1).1 (TX5 1).2.1 (TX5 1).2.2.1 ∈ gdT := gm_1 46 rfl rfl
theorem lk_RX5_f39 : Cond.fieldLink RX5 39 (TX5 2).1 (TX5 2).2.1 (TX5 2).2.2.1 ∈ gdT := gm_1 47 rfl rfl
theorem lk_RX6_f11 : Cond.fieldLink RX6 11 (TX6 0).1 (TX6 0).2.1 (TX6 0).2.2.1 ∈ gdT := gm_2 4 rfl rfl
theorem lk_RX6_f15 : Cond.fieldLink RX6 15 (TX6 1).1 (TX6 1).2.1 (TX6 1).2.2.1 ∈ gdT := gm_2 5 rfl rfl
theorem lk_RX6_f29 : Cond.fieldLink RX6 29 (TX9 0).1 (TX9 0).2.1 (TX9 0).2.2.1 ∈ gdT := gm_1 111 rfl rfl
theorem lk_RX7_f11 : Cond.fieldLink RX7 11 (TX7 0).1 (TX7 0).2.1 (TX7 0).2.2.1 ∈ gdT := gm_1 84 rfl rfl
theorem lk_RX7_f18 : Cond.fieldLink RX7 18 (TX7 1).1 (TX7 1).2.1 (TX7 1).2.2.1 ∈ gdT := gm_1 85 rfl rfl
theorem lk_RX7_f22 : Cond.fieldLink RX7 22 (TX7 2).1 (TX7 2).2.1 (TX7 2).2.2.1 ∈ gdT := gm_1 87 rfl rfl
theorem lk_RX7_f28 : Cond.fieldLink RX7 28 (TX4 2).1 (TX4 2).2.1 (TX4 2).2.2.1 ∈ gdT := gm_1 74 rfl rfl
theorem lk_RX7_f29 : Cond.fieldLink RX7 29 (TX7 3).1 (TX7 3).2.1 (TX7 3).2.2.1 ∈ gdT := gm_1 89 rfl rfl
theorem lk_RX7_f32 : Cond.fieldLink RX7 32 (TX7 4).1 (TX7 4).2.1 (TX7 4).2.2.1 ∈ gdT := gm_1 90 rfl rfl
theorem lk_RX8_f15 : Cond.fieldLink RX8 15 (TX8 1).1 (TX8 1).2.1 (TX8 1).2.2.1 ∈ gdT := gm_1 189 rfl rfl
theorem lk_RX8_f18 : Cond.fieldLink RX8 18 (TX8 2).1 (TX8 2).2.1 (TX8 2).2.2.1 ∈ gdT := gm_1 191 rfl rfl
theorem lk_RX8_f21 : Cond.fieldLink RX8 21 (TX5 1).1 (TX5 1).2.1 (TX5 1).2.2.1 ∈ gdT := gm_1 43 rfl rfl
theorem lk_RX8_f41 : Cond.fieldLink RX8 41 (TX5 0).1 (TX5 0).2.1 (TX5 0).2.2.1 ∈ gdT := gm_1 42 rfl rfl
theorem lk_RX8_f9 : Cond.fieldLink RX8 9 (TX8 0).1 (TX8 0).2.1 (TX8 0).2.2.1 ∈ gdT := gm_1 187 rfl rfl
theorem lk_RX9_f117 : Cond.fieldLink RX9 117 (TX9 10).1 (TX9 10).2.1 (TX9 10).2.2.1 ∈ gdT := gm_1 126 rfl rfl
theorem lk_RX9_f15 : Cond.fieldLink RX9 15 (TX9 1).1 (TX9 1).2.1 (TX9 1).2.2.1 ∈ gdT := gm_1 113 rfl rfl
theorem lk_RX9_f18 : Cond.fieldLink RX9 18 (TX9 2).1 (TX9 2).2.1 (TX9 2).2.2.1 ∈ gdT := gm_1 115 rfl rfl
theorem lk_RX9_f21 : Cond.fieldLink RX9 21 (TX9 3).1 (TX9 3).2.1 (TX9 3).2.2.1 ∈ gdT := gm_1 116 rfl rfl
theorem lk_RX9_f24 : Cond.fieldLink RX9 24 (TX9 4).1 (TX9 4).2.1 (TX9 4).2.2.1 ∈ gdT := gm_1 117 rfl rfl
theorem lk_RX9_f27 : Cond.fieldLink RX9 27 (TX9 5).1 (TX9 5).2.1 (TX9 5).2.2.1 ∈ gdT := gm_1 118 rfl rfl
theorem lk_RX9_f42 : Cond.fieldLink RX9 42 (TX9 7).1 (TX9 7).2.1 (TX9 7).2.2.1 ∈ gdT := gm_1 121 rfl rfl
theorem lk_RX9_f45 : Cond.fieldLink RX9 45 (TX9 9).1 (TX9 9).2.1 (TX9 9).2.2.1 ∈ gdT := gm_1 125 rfl rfl
theorem lk_RX9_f75 : Cond.fieldLink RX9 75 (TX9 6).1 (TX9 6).2.1 (TX9 6).2.2.1 ∈ gdT := gm_1 119 rfl rfl
theorem lk_RX9_f83 : Cond.fieldLink RX9 83 (TX9 11).1 (TX9 11).2.1 (TX9 11).2.2.1 ∈ gdT := gm_1 127 rfl rfl
theorem lk_RX9_f9 : Cond.fieldLink RX9 9 (TX9 0).1 (TX9 0).2.1 (TX9 0).2.2.1 ∈ gdT := gm_1 110 rfl rfl
theorem lk_RX11_f10 : Cond.fieldLink RX11 10 (TX11 0).1 (TX11 0).2.1 (TX11 0).2.2.1 ∈ gdT := gm_2 16 rfl rfl
theorem lk_RX11_f109 : Cond.fieldLink RX11 109 (TX5 0).1 (TX5 0).2.1 (TX5 0).2.2.1 ∈ gdT := gm_1 41 rfl rfl
theorem lk_RX11_f134 : Cond.fieldLink RX11 134 (TX7 1).1 (TX7 1).2.1 (TX7 1).2.2.1 ∈ gdT := gm_1 86 rfl rfl
theorem lk_RX11_f142 : Cond.fieldLink RX11 142 (TX11 10).1 (TX11 10).2.1 (TX11 10).2.2.1 ∈ gdT := gm_2 26 rfl rfl
theorem lk_RX11_f157 : Cond.fieldLink RX11 157 (TX4 2).1 (TX4 2).2.1 (TX4 2).2.2.1 ∈ gdT := gm_1 75 rfl rfl
theorem lk_RX11_f173 : Cond.fieldLink RX11 173 (TX9 0).1 (TX9 0).2.1 (TX9 0).2.2.1 ∈ gdT := gm_1 112 rfl rfl
theorem lk_RX11_f176 : Cond.fieldLink RX11 176 (TX9 1).1 (TX9 1).2.1 (TX9 1).2.2.1 ∈ gdT := gm_1 114 rfl rfl
theorem lk_RX11_f18 : Cond.fieldLink RX11 18 (TX11 1).1 (TX11 1).2.1 (TX11 1).2.2.1 ∈ gdT := gm_2 17 rfl rfl
theorem lk_RX11_f182 : Cond.fieldLink RX11 182 (TX9 6).1 (TX9 6).2.1 (TX9 6).2.2.1 ∈ gdT := gm_1 120 rfl rfl
theorem lk_RX11_f194 : Cond.fieldLink RX11 194 (TX8 0).1 (TX8 0).2.1 (TX8 0).2.2.1 ∈ gdT := gm_1 188 rfl rfl
theorem lk_RX11_f203 : Cond.fieldLink RX11 203 (TX8 1).1 (TX8 1).2.1 (TX8 1).2.2.1 ∈ gdT := gm_1 190 rfl rfl
theorem lk_RX11_f209 : Cond.fieldLink RX11 209 (TX9 8).1 (TX9 8).2.1 (TX9 8).2.2.1 ∈ gdT := gm_1 124 rfl rfl
theorem lk_RX11_f212 : Cond.fieldLink RX11 212 (TX9 7).1 (TX9 7).2.1 (TX9 7).2.2.1 ∈ gdT := gm_1 122 rfl rfl
theorem lk_RX11_f226 : Cond.fieldLink RX11 226 (TX1 0).1 (TX1 0).2.1 (TX1 0).2.2.1 ∈ gdT := gm_1 206 rfl rfl
theorem lk_RX11_f245 : Cond.fieldLink RX11 245 (TX2 1).1 (TX2 1).2.1 (TX2 1).2.2.1 ∈ gdT := gm_1 228 rfl rfl
theorem lk_RX11_f248 : Cond.fieldLink RX11 248 (TX2 2).1 (TX2 2).2.1 (TX2 2).2.2.1 ∈ gdT := gm_1 230 rfl rfl
theorem lk_RX11_f25 : Cond.fieldLink RX11 25 (TX11 2).1 (TX11 2).2.1 (TX11 2).2.2.1 ∈ gdT := gm_2 18 rfl rfl
theorem lk_RX11_f251 : Cond.fieldLink RX11 251 (TX2 0).1 (TX2 0).2.1 (TX2 0).2.2.1 ∈ gdT := gm_1 226 rfl rfl
theorem lk_RX11_f254 : Cond.fieldLink RX11 254 (TX6 1).1 (TX6 1).2.1 (TX6 1).2.2.1 ∈ gdT := gm_2 6 rfl rfl
theorem lk_RX11_f263 : Cond.fieldLink RX11 263 (TX0 2).1 (TX0 2).2.1 (TX0 2).2.2.1 ∈ gdT := gm_1 165 rfl rfl
theorem lk_RX11_f264 : Cond.fieldLink RX11 264 (TX0 1).1 (TX0 1).2.1 (TX0 1).2.2.1 ∈ gdT := gm_1 163 rfl rfl
theorem lk_RX11_f268 : Cond.fieldLink RX11 268 (TX0 3).1 (TX0 3).2.1 (TX0 3).2.2.1 ∈ gdT := gm_1 167 rfl rfl
theorem lk_RX11_f271 : Cond.fieldLink RX11 271 (TX0 4).1 (TX0 4).2.1 (TX0 4).2.2.1 ∈ gdT := gm_1 169 rfl rfl
theorem lk_RX11_f274 : Cond.fieldLink RX11 274 (TX5 2).1 (TX5 2).2.1 (TX5 2).2.2.1 ∈ gdT := gm_1 48 rfl rfl
theorem lk_RX11_f277 : Cond.fieldLink RX11 277 (TX7 2).1 (TX7 2).2.1 (TX7 2).2.2.1 ∈ gdT := gm_1 88 rfl rfl
theorem lk_RX11_f31 : Cond.fieldLink RX11 31 (TX11 3).1 (TX11 3).2.1 (TX11 3).2.2.1 ∈ gdT := gm_2 19 rfl rfl
theorem lk_RX11_f38 : Cond.fieldLink RX11 38 (TX11 4).1 (TX11 4).2.1 (TX11 4).2.2.1 ∈ gdT := gm_2 20 rfl rfl
theorem lk_RX11_f45 : Cond.fieldLink RX11 45 (TX11 5).1 (TX11 5).2.1 (TX11 5).2.2.1 ∈ gdT := gm_2 21 rfl rfl
theorem lk_RX11_f52 : Cond.fieldLink RX11 52 (TX11 6).1 (TX11 6).2.1 (TX11 6).2.2.1 ∈ gdT := gm_2 22 rfl rfl
theorem lk_RX11_f59 : Cond.fieldLink RX11 59 (TX11 7).1 (TX11 7).2.1 (TX11 7).2.2.1 ∈ gdT := gm_2 23 rfl rfl
theorem lk_RX11_f66 : Cond.fieldLink RX11 66 (TX11 8).1 (TX11 8).2.1 (TX11 8).2.2.1 ∈ gdT := gm_2 24 rfl rfl
theorem lk_RX11_f73 : Cond.fieldLink RX11 73 (TX11 9).1 (TX11 9).2.1 (TX11 9).2.2.1 ∈ gdT := gm_2 25 rfl rfl
theorem lk_RX11_f95 : Cond.fieldLink RX11 95 (TX5 1).1 (TX5 1).2.1 (TX5 1).2.2.1 ∈ gdT := gm_1 45 rfl rfl
theorem lk_RX11_f99 : Cond.fieldLink RX11 99 (TX11 11).1 (TX11 11).2.1 (TX11 11).2.2.1 ∈ gdT := gm_2 27 rfl rfl
theorem lk_RX12_f121 : Cond.fieldLink RX12 121 (TX12 8).1 (TX12 8).2.1 (TX12 8).2.2.1 ∈ gdT := gm_4 90 rfl rfl
theorem lk_RX12_f126 : Cond.fieldLink RX12 126 (TX12 10).1 (TX12 10).2.1 (TX12 10).2.2.1 ∈ gdT := gm_4 92 rfl rfl
theorem lk_RX12_f129 : Cond.fieldLink RX12 129 (TX12 11).1 (TX12 11).2.1 (TX12 11).2.2.1 ∈ gdT := gm_4 93 rfl rfl
theorem lk_RX12_f13 : Cond.fieldLink RX12 13 (TX12 2).1 (TX12 2).2.1 (TX12 2).2.2.1 ∈ gdT := gm_4 84 rfl rfl
theorem lk_RX12_f132 : Cond.fieldLink RX12 132 (TX12 13).1 (TX12 13).2.1 (TX12 13).2.2.1 ∈ gdT := gm_4 95 rfl rfl
theorem lk_RX12_f135 : Cond.fieldLink RX12 135 (TX12 14).1 (TX12 14).2.1 (TX12 14).2.2.1 ∈ gdT := gm_4 96 rfl rfl
theorem lk_RX12_f140 : Cond.fieldLink RX12 140 (TX12 12).1 (TX12 12).2.1 (TX12 12).2.2.1 ∈ gdT := gm_4 94 rfl rfl
theorem lk_RX12_f152 : Cond.fieldLink RX12 152 (TX12 15).1 (TX12 15).2.1 (TX12 15).2.2.1 ∈ gdT := gm_4 97 rfl rfl
theorem lk_RX12_f16 : Cond.fieldLink RX12 16 (TX12 3).1 (TX12 3).2.1 (TX12 3).2.2.1 ∈ gdT := gm_4 85 rfl rfl
theorem lk_RX12_f185 : Cond.fieldLink RX12 185 (TX12 16).1 (TX12 16).2.1 (TX12 16).2.2.1 ∈ gdT := gm_4 98 rfl rfl
theorem lk_RX12_f19 : Cond.fieldLink RX12 19 (TX12 4).1 (TX12 4).2.1 (TX12 4).2.2.1 ∈ gdT := gm_4 86 rfl rfl
theorem lk_RX12_f22 : Cond.fieldLink RX12 22 (TX12 5).1 (TX12 5).2.1 (TX12 5).2.2.1 ∈ gdT := gm_4 87 rfl rfl
theorem lk_RX12_f228 : Cond.fieldLink RX12 228 (TX12 20).1 (TX12 20).2.1 (TX12 20).2.2.1 ∈ gdT := gm_4 102 rfl rfl
theorem lk_RX12_f25 : Cond.fieldLink RX12 25 (TX12 6).1 (TX12 6).2.1 (TX12 6).2.2.1 ∈ gdT := gm_4 88 rfl rfl
theorem lk_RX12_f273 : Cond.fieldLink RX12 273 (TX12 38).1 (TX12 38).2.1 (TX12 38).2.2.1 ∈ gdT := gm_4 120 rfl rfl
theorem lk_RX12_f28 : Cond.fieldLink RX12 28 (TX12 7).1 (TX12 7).2.1 (TX12 7).2.2.1 ∈ gdT := gm_4 89 rfl rfl
theorem lk_RX12_f280 : Cond.fieldLink RX12 280 (TX12 39).1 (TX12 39).2.1 (TX12 39).2.2.1 ∈ gdT := gm_4 121 rfl rfl
theorem lk_RX12_f31 : Cond.fieldLink RX12 31 (TX12 9).1 (TX12 9).2.1 (TX12 9).2.2.1 ∈ gdT := gm_4 91 rfl rfl
theorem lk_RX12_f34 : Cond.fieldLink RX12 34 (TX12 17).1 (TX12 17).2.1 (TX12 17).2.2.1 ∈ gdT := gm_4 99 rfl rfl
theorem lk_RX12_f37 : Cond.fieldLink RX12 37 (TX12 18).1 (TX12 18).2.1 (TX12 18).2.2.1 ∈ gdT := gm_4 100 rfl rfl
theorem lk_RX12_f40 : Cond.fieldLink RX12 40 (TX12 19).1 (TX12 19).2.1 (TX12 19).2.2.1 ∈ gdT := gm_4 101 rfl rfl
theorem lk_RX12_f43 : Cond.fieldLink RX12 43 (TX12 21).1 (TX12 21).2.1 (TX12 21).2.2.1 ∈ gdT := gm_4 103 rfl rfl
theorem lk_RX12_f46 : Cond.fieldLink RX12 46 (TX12 22).1 (TX12 22).2.1 (TX12 22).2.2.1 ∈ gdT := gm_4 104 rfl rfl
theorem lk_RX12_f49 : Cond.fieldLink RX12 49 (TX12 23).1 (TX12 23).2.1 (TX12 23).2.2.1 ∈ gdT := gm_4 105 rfl rfl
theorem lk_RX12_f52 : Cond.fieldLink RX12 52 (TX12 24).1 (TX12 24).2.1 (TX12 24).2.2.1 ∈ gdT := gm_4 106 rfl rfl
theorem lk_RX12_f55 : Cond.fieldLink RX12 55 (TX12 25).1 (TX12 25).2.1 (TX12 25).2.2.1 ∈ gdT := gm_4 107 rfl rfl
theorem lk_RX12_f58 : Cond.fieldLink RX12 58 (TX12 26).1 (TX12 26).2.1 (TX12 26).2.2.1 ∈ gdT := gm_4 108 rfl rfl
theorem lk_RX12_f61 : Cond.fieldLink RX12 61 (TX12 27).1 (TX12 27).2.1 (TX12 27).2.2.1 ∈ gdT := gm_4 109 rfl rfl
theorem lk_RX12_f64 : Cond.fieldLink RX12 64 (TX12 28).1 (TX12 28).2.1 (TX12 28).2.2.1 ∈ gdT := gm_4 110 rfl rfl
theorem lk_RX12_f67 : Cond.fieldLink RX12 67 (TX12 29).1 (TX12 29).2.1 (TX12 29).2.2.1 ∈ gdT := gm_4 111 rfl rfl
theorem lk_RX12_f7 : Cond.fieldLink RX12 7 (TX12 1).1 (TX12 1).2.1 (TX12 1).2.2.1 ∈ gdT := gm_4 83 rfl rfl
theorem lk_RX12_f70 : Cond.fieldLink RX12 70 (TX12 30).1 (TX12 30).2.1 (TX12 30).2.2.1 ∈ gdT := gm_4 112 rfl rfl
theorem lk_RX12_f74 : Cond.fieldLink RX12 74 (TX12 31).1 (TX12 31).2.1 (TX12 31).2.2.1 ∈ gdT := gm_4 113 rfl rfl
theorem lk_RX12_f77 : Cond.fieldLink RX12 77 (TX12 32).1 (TX12 32).2.1 (TX12 32).2.2.1 ∈ gdT := gm_4 114 rfl rfl
theorem lk_RX12_f80 : Cond.fieldLink RX12 80 (TX12 33).1 (TX12 33).2.1 (TX12 33).2.2.1 ∈ gdT := gm_4 115 rfl rfl
theorem lk_RX12_f83 : Cond.fieldLink RX12 83 (TX12 34).1 (TX12 34).2.1 (TX12 34).2.2.1 ∈ gdT := gm_4 116 rfl rfl
theorem lk_RX12_f86 : Cond.fieldLink RX12 86 (TX12 35).1 (TX12 35).2.1 (TX12 35).2.2.1 ∈ gdT := gm_4 117 rfl rfl
theorem lk_RX12_f89 : Cond.fieldLink RX12 89 (TX12 36).1 (TX12 36).2.1 (TX12 36).2.2.1 ∈ gdT := gm_4 118 rfl rfl
theorem lk_RX12_f92 : Cond.fieldLink RX12 92 (TX12 37).1 (TX12 37).2.1 (TX12 37).2.2.1 ∈ gdT := gm_4 119 rfl rfl
theorem lk_RX12_f95 : Cond.fieldLink RX12 95 (TX12 40).1 (TX12 40).2.1 (TX12 40).2.2.1 ∈ gdT := gm_4 122 rfl rfl
theorem lk_RX12_f98 : Cond.fieldLink RX12 98 (TX12 0).1 (TX12 0).2.1 (TX12 0).2.2.1 ∈ gdT := gm_4 82 rfl rfl
theorem lk_RX7_l26 : Cond.constantLong RX7 26 (255) ∈ gdT := gm_2 121 rfl rfl
theorem lk_RL_l36 : Cond.constantLong RL 36 (4294967295) ∈ gdT := gm_5 212 rfl rfl
theorem lk_RX12_l124 : Cond.constantLong RX12 124 (255) ∈ gdT := gm_5 9 rfl rfl
theorem lk_RX12_l138 : Cond.constantLong RX12 138 (-2) ∈ gdT := gm_5 26 rfl rfl
theorem lk_RX12_l144 : Cond.constantLong RX12 144 (27) ∈ gdT := gm_5 27 rfl rfl
theorem lk_RX12_l146 : Cond.constantLong RX12 146 (96) ∈ gdT := gm_5 28 rfl rfl
theorem lk_RX12_l148 : Cond.constantLong RX12 148 (-4) ∈ gdT := gm_5 29 rfl rfl
theorem lk_RX12_l150 : Cond.constantLong RX12 150 (-1) ∈ gdT := gm_5 30 rfl rfl
theorem lk_RX12_l155 : Cond.constantLong RX12 155 (1065) ∈ gdT := gm_5 35 rfl rfl
theorem lk_RX12_l157 : Cond.constantLong RX12 157 (223456) ∈ gdT := gm_5 36 rfl rfl
theorem lk_RX12_l159 : Cond.constantLong RX12 159 (51266052) ∈ gdT := gm_5 37 rfl rfl
theorem lk_RX12_l161 : Cond.constantLong RX12 161 (257105) ∈ gdT := gm_5 38 rfl rfl
theorem lk_RX12_l163 : Cond.constantLong RX12 163 (10631) ∈ gdT := gm_5 39 rfl rfl
theorem lk_RX12_l165 : Cond.constantLong RX12 165 (1111) ∈ gdT := gm_5 40 rfl rfl
theorem lk_RX12_l167 : Cond.constantLong RX12 167 (423) ∈ gdT := gm_5 41 rfl rfl
theorem lk_RX12_l169 : Cond.constantLong RX12 169 (2045) ∈ gdT := gm_5 42 rfl rfl
theorem lk_RX12_l171 : Cond.constantLong RX12 171 (31735670) ∈ gdT := gm_5 43 rfl rfl
theorem lk_RX12_l173 : Cond.constantLong RX12 173 (400360) ∈ gdT := gm_5 44 rfl rfl
theorem lk_RX12_l175 : Cond.constantLong RX12 175 (267347) ∈ gdT := gm_5 45 rfl rfl
theorem lk_RX12_l177 : Cond.constantLong RX12 177 (6476969) ∈ gdT := gm_5 46 rfl rfl
theorem lk_RX12_l179 : Cond.constantLong RX12 179 (127558330490) ∈ gdT := gm_5 47 rfl rfl
theorem lk_RX12_l181 : Cond.constantLong RX12 181 (275356804) ∈ gdT := gm_5 48 rfl rfl
theorem lk_RX12_l183 : Cond.constantLong RX12 183 (305800) ∈ gdT := gm_5 49 rfl rfl
theorem lk_RX2_m56 : Cond.methodLink RX2 56 Lib.Math.max.name ∈ gdT := gm_4 23 rfl rfl
theorem lk_RX4_m24 : Cond.methodLink RX4 24 Lib.Math.min.name ∈ gdT := gm_2 234 rfl rfl
theorem lk_RX5_m70 : Cond.methodLink RX5 70 Lib.Math.max.name ∈ gdT := gm_3 22 rfl rfl
theorem lk_RX5_m75 : Cond.methodLink RX5 75 Lib.Math.min.name ∈ gdT := gm_3 33 rfl rfl
theorem lk_RX6_m32 : Cond.methodLink RX6 32 Lib.Math.min.name ∈ gdT := gm_4 50 rfl rfl
theorem lk_RX9_m107 : Cond.methodLink RX9 107 Lib.Math.max.name ∈ gdT := gm_3 96 rfl rfl
theorem lk_RX9_m98 : Cond.methodLink RX9 98 Lib.Math.min.name ∈ gdT := gm_3 106 rfl rfl
theorem lk_RX1_m44 : Cond.methodLinkNest RX1 44 yX11_isWithin "GreenDoor" ∈ lw_tbl := tb_3 (List.mem_of_getElem? (i := 228) rfl)
theorem lk_RX2_m49 : Cond.methodLinkNest RX2 49 yX11_isWithin "GreenDoor" ∈ lw_tbl := tb_4 (List.mem_of_getElem? (i := 21) rfl)
theorem lk_RX4_m48 : Cond.methodLinkNest RX4 48 yX11_isWithin "GreenDoor" ∈ lw_tbl := tb_3 (List.mem_of_getElem? (i := 51) rfl)
theorem lk_RX5_m20 : Cond.methodLinkNest RX5 20 yX11_isWithin "GreenDoor" ∈ lw_tbl := tb_2 (List.mem_of_getElem? (i := 62) rfl)
theorem lk_RX7_m49 : Cond.methodLinkNest RX7 49 yX11_isWithin "GreenDoor" ∈ lw_tbl := tb_2 (List.mem_of_getElem? (i := 146) rfl)
theorem lk_RX9_m34 : Cond.methodLinkNest RX9 34 yX11_isWithin "GreenDoor" ∈ lw_tbl := tb_3 (List.mem_of_getElem? (i := 117) rfl)
theorem lk_RX10_m12 : Cond.methodLinkNest RX10 12 yX11_isWithin "GreenDoor" ∈ lw_tbl := tb_2 (List.mem_of_getElem? (i := 213) rfl)
theorem lk_RX5_s16 : Cond.fieldLink RX5 16 (stn 0).1 (stn 0).2 "[B" ∈ gdT := gm_2 60 rfl rfl
theorem lk_RX5_s24 : Cond.fieldLink RX5 24 (stn 1).1 (stn 1).2 "[B" ∈ gdT := gm_2 65 rfl rfl
theorem lk_RX10_s16 : Cond.fieldLink RX10 16 (stn 2).1 (stn 2).2 "[B" ∈ gdT := gm_2 219 rfl rfl
theorem lk_RX10_s20 : Cond.fieldLink RX10 20 (stn 3).1 (stn 3).2 "[B" ∈ gdT := gm_2 214 rfl rfl
theorem lk_RX10_s23 : Cond.fieldLink RX10 23 (stn 4).1 (stn 4).2 "[B" ∈ gdT := gm_4 10 rfl rfl
theorem lk_RX10_s26 : Cond.fieldLink RX10 26 (stn 5).1 (stn 5).2 "[B" ∈ gdT := gm_4 15 rfl rfl
