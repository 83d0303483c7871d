abbrev mX0_isThere : mt := (yX0_isThere, cX0_isThere, 1, { frames := 0, cells := 0, slots := 0, locals := 0 }, (some .boolean))
abbrev mX0_outer : mt := (yX0_outer, cX0_outer, 1, { frames := 0, cells := 0, slots := 0, locals := 0 }, (some (.object "AreaCrossings$Ring")))
abbrev mX2_size : mt := (yX2_size, cX2_size, 1, { frames := 0, cells := 0, slots := 0, locals := 0 }, (some .int))
abbrev mX0_isUntouched : mt := (yX0_isUntouched, cX0_isUntouched, 1, { frames := 1, cells := 0, slots := 0, locals := 20 }, (some .boolean))
abbrev mX0_closedRings : mt := (yX0_closedRings, cX0_closedRings, 1, { frames := 0, cells := 0, slots := 0, locals := 0 }, (some .int))
abbrev mX0_ringOf : mt := (yX0_ringOf, cX0_ringOf, 2, { frames := 0, cells := 0, slots := 0, locals := 0 }, (some (.object "AreaCrossings$Ring")))
abbrev mX0_fastFrom : mt := (yX0_fastFrom, cX0_fastFrom, 1, { frames := 0, cells := 0, slots := 0, locals := 0 }, (some .long))
abbrev mX0_setFastFrom : mt := (yX0_setFastFrom, cX0_setFastFrom, 3, { frames := 0, cells := 0, slots := 0, locals := 0 }, none)
abbrev mX0_beingMade : mt := (yX0_beingMade, cX0_beingMade, 1, { frames := 0, cells := 0, slots := 0, locals := 0 }, (some (.object "AreaCrossings$Ring")))
abbrev mX2_add : mt := (yX2_add, cX2_add, 3, { frames := 0, cells := 0, slots := 0, locals := 0 }, (some .boolean))
abbrev mX0_addCorner : mt := (yX0_addCorner, cX0_addCorner, 4, { frames := 1, cells := 0, slots := 0, locals := 22 }, (some .boolean))
abbrev mX2_clear : mt := (yX2_clear, cX2_clear, 1, { frames := 0, cells := 0, slots := 0, locals := 0 }, none)
abbrev mX0_beginHole : mt := (yX0_beginHole, cX0_beginHole, 1, { frames := 1, cells := 0, slots := 0, locals := 20 }, (some .boolean))
abbrev mX2_next : mt := (yX2_next, cX2_next, 2, { frames := 0, cells := 0, slots := 0, locals := 0 }, (some .int))
abbrev mX2_spans : mt := (yX2_spans, cX2_spans, 9, { frames := 1, cells := 0, slots := 0, locals := 21 }, (some .boolean))
abbrev mX2_turn : mt := (yX2_turn, cX2_turn, 13, { frames := 1, cells := 0, slots := 0, locals := 21 }, (some .long))
abbrev mX2_locate : mt := (yX2_locate, cX2_locate, 13, { frames := 2, cells := 0, slots := 0, locals := 53 }, (some .int))
abbrev mX0_contains : mt := (yX0_contains, cX0_contains, 8, { frames := 3, cells := 0, slots := 0, locals := 85 }, (some .boolean))
abbrev mX2_areOpposite : mt := (yX2_areOpposite, cX2_areOpposite, 4, { frames := 0, cells := 0, slots := 0, locals := 0 }, (some .boolean))
abbrev mX2_sidesMeet : mt := (yX2_sidesMeet, cX2_sidesMeet, 14, { frames := 2, cells := 0, slots := 0, locals := 53 }, (some .boolean))
abbrev mX2_meets : mt := (yX2_meets, cX2_meets, 4, { frames := 3, cells := 0, slots := 0, locals := 86 }, (some .boolean))
abbrev mX2_xOf : mt := (yX2_xOf, cX2_xOf, 2, { frames := 0, cells := 0, slots := 0, locals := 0 }, (some .int))
abbrev mX2_yOf : mt := (yX2_yOf, cX2_yOf, 2, { frames := 0, cells := 0, slots := 0, locals := 0 }, (some .int))
abbrev mX0_fitsAsHole : mt := (yX0_fitsAsHole, cX0_fitsAsHole, 3, { frames := 4, cells := 0, slots := 0, locals := 112 }, (some .boolean))
abbrev mX2_foldsBackAt : mt := (yX2_foldsBackAt, cX2_foldsBackAt, 8, { frames := 0, cells := 0, slots := 0, locals := 0 }, (some .boolean))
abbrev mX2_isSimple : mt := (yX2_isSimple, cX2_isSimple, 4, { frames := 3, cells := 0, slots := 0, locals := 86 }, (some .boolean))
abbrev mX0_closeRing : mt := (yX0_closeRing, cX0_closeRing, 2, { frames := 5, cells := 0, slots := 0, locals := 134 }, (some .boolean))
abbrev mX0_becomeSquare : mt := (yX0_becomeSquare, cX0_becomeSquare, 5, { frames := 1, cells := 0, slots := 0, locals := 22 }, none)
abbrev mX2_isSideNear : mt := (yX2_isSideNear, cX2_isSideNear, 25, { frames := 2, cells := 0, slots := 0, locals := 53 }, (some .boolean))
abbrev mX2_isNear : mt := (yX2_isNear, cX2_isNear, 8, { frames := 3, cells := 0, slots := 0, locals := 97 }, (some .boolean))
abbrev mX0_isInOrNear : mt := (yX0_isInOrNear, cX0_isInOrNear, 8, { frames := 4, cells := 0, slots := 0, locals := 124 }, (some .boolean))
abbrev mX1_clear : mt := (yX1_clear, cX1_clear, 1, { frames := 0, cells := 0, slots := 0, locals := 0 }, none)
abbrev mX1_size : mt := (yX1_size, cX1_size, 1, { frames := 0, cells := 0, slots := 0, locals := 0 }, (some .int))
abbrev mX1_has : mt := (yX1_has, cX1_has, 2, { frames := 0, cells := 0, slots := 0, locals := 0 }, (some .boolean))
abbrev mX1_add : mt := (yX1_add, cX1_add, 8, { frames := 0, cells := 0, slots := 0, locals := 0 }, (some .boolean))
abbrev mX1_pieceOf : mt := (yX1_pieceOf, cX1_pieceOf, 2, { frames := 1, cells := 0, slots := 0, locals := 21 }, (some .int))
abbrev mX1_areaOf : mt := (yX1_areaOf, cX1_areaOf, 2, { frames := 1, cells := 0, slots := 0, locals := 21 }, (some .int))
abbrev mX1_isEntering : mt := (yX1_isEntering, cX1_isEntering, 2, { frames := 1, cells := 0, slots := 0, locals := 21 }, (some .boolean))
abbrev mX1_overOf : mt := (yX1_overOf, cX1_overOf, 2, { frames := 1, cells := 0, slots := 0, locals := 21 }, (some .long))
abbrev mX1_underOf : mt := (yX1_underOf, cX1_underOf, 2, { frames := 1, cells := 0, slots := 0, locals := 21 }, (some .long))
abbrev mX2_holdsFirstCornerOf : mt := (yX2_holdsFirstCornerOf, cX2_holdsFirstCornerOf, 2, { frames := 3, cells := 0, slots := 0, locals := 85 }, (some .boolean))
abbrev mX2_reaches : mt := (yX2_reaches, cX2_reaches, 9, { frames := 0, cells := 0, slots := 0, locals := 0 }, (some .boolean))
abbrev mX2_reachesX : mt := (yX2_reachesX, cX2_reachesX, 5, { frames := 1, cells := 0, slots := 0, locals := 28 }, (some .boolean))
abbrev mX2_reachesY : mt := (yX2_reachesY, cX2_reachesY, 5, { frames := 1, cells := 0, slots := 0, locals := 28 }, (some .boolean))
abbrev mX3_room : mt := (yX3_room, cX3_room, 1, { frames := 0, cells := 0, slots := 0, locals := 0 }, (some .int))
abbrev mX3_add : mt := (yX3_add, cX3_add, 5, { frames := 0, cells := 0, slots := 0, locals := 0 }, (some .boolean))
abbrev mX3_applies : mt := (yX3_applies, cX3_applies, 5, { frames := 0, cells := 0, slots := 0, locals := 0 }, (some .boolean))
abbrev mX3_bar : mt := (yX3_bar, cX3_bar, 6, { frames := 1, cells := 0, slots := 0, locals := 24 }, (some .boolean))
abbrev mX3_barAny : mt := (yX3_barAny, cX3_barAny, 5, { frames := 1, cells := 0, slots := 0, locals := 24 }, (some .boolean))
abbrev mX4_greatestDivisor : mt := (yX4_greatestDivisor, cX4_greatestDivisor, 11, { frames := 0, cells := 0, slots := 0, locals := 0 }, (some .long))
abbrev mX4_isShare : mt := (yX4_isShare, cX4_isShare, 4, { frames := 0, cells := 0, slots := 0, locals := 0 }, (some .boolean))
abbrev mX4_addCut : mt := (yX4_addCut, cX4_addCut, 8, { frames := 1, cells := 0, slots := 0, locals := 30 }, none)
abbrev mX4_cutAtSide : mt := (yX4_cutAtSide, cX4_cutAtSide, 20, { frames := 2, cells := 0, slots := 0, locals := 57 }, none)
abbrev mX5_xOf : mt := (yX5_xOf, cX5_xOf, 2, { frames := 0, cells := 0, slots := 0, locals := 0 }, (some .int))
abbrev mX5_yOf : mt := (yX5_yOf, cX5_yOf, 2, { frames := 0, cells := 0, slots := 0, locals := 0 }, (some .int))
abbrev mX4_cutPiece : mt := (yX4_cutPiece, cX4_cutPiece, 7, { frames := 3, cells := 0, slots := 0, locals := 96 }, none)
abbrev mX4_isIn : mt := (yX4_isIn, cX4_isIn, 6, { frames := 4, cells := 0, slots := 0, locals := 112 }, (some .boolean))
abbrev mX4_middleOver : mt := (yX4_middleOver, cX4_middleOver, 2, { frames := 0, cells := 0, slots := 0, locals := 0 }, (some .long))
abbrev mX4_middleUnder : mt := (yX4_middleUnder, cX4_middleUnder, 2, { frames := 0, cells := 0, slots := 0, locals := 0 }, (some .long))
abbrev mX4_find : mt := (yX4_find, cX4_find, 7, { frames := 5, cells := 0, slots := 0, locals := 137 }, none)
abbrev mX4_size : mt := (yX4_size, cX4_size, 1, { frames := 0, cells := 0, slots := 0, locals := 0 }, (some .int))
abbrev mX4_beginOf : mt := (yX4_beginOf, cX4_beginOf, 2, { frames := 0, cells := 0, slots := 0, locals := 0 }, (some .int))
abbrev mX4_endOf : mt := (yX4_endOf, cX4_endOf, 2, { frames := 0, cells := 0, slots := 0, locals := 0 }, (some .int))
abbrev mX4_isPieceBegin : mt := (yX4_isPieceBegin, cX4_isPieceBegin, 2, { frames := 0, cells := 0, slots := 0, locals := 0 }, (some .boolean))
abbrev mX4_isPieceEnd : mt := (yX4_isPieceEnd, cX4_isPieceEnd, 2, { frames := 0, cells := 0, slots := 0, locals := 0 }, (some .boolean))
abbrev mX4_overOf : mt := (yX4_overOf, cX4_overOf, 2, { frames := 0, cells := 0, slots := 0, locals := 0 }, (some .long))
abbrev mX4_underOf : mt := (yX4_underOf, cX4_underOf, 2, { frames := 0, cells := 0, slots := 0, locals := 0 }, (some .long))
abbrev mX4_shareOf : mt := (yX4_shareOf, cX4_shareOf, 10, { frames := 1, cells := 0, slots := 0, locals := 21 }, (some .long))
abbrev mX5_add : mt := (yX5_add, cX5_add, 5, { frames := 0, cells := 0, slots := 0, locals := 0 }, (some .boolean))
abbrev mX5_places : mt := (yX5_places, cX5_places, 1, { frames := 0, cells := 0, slots := 0, locals := 0 }, (some .int))
abbrev mX5_pieces : mt := (yX5_pieces, cX5_pieces, 1, { frames := 1, cells := 0, slots := 0, locals := 21 }, (some .int))
abbrev mX5_hasPiece : mt := (yX5_hasPiece, cX5_hasPiece, 2, { frames := 0, cells := 0, slots := 0, locals := 0 }, (some .boolean))
abbrev mX5_secondsOf : mt := (yX5_secondsOf, cX5_secondsOf, 2, { frames := 1, cells := 0, slots := 0, locals := 21 }, (some .long))
abbrev mX5_hoursBegunOf : mt := (yX5_hoursBegunOf, cX5_hoursBegunOf, 2, { frames := 2, cells := 0, slots := 0, locals := 42 }, (some .long))
abbrev mX5_dayOf : mt := (yX5_dayOf, cX5_dayOf, 2, { frames := 1, cells := 0, slots := 0, locals := 21 }, (some .long))
abbrev mX5_isGap : mt := (yX5_isGap, cX5_isGap, 2, { frames := 2, cells := 0, slots := 0, locals := 42 }, (some .boolean))
abbrev mX5_pieceOfGap : mt := (yX5_pieceOfGap, cX5_pieceOfGap, 4, { frames := 3, cells := 0, slots := 0, locals := 63 }, (some .int))
abbrev mX5_isFast : mt := (yX5_isFast, cX5_isFast, 12, { frames := 3, cells := 0, slots := 0, locals := 63 }, (some .boolean))
abbrev mX6_isArea : mt := (yX6_isArea, cX6_isArea, 2, { frames := 0, cells := 0, slots := 0, locals := 0 }, (some .boolean))
abbrev mX6_ring : mt := (yX6_ring, cX6_ring, 2, { frames := 6, cells := 0, slots := 0, locals := 155 }, (some .boolean))
abbrev mX6_hole : mt := (yX6_hole, cX6_hole, 2, { frames := 2, cells := 0, slots := 0, locals := 40 }, (some .boolean))
abbrev mX6_isGear : mt := (yX6_isGear, cX6_isGear, 1, { frames := 0, cells := 0, slots := 0, locals := 0 }, (some .boolean))
abbrev mX6_bars : mt := (yX6_bars, cX6_bars, 5, { frames := 1, cells := 0, slots := 0, locals := 24 }, (some .boolean))
abbrev mX6_speed : mt := (yX6_speed, cX6_speed, 4, { frames := 1, cells := 0, slots := 0, locals := 22 }, (some .boolean))
abbrev mX6_firstUntouchedArea : mt := (yX6_firstUntouchedArea, cX6_firstUntouchedArea, 2, { frames := 2, cells := 0, slots := 0, locals := 40 }, (some .int))
abbrev mX6_isCoordinate : mt := (yX6_isCoordinate, cX6_isCoordinate, 2, { frames := 0, cells := 0, slots := 0, locals := 0 }, (some .boolean))
abbrev mX6_isPlace : mt := (yX6_isPlace, cX6_isPlace, 4, { frames := 1, cells := 0, slots := 0, locals := 21 }, (some .boolean))
abbrev mX6_report : mt := (yX6_report, cX6_report, 10, { frames := 3, cells := 0, slots := 0, locals := 61 }, (some .int))
abbrev mX6_track : mt := (yX6_track, cX6_track, 1, { frames := 0, cells := 0, slots := 0, locals := 0 }, (some .int))
abbrev mX6_isTrack : mt := (yX6_isTrack, cX6_isTrack, 2, { frames := 0, cells := 0, slots := 0, locals := 0 }, (some .boolean))
abbrev mX6_place : mt := (yX6_place, cX6_place, 8, { frames := 2, cells := 0, slots := 0, locals := 44 }, (some .boolean))
abbrev mX6_isThere : mt := (yX6_isThere, cX6_isThere, 2, { frames := 1, cells := 0, slots := 0, locals := 21 }, (some .boolean))
abbrev mX6_counts : mt := (yX6_counts, cX6_counts, 5, { frames := 4, cells := 0, slots := 0, locals := 94 }, (some .boolean))
abbrev mX6_noteCrossings : mt := (yX6_noteCrossings, cX6_noteCrossings, 11, { frames := 6, cells := 0, slots := 0, locals := 163 }, (some .boolean))
abbrev mX6_run : mt := (yX6_run, cX6_run, 6, { frames := 7, cells := 0, slots := 0, locals := 193 }, (some .int))
abbrev mX6_side : mt := (yX6_side, cX6_side, 2, { frames := 2, cells := 0, slots := 0, locals := 42 }, (some .int))
abbrev mX6_thousandthsIn : mt := (yX6_thousandthsIn, cX6_thousandthsIn, 7, { frames := 6, cells := 0, slots := 0, locals := 163 }, (some .long))
abbrev mX6_inside : mt := (yX6_inside, cX6_inside, 8, { frames := 7, cells := 0, slots := 0, locals := 189 }, (some .long))
abbrev mX6_mayHaveBeenNear : mt := (yX6_mayHaveBeenNear, cX6_mayHaveBeenNear, 14, { frames := 3, cells := 0, slots := 0, locals := 63 }, (some .boolean))
abbrev mX6_maybe : mt := (yX6_maybe, cX6_maybe, 5, { frames := 4, cells := 0, slots := 0, locals := 96 }, (some .boolean))
abbrev mX6_buffer : mt := (yX6_buffer, cX6_buffer, 8, { frames := 5, cells := 0, slots := 0, locals := 151 }, (some .int))
abbrev mX6_told : mt := (yX6_told, cX6_told, 4, { frames := 2, cells := 0, slots := 0, locals := 48 }, (some .boolean))
abbrev mX6_overlap : mt := (yX6_overlap, cX6_overlap, 5, { frames := 4, cells := 0, slots := 0, locals := 109 }, (some .int))
abbrev mX6_cell : mt := (yX6_cell, cX6_cell, 7, { frames := 4, cells := 0, slots := 0, locals := 112 }, (some .int))
abbrev mX7_thrown : mt := (yX7_thrown, cX7_thrown, 1, { frames := 0, cells := 0, slots := 0, locals := 0 }, (some .int))
abbrev mX7_isIn : mt := (yX7_isIn, cX7_isIn, 6, { frames := 0, cells := 0, slots := 0, locals := 0 }, (some .boolean))
abbrev mX7_isArea : mt := (yX7_isArea, cX7_isArea, 2, { frames := 0, cells := 0, slots := 0, locals := 0 }, (some .boolean))
abbrev mX7_isThere : mt := (yX7_isThere, cX7_isThere, 2, { frames := 1, cells := 0, slots := 0, locals := 21 }, (some .boolean))
abbrev mX7_signOf : mt := (yX7_signOf, cX7_signOf, 2, { frames := 0, cells := 0, slots := 0, locals := 0 }, (some .int))
abbrev mX7_less : mt := (yX7_less, cX7_less, 4, { frames := 0, cells := 0, slots := 0, locals := 0 }, (some .long))
abbrev mX7_more : mt := (yX7_more, cX7_more, 4, { frames := 0, cells := 0, slots := 0, locals := 0 }, (some .long))
abbrev mX7_divisor : mt := (yX7_divisor, cX7_divisor, 10, { frames := 0, cells := 0, slots := 0, locals := 0 }, (some .long))
abbrev mX7_at : mt := (yX7_at, cX7_at, 3, { frames := 0, cells := 0, slots := 0, locals := 0 }, (some .int))
abbrev mX7_wayOf : mt := (yX7_wayOf, cX7_wayOf, 12, { frames := 1, cells := 0, slots := 0, locals := 21 }, (some .int))
abbrev mX7_isBetween : mt := (yX7_isBetween, cX7_isBetween, 12, { frames := 1, cells := 0, slots := 0, locals := 23 }, (some .boolean))
abbrev mX7_doMeet : mt := (yX7_doMeet, cX7_doMeet, 10, { frames := 2, cells := 0, slots := 0, locals := 54 }, (some .boolean))
abbrev mX7_doFold : mt := (yX7_doFold, cX7_doFold, 12, { frames := 0, cells := 0, slots := 0, locals := 0 }, (some .boolean))
abbrev mX7_isSimple : mt := (yX7_isSimple, cX7_isSimple, 7, { frames := 3, cells := 0, slots := 0, locals := 83 }, (some .boolean))
abbrev mX7_ringsMeet : mt := (yX7_ringsMeet, cX7_ringsMeet, 5, { frames := 3, cells := 0, slots := 0, locals := 83 }, (some .boolean))
abbrev mX7_where : mt := (yX7_where, cX7_where, 23, { frames := 2, cells := 0, slots := 0, locals := 54 }, (some .int))
abbrev mX7_has : mt := (yX7_has, cX7_has, 10, { frames := 3, cells := 0, slots := 0, locals := 96 }, (some .boolean))
abbrev mX7_corner : mt := (yX7_corner, cX7_corner, 7, { frames := 1, cells := 0, slots := 0, locals := 25 }, (some .boolean))
abbrev mX7_ring : mt := (yX7_ring, cX7_ring, 5, { frames := 4, cells := 0, slots := 0, locals := 125 }, (some .boolean))
abbrev mX7_hole : mt := (yX7_hole, cX7_hole, 2, { frames := 2, cells := 0, slots := 0, locals := 42 }, (some .boolean))
abbrev mX7_rule : mt := (yX7_rule, cX7_rule, 5, { frames := 0, cells := 0, slots := 0, locals := 0 }, none)
abbrev mX7_bars : mt := (yX7_bars, cX7_bars, 5, { frames := 1, cells := 0, slots := 0, locals := 25 }, (some .boolean))
abbrev mX7_speed : mt := (yX7_speed, cX7_speed, 4, { frames := 1, cells := 0, slots := 0, locals := 25 }, (some .boolean))
abbrev mX7_report : mt := (yX7_report, cX7_report, 12, { frames := 1, cells := 0, slots := 0, locals := 25 }, (some .int))
abbrev mX7_isBarred : mt := (yX7_isBarred, cX7_isBarred, 7, { frames := 0, cells := 0, slots := 0, locals := 0 }, (some .boolean))
abbrev mX7_told : mt := (yX7_told, cX7_told, 4, { frames := 2, cells := 0, slots := 0, locals := 42 }, (some .boolean))
abbrev mX7_track : mt := (yX7_track, cX7_track, 1, { frames := 0, cells := 0, slots := 0, locals := 0 }, (some .int))
abbrev mX7_isTrack : mt := (yX7_isTrack, cX7_isTrack, 2, { frames := 0, cells := 0, slots := 0, locals := 0 }, (some .boolean))
abbrev mX7_place : mt := (yX7_place, cX7_place, 9, { frames := 1, cells := 0, slots := 0, locals := 25 }, (some .boolean))
abbrev mX7_lasts : mt := (yX7_lasts, cX7_lasts, 2, { frames := 0, cells := 0, slots := 0, locals := 0 }, (some .long))
abbrev mX7_isGap : mt := (yX7_isGap, cX7_isGap, 2, { frames := 1, cells := 0, slots := 0, locals := 21 }, (some .boolean))
abbrev mX7_counts : mt := (yX7_counts, cX7_counts, 12, { frames := 2, cells := 0, slots := 0, locals := 42 }, (some .boolean))
abbrev mX7_cut : mt := (yX7_cut, cX7_cut, 13, { frames := 1, cells := 0, slots := 0, locals := 29 }, none)
abbrev mX7_cutAt : mt := (yX7_cutAt, cX7_cutAt, 21, { frames := 2, cells := 0, slots := 0, locals := 61 }, none)
abbrev mX7_hasAt : mt := (yX7_hasAt, cX7_hasAt, 7, { frames := 4, cells := 0, slots := 0, locals := 125 }, (some .boolean))
abbrev mX7_stretch : mt := (yX7_stretch, cX7_stretch, 6, { frames := 5, cells := 0, slots := 0, locals := 151 }, none)
abbrev mX7_add : mt := (yX7_add, cX7_add, 5, { frames := 0, cells := 0, slots := 0, locals := 0 }, none)
abbrev mX7_runPiece : mt := (yX7_runPiece, cX7_runPiece, 8, { frames := 6, cells := 0, slots := 0, locals := 176 }, none)
abbrev mX7_run : mt := (yX7_run, cX7_run, 5, { frames := 7, cells := 0, slots := 0, locals := 203 }, (some .int))
abbrev mX7_entry : mt := (yX7_entry, cX7_entry, 3, { frames := 1, cells := 0, slots := 0, locals := 25 }, (some .long))
abbrev mX7_side : mt := (yX7_side, cX7_side, 2, { frames := 0, cells := 0, slots := 0, locals := 0 }, (some .int))
abbrev mX7_within : mt := (yX7_within, cX7_within, 8, { frames := 6, cells := 0, slots := 0, locals := 176 }, (some .long))
abbrev mX7_inside : mt := (yX7_inside, cX7_inside, 7, { frames := 7, cells := 0, slots := 0, locals := 203 }, (some .long))
abbrev mX7_maybe : mt := (yX7_maybe, cX7_maybe, 26, { frames := 2, cells := 0, slots := 0, locals := 42 }, (some .boolean))
abbrev mX7_isNear : mt := (yX7_isNear, cX7_isNear, 23, { frames := 0, cells := 0, slots := 0, locals := 0 }, (some .boolean))
abbrev mX7_isByArea : mt := (yX7_isByArea, cX7_isByArea, 12, { frames := 4, cells := 0, slots := 0, locals := 125 }, (some .boolean))
abbrev mX7_buffer : mt := (yX7_buffer, cX7_buffer, 7, { frames := 5, cells := 0, slots := 0, locals := 156 }, (some .int))
abbrev mX7_overlap : mt := (yX7_overlap, cX7_overlap, 5, { frames := 4, cells := 0, slots := 0, locals := 107 }, (some .int))
abbrev mX7_cell : mt := (yX7_cell, cX7_cell, 7, { frames := 4, cells := 0, slots := 0, locals := 125 }, (some .int))
theorem w_0 : Cond.constantLong RX1 35 (-1) ∈ lw_tbl := List.mem_append_right _ (List.mem_of_getElem? (i := 535) (by decide +kernel))
theorem kcX1_35 : Cond.constantLong RX1 35 (-1) ∈ tbG := tbG_in w_0 rfl
theorem w_1 : Cond.constantLong RX4 94 (-1) ∈ lw_tbl := List.mem_append_right _ (List.mem_of_getElem? (i := 466) (by decide +kernel))
theorem kcX4_94 : Cond.constantLong RX4 94 (-1) ∈ tbG := tbG_in w_1 rfl
theorem w_2 : Cond.constantLong RX4 104 (2) ∈ lw_tbl := List.mem_append_right _ (List.mem_of_getElem? (i := 480) (by decide +kernel))
theorem kcX4_104 : Cond.constantLong RX4 104 (2) ∈ tbG := tbG_in w_2 rfl
theorem w_3 : Cond.constantLong RX5 24 (40000000) ∈ lw_tbl := List.mem_append_right _ (List.mem_of_getElem? (i := 361) (by decide +kernel))
theorem kcX5_24 : Cond.constantLong RX5 24 (40000000) ∈ tbG := tbG_in w_3 rfl
theorem w_4 : Cond.constantLong RX5 40 (3600) ∈ lw_tbl := List.mem_append_right _ (List.mem_of_getElem? (i := 397) (by decide +kernel))
theorem kcX5_40 : Cond.constantLong RX5 40 (3600) ∈ tbG := tbG_in w_4 rfl
theorem w_5 : Cond.constantLong RX5 42 (86400) ∈ lw_tbl := List.mem_append_right _ (List.mem_of_getElem? (i := 402) (by decide +kernel))
theorem kcX5_42 : Cond.constantLong RX5 42 (86400) ∈ tbG := tbG_in w_5 rfl
theorem w_6 : Cond.constantLong RX5 44 (-1) ∈ lw_tbl := List.mem_append_right _ (List.mem_of_getElem? (i := 403) (by decide +kernel))
theorem kcX5_44 : Cond.constantLong RX5 44 (-1) ∈ tbG := tbG_in w_6 rfl
theorem w_7 : Cond.constantLong RX6 89 (100000) ∈ lw_tbl := List.mem_append_right _ (List.mem_of_getElem? (i := 303) (by decide +kernel))
theorem kcX6_89 : Cond.constantLong RX6 89 (100000) ∈ tbG := tbG_in w_7 rfl
theorem w_8 : Cond.constantLong RX6 95 (398) ∈ lw_tbl := List.mem_append_right _ (List.mem_of_getElem? (i := 320) (by decide +kernel))
theorem kcX6_95 : Cond.constantLong RX6 95 (398) ∈ tbG := tbG_in w_8 rfl
theorem w_9 : Cond.constantLong RX6 133 (-1) ∈ lw_tbl := List.mem_append_right _ (List.mem_of_getElem? (i := 525) (by decide +kernel))
theorem kcX6_133 : Cond.constantLong RX6 133 (-1) ∈ tbG := tbG_in w_9 rfl
theorem w_10 : Cond.constantLong RX6 168 (400) ∈ lw_tbl := List.mem_append_right _ (List.mem_of_getElem? (i := 612) (by decide +kernel))
theorem kcX6_168 : Cond.constantLong RX6 168 (400) ∈ tbG := tbG_in w_10 rfl
theorem w_11 : Cond.constantLong RX6 209 (-200) ∈ lw_tbl := List.mem_append_right _ (List.mem_of_getElem? (i := 318) (by decide +kernel))
theorem kcX6_209 : Cond.constantLong RX6 209 (-200) ∈ tbG := tbG_in w_11 rfl
theorem w_12 : Cond.constantLong RX6 211 (200) ∈ lw_tbl := List.mem_append_right _ (List.mem_of_getElem? (i := 319) (by decide +kernel))
theorem kcX6_211 : Cond.constantLong RX6 211 (200) ∈ tbG := tbG_in w_12 rfl
theorem w_13 : Cond.constantLong RX6 261 (1000) ∈ lw_tbl := List.mem_append_right _ (List.mem_of_getElem? (i := 562) (by decide +kernel))
theorem kcX6_261 : Cond.constantLong RX6 261 (1000) ∈ tbG := tbG_in w_13 rfl
theorem w_14 : Cond.constantLong RX7 118 (-200) ∈ lw_tbl := List.mem_append_right _ (List.mem_of_getElem? (i := 838) (by decide +kernel))
theorem kcX7_118 : Cond.constantLong RX7 118 (-200) ∈ tbG := tbG_in w_14 rfl
theorem w_15 : Cond.constantLong RX7 120 (200) ∈ lw_tbl := List.mem_append_right _ (List.mem_of_getElem? (i := 839) (by decide +kernel))
theorem kcX7_120 : Cond.constantLong RX7 120 (200) ∈ tbG := tbG_in w_15 rfl
theorem w_16 : Cond.constantLong RX7 143 (7) ∈ lw_tbl := List.mem_append_right _ (List.mem_of_getElem? (i := 902) (by decide +kernel))
theorem kcX7_143 : Cond.constantLong RX7 143 (7) ∈ tbG := tbG_in w_16 rfl
theorem w_17 : Cond.constantLong RX7 145 (400) ∈ lw_tbl := List.mem_append_right _ (List.mem_of_getElem? (i := 903) (by decide +kernel))
theorem kcX7_145 : Cond.constantLong RX7 145 (400) ∈ tbG := tbG_in w_17 rfl
theorem w_18 : Cond.constantLong RX7 151 (100000) ∈ lw_tbl := List.mem_append_right _ (List.mem_of_getElem? (i := 912) (by decide +kernel))
theorem kcX7_151 : Cond.constantLong RX7 151 (100000) ∈ tbG := tbG_in w_18 rfl
theorem w_19 : Cond.constantLong RX7 153 (398) ∈ lw_tbl := List.mem_append_right _ (List.mem_of_getElem? (i := 917) (by decide +kernel))
theorem kcX7_153 : Cond.constantLong RX7 153 (398) ∈ tbG := tbG_in w_19 rfl
theorem w_20 : Cond.constantLong RX7 155 (20) ∈ lw_tbl := List.mem_append_right _ (List.mem_of_getElem? (i := 918) (by decide +kernel))
theorem kcX7_155 : Cond.constantLong RX7 155 (20) ∈ tbG := tbG_in w_20 rfl
theorem w_21 : Cond.constantLong RX7 167 (40000000) ∈ lw_tbl := List.mem_append_right _ (List.mem_of_getElem? (i := 939) (by decide +kernel))
theorem kcX7_167 : Cond.constantLong RX7 167 (40000000) ∈ tbG := tbG_in w_21 rfl
theorem w_22 : Cond.constantLong RX7 173 (3600) ∈ lw_tbl := List.mem_append_right _ (List.mem_of_getElem? (i := 956) (by decide +kernel))
theorem kcX7_173 : Cond.constantLong RX7 173 (3600) ∈ tbG := tbG_in w_22 rfl
theorem w_23 : Cond.constantLong RX7 178 (86400) ∈ lw_tbl := List.mem_append_right _ (List.mem_of_getElem? (i := 957) (by decide +kernel))
theorem kcX7_178 : Cond.constantLong RX7 178 (86400) ∈ tbG := tbG_in w_23 rfl
theorem w_24 : Cond.constantLong RX7 201 (2) ∈ lw_tbl := List.mem_append_right _ (List.mem_of_getElem? (i := 981) (by decide +kernel))
theorem kcX7_201 : Cond.constantLong RX7 201 (2) ∈ tbG := tbG_in w_24 rfl
theorem w_25 : Cond.constantLong RX7 222 (-1) ∈ lw_tbl := List.mem_append_right _ (List.mem_of_getElem? (i := 990) (by decide +kernel))
theorem kcX7_222 : Cond.constantLong RX7 222 (-1) ∈ tbG := tbG_in w_25 rfl
theorem w_26 : Cond.constantLong RX7 224 (3) ∈ lw_tbl := List.mem_append_right _ (List.mem_of_getElem? (i := 991) (by decide +kernel))
theorem kcX7_224 : Cond.constantLong RX7 224 (3) ∈ tbG := tbG_in w_26 rfl
theorem w_27 : Cond.constantLong RX7 226 (-2) ∈ lw_tbl := List.mem_append_right _ (List.mem_of_getElem? (i := 992) (by decide +kernel))
theorem kcX7_226 : Cond.constantLong RX7 226 (-2) ∈ tbG := tbG_in w_27 rfl
theorem w_28 : Cond.constantLong RX7 228 (1000) ∈ lw_tbl := List.mem_append_right _ (List.mem_of_getElem? (i := 1005) (by decide +kernel))
theorem kcX7_228 : Cond.constantLong RX7 228 (1000) ∈ tbG := tbG_in w_28 rfl
theorem w_29 : Cond.constantLong RX7 234 (3599) ∈ lw_tbl := List.mem_append_right _ (List.mem_of_getElem? (i := 1010) (by decide +kernel))
theorem kcX7_234 : Cond.constantLong RX7 234 (3599) ∈ tbG := tbG_in w_29 rfl
theorem w_30 : Cond.methodLink RX0 28 yX0_outer ∈ lw_tbl := List.mem_append_right _ (List.mem_of_getElem? (i := 268) (by decide +kernel))
theorem w_31 : Cond.initialized "AreaCrossings$Area" ∈ lw_tbl := List.mem_append_right _ (List.mem_of_getElem? (i := 3) (by decide +kernel))
theorem w_32 : Cond.code yX0_outer cX0_outer 1 (some (.object "AreaCrossings$Ring")) ∈ lw_tbl := List.mem_append_right _ (List.mem_of_getElem? (i := 271) (by decide +kernel))
theorem w_33 : Cond.instanceMethod yX0_outer ∈ lw_tbl := List.mem_append_right _ (List.mem_of_getElem? (i := 269) (by decide +kernel))
theorem w_34 : Cond.selects "AreaCrossings$Area" yX0_outer yX0_outer ∈ lw_tbl := List.mem_append_right _ (List.mem_of_getElem? (i := 270) (by decide +kernel))
theorem kX0_28 : cokV RX0 mX0_outer 28 0 0 := ⟨⟨w_30, w_31, w_32, by decide +kernel, by decide +kernel, by decide +kernel⟩, w_33, w_34, by decide +kernel, by decide⟩
theorem w_35 : Cond.methodLink RX0 32 yX2_size ∈ lw_tbl := List.mem_append_right _ (List.mem_of_getElem? (i := 329) (by decide +kernel))
theorem w_36 : Cond.initialized "AreaCrossings$Ring" ∈ lw_tbl := List.mem_append_right _ (List.mem_of_getElem? (i := 4) (by decide +kernel))
theorem w_37 : Cond.code yX2_size cX2_size 1 (some .int) ∈ lw_tbl := List.mem_append_right _ (List.mem_of_getElem? (i := 332) (by decide +kernel))
theorem w_38 : Cond.instanceMethod yX2_size ∈ lw_tbl := List.mem_append_right _ (List.mem_of_getElem? (i := 330) (by decide +kernel))
theorem w_39 : Cond.selects "AreaCrossings$Ring" yX2_size yX2_size ∈ lw_tbl := List.mem_append_right _ (List.mem_of_getElem? (i := 331) (by decide +kernel))
theorem kX0_32 : cokV RX0 mX2_size 32 0 2 := ⟨⟨w_35, w_36, w_37, by decide +kernel, by decide +kernel, by decide +kernel⟩, w_38, w_39, by decide +kernel, by decide⟩
theorem w_40 : Cond.methodLink RX0 36 yX0_beingMade ∈ lw_tbl := List.mem_append_right _ (List.mem_of_getElem? (i := 207) (by decide +kernel))
theorem w_41 : Cond.code yX0_beingMade cX0_beingMade 1 (some (.object "AreaCrossings$Ring")) ∈ lw_tbl := List.mem_append_right _ (List.mem_of_getElem? (i := 210) (by decide +kernel))
theorem w_42 : Cond.instanceMethod yX0_beingMade ∈ lw_tbl := List.mem_append_right _ (List.mem_of_getElem? (i := 209) (by decide +kernel))
theorem w_43 : Cond.selects "AreaCrossings$Area" yX0_beingMade yX0_beingMade ∈ lw_tbl := List.mem_append_left _ (List.mem_of_getElem? (i := 1) (by decide +kernel))
theorem kX0_36 : cokV RX0 mX0_beingMade 36 0 0 := ⟨⟨w_40, w_31, w_41, by decide +kernel, by decide +kernel, by decide +kernel⟩, w_42, w_43, by decide +kernel, by decide⟩
theorem w_44 : Cond.methodLink RX0 39 yX2_add ∈ lw_tbl := List.mem_append_right _ (List.mem_of_getElem? (i := 341) (by decide +kernel))
theorem w_45 : Cond.code yX2_add cX2_add 3 (some .boolean) ∈ lw_tbl := List.mem_append_right _ (List.mem_of_getElem? (i := 344) (by decide +kernel))
theorem w_46 : Cond.instanceMethod yX2_add ∈ lw_tbl := List.mem_append_right _ (List.mem_of_getElem? (i := 342) (by decide +kernel))
theorem w_47 : Cond.selects "AreaCrossings$Ring" yX2_add yX2_add ∈ lw_tbl := List.mem_append_right _ (List.mem_of_getElem? (i := 343) (by decide +kernel))
theorem kX0_39 : cokV RX0 mX2_add 39 2 2 := ⟨⟨w_44, w_36, w_45, by decide +kernel, by decide +kernel, by decide +kernel⟩, w_46, w_47, by decide +kernel, by decide⟩
theorem w_48 : Cond.methodLink RX0 43 yX2_clear ∈ lw_tbl := List.mem_append_right _ (List.mem_of_getElem? (i := 276) (by decide +kernel))
theorem w_49 : Cond.code yX2_clear cX2_clear 1 none ∈ lw_tbl := List.mem_append_right _ (List.mem_of_getElem? (i := 279) (by decide +kernel))
theorem w_50 : Cond.instanceMethod yX2_clear ∈ lw_tbl := List.mem_append_right _ (List.mem_of_getElem? (i := 277) (by decide +kernel))
theorem w_51 : Cond.selects "AreaCrossings$Ring" yX2_clear yX2_clear ∈ lw_tbl := List.mem_append_right _ (List.mem_of_getElem? (i := 278) (by decide +kernel))
theorem kX0_43 : cokV RX0 mX2_clear 43 0 2 := ⟨⟨w_48, w_36, w_49, by decide +kernel, by decide +kernel, by decide +kernel⟩, w_50, w_51, by decide +kernel, by decide⟩
theorem w_52 : Cond.methodLink RX0 46 yX2_isSimple ∈ lw_tbl := List.mem_append_right _ (List.mem_of_getElem? (i := 211) (by decide +kernel))
theorem w_53 : Cond.code yX2_isSimple cX2_isSimple 4 (some .boolean) ∈ lw_tbl := List.mem_append_right _ (List.mem_of_getElem? (i := 214) (by decide +kernel))
theorem w_54 : Cond.instanceMethod yX2_isSimple ∈ lw_tbl := List.mem_append_right _ (List.mem_of_getElem? (i := 212) (by decide +kernel))
theorem w_55 : Cond.selects "AreaCrossings$Ring" yX2_isSimple yX2_isSimple ∈ lw_tbl := List.mem_append_right _ (List.mem_of_getElem? (i := 213) (by decide +kernel))
theorem kX0_46 : cokV RX0 mX2_isSimple 46 0 2 := ⟨⟨w_52, w_36, w_53, by decide +kernel, by decide +kernel, by decide +kernel⟩, w_54, w_55, by decide +kernel, by decide⟩
theorem w_56 : Cond.methodLink RX0 50 yX0_fitsAsHole ∈ lw_tbl := List.mem_append_right _ (List.mem_of_getElem? (i := 240) (by decide +kernel))
theorem w_57 : Cond.code yX0_fitsAsHole cX0_fitsAsHole 3 (some .boolean) ∈ lw_tbl := List.mem_append_right _ (List.mem_of_getElem? (i := 243) (by decide +kernel))
theorem w_58 : Cond.instanceMethod yX0_fitsAsHole ∈ lw_tbl := List.mem_append_right _ (List.mem_of_getElem? (i := 242) (by decide +kernel))
theorem w_59 : Cond.selects "AreaCrossings$Area" yX0_fitsAsHole yX0_fitsAsHole ∈ lw_tbl := List.mem_append_left _ (List.mem_of_getElem? (i := 6) (by decide +kernel))
theorem kX0_50 : cokV RX0 mX0_fitsAsHole 50 1 0 := ⟨⟨w_56, w_31, w_57, by decide +kernel, by decide +kernel, by decide +kernel⟩, w_58, w_59, by decide +kernel, by decide⟩
theorem w_60 : Cond.methodLink RX0 54 yX0_ringOf ∈ lw_tbl := List.mem_append_right _ (List.mem_of_getElem? (i := 244) (by decide +kernel))
theorem w_61 : Cond.code yX0_ringOf cX0_ringOf 2 (some (.object "AreaCrossings$Ring")) ∈ lw_tbl := List.mem_append_right _ (List.mem_of_getElem? (i := 247) (by decide +kernel))
theorem w_62 : Cond.instanceMethod yX0_ringOf ∈ lw_tbl := List.mem_append_right _ (List.mem_of_getElem? (i := 245) (by decide +kernel))
theorem w_63 : Cond.selects "AreaCrossings$Area" yX0_ringOf yX0_ringOf ∈ lw_tbl := List.mem_append_right _ (List.mem_of_getElem? (i := 246) (by decide +kernel))
theorem kX0_54 : cokV RX0 mX0_ringOf 54 1 0 := ⟨⟨w_60, w_31, w_61, by decide +kernel, by decide +kernel, by decide +kernel⟩, w_62, w_63, by decide +kernel, by decide⟩
theorem w_64 : Cond.methodLink RX0 58 yX2_meets ∈ lw_tbl := List.mem_append_right _ (List.mem_of_getElem? (i := 248) (by decide +kernel))
theorem w_65 : Cond.code yX2_meets cX2_meets 4 (some .boolean) ∈ lw_tbl := List.mem_append_right _ (List.mem_of_getElem? (i := 251) (by decide +kernel))
theorem w_66 : Cond.instanceMethod yX2_meets ∈ lw_tbl := List.mem_append_right _ (List.mem_of_getElem? (i := 249) (by decide +kernel))
theorem w_67 : Cond.selects "AreaCrossings$Ring" yX2_meets yX2_meets ∈ lw_tbl := List.mem_append_right _ (List.mem_of_getElem? (i := 250) (by decide +kernel))
theorem kX0_58 : cokV RX0 mX2_meets 58 1 2 := ⟨⟨w_64, w_36, w_65, by decide +kernel, by decide +kernel, by decide +kernel⟩, w_66, w_67, by decide +kernel, by decide⟩
theorem w_68 : Cond.methodLink RX0 61 yX2_xOf ∈ lw_tbl := List.mem_append_right _ (List.mem_of_getElem? (i := 252) (by decide +kernel))
theorem w_69 : Cond.code yX2_xOf cX2_xOf 2 (some .int) ∈ lw_tbl := List.mem_append_right _ (List.mem_of_getElem? (i := 255) (by decide +kernel))
theorem w_70 : Cond.instanceMethod yX2_xOf ∈ lw_tbl := List.mem_append_right _ (List.mem_of_getElem? (i := 253) (by decide +kernel))
theorem w_71 : Cond.selects "AreaCrossings$Ring" yX2_xOf yX2_xOf ∈ lw_tbl := List.mem_append_right _ (List.mem_of_getElem? (i := 254) (by decide +kernel))
theorem kX0_61 : cokV RX0 mX2_xOf 61 1 2 := ⟨⟨w_68, w_36, w_69, by decide +kernel, by decide +kernel, by decide +kernel⟩, w_70, w_71, by decide +kernel, by decide⟩
theorem w_72 : Cond.methodLink RX0 65 yX2_yOf ∈ lw_tbl := List.mem_append_right _ (List.mem_of_getElem? (i := 256) (by decide +kernel))
theorem w_73 : Cond.code yX2_yOf cX2_yOf 2 (some .int) ∈ lw_tbl := List.mem_append_right _ (List.mem_of_getElem? (i := 259) (by decide +kernel))
theorem w_74 : Cond.instanceMethod yX2_yOf ∈ lw_tbl := List.mem_append_right _ (List.mem_of_getElem? (i := 257) (by decide +kernel))
theorem w_75 : Cond.selects "AreaCrossings$Ring" yX2_yOf yX2_yOf ∈ lw_tbl := List.mem_append_right _ (List.mem_of_getElem? (i := 258) (by decide +kernel))
theorem kX0_65 : cokV RX0 mX2_yOf 65 1 2 := ⟨⟨w_72, w_36, w_73, by decide +kernel, by decide +kernel, by decide +kernel⟩, w_74, w_75, by decide +kernel, by decide⟩
theorem w_76 : Cond.methodLink RX0 68 yX0_contains ∈ lw_tbl := List.mem_append_right _ (List.mem_of_getElem? (i := 260) (by decide +kernel))
theorem w_77 : Cond.code yX0_contains cX0_contains 8 (some .boolean) ∈ lw_tbl := List.mem_append_right _ (List.mem_of_getElem? (i := 263) (by decide +kernel))
theorem w_78 : Cond.instanceMethod yX0_contains ∈ lw_tbl := List.mem_append_right _ (List.mem_of_getElem? (i := 261) (by decide +kernel))
theorem w_79 : Cond.selects "AreaCrossings$Area" yX0_contains yX0_contains ∈ lw_tbl := List.mem_append_right _ (List.mem_of_getElem? (i := 262) (by decide +kernel))
theorem kX0_68 : cokV RX0 mX0_contains 68 3 0 := ⟨⟨w_76, w_31, w_77, by decide +kernel, by decide +kernel, by decide +kernel⟩, w_78, w_79, by decide +kernel, by decide⟩
theorem w_80 : Cond.methodLink RX0 72 yX0_isThere ∈ lw_tbl := List.mem_append_right _ (List.mem_of_getElem? (i := 264) (by decide +kernel))
theorem w_81 : Cond.code yX0_isThere cX0_isThere 1 (some .boolean) ∈ lw_tbl := List.mem_append_right _ (List.mem_of_getElem? (i := 267) (by decide +kernel))
theorem w_82 : Cond.instanceMethod yX0_isThere ∈ lw_tbl := List.mem_append_right _ (List.mem_of_getElem? (i := 265) (by decide +kernel))
theorem w_83 : Cond.selects "AreaCrossings$Area" yX0_isThere yX0_isThere ∈ lw_tbl := List.mem_append_right _ (List.mem_of_getElem? (i := 266) (by decide +kernel))
theorem kX0_72 : cokV RX0 mX0_isThere 72 0 0 := ⟨⟨w_80, w_31, w_81, by decide +kernel, by decide +kernel, by decide +kernel⟩, w_82, w_83, by decide +kernel, by decide⟩
theorem w_84 : Cond.methodLink RX0 75 yX2_locate ∈ lw_tbl := List.mem_append_right _ (List.mem_of_getElem? (i := 272) (by decide +kernel))
theorem w_85 : Cond.code yX2_locate cX2_locate 13 (some .int) ∈ lw_tbl := List.mem_append_right _ (List.mem_of_getElem? (i := 275) (by decide +kernel))
theorem w_86 : Cond.instanceMethod yX2_locate ∈ lw_tbl := List.mem_append_right _ (List.mem_of_getElem? (i := 273) (by decide +kernel))
theorem w_87 : Cond.selects "AreaCrossings$Ring" yX2_locate yX2_locate ∈ lw_tbl := List.mem_append_right _ (List.mem_of_getElem? (i := 274) (by decide +kernel))
theorem kX0_75 : cokV RX0 mX2_locate 75 3 2 := ⟨⟨w_84, w_36, w_85, by decide +kernel, by decide +kernel, by decide +kernel⟩, w_86, w_87, by decide +kernel, by decide⟩
theorem w_88 : Cond.methodLink RX0 79 yX2_isNear ∈ lw_tbl := List.mem_append_right _ (List.mem_of_getElem? (i := 621) (by decide +kernel))
theorem w_89 : Cond.code yX2_isNear cX2_isNear 8 (some .boolean) ∈ lw_tbl := List.mem_append_right _ (List.mem_of_getElem? (i := 624) (by decide +kernel))
theorem w_90 : Cond.instanceMethod yX2_isNear ∈ lw_tbl := List.mem_append_right _ (List.mem_of_getElem? (i := 622) (by decide +kernel))
theorem w_91 : Cond.selects "AreaCrossings$Ring" yX2_isNear yX2_isNear ∈ lw_tbl := List.mem_append_right _ (List.mem_of_getElem? (i := 623) (by decide +kernel))
theorem kX0_79 : cokV RX0 mX2_isNear 79 3 2 := ⟨⟨w_88, w_36, w_89, by decide +kernel, by decide +kernel, by decide +kernel⟩, w_90, w_91, by decide +kernel, by decide⟩
theorem w_92 : Cond.methodLink RX1 31 yX1_has ∈ lw_tbl := List.mem_append_right _ (List.mem_of_getElem? (i := 530) (by decide +kernel))
theorem w_93 : Cond.initialized "AreaCrossings$Crossings" ∈ lw_tbl := List.mem_append_right _ (List.mem_of_getElem? (i := 8) (by decide +kernel))
theorem w_94 : Cond.code yX1_has cX1_has 2 (some .boolean) ∈ lw_tbl := List.mem_append_right _ (List.mem_of_getElem? (i := 524) (by decide +kernel))
theorem w_95 : Cond.instanceMethod yX1_has ∈ lw_tbl := List.mem_append_right _ (List.mem_of_getElem? (i := 522) (by decide +kernel))
theorem w_96 : Cond.selects "AreaCrossings$Crossings" yX1_has yX1_has ∈ lw_tbl := List.mem_append_right _ (List.mem_of_getElem? (i := 523) (by decide +kernel))
theorem kX1_31 : cokV RX1 mX1_has 31 1 1 := ⟨⟨w_92, w_93, w_94, by decide +kernel, by decide +kernel, by decide +kernel⟩, w_95, w_96, by decide +kernel, by decide⟩
theorem w_97 : Cond.methodLink RX2 20 yX2_next ∈ lw_tbl := List.mem_append_right _ (List.mem_of_getElem? (i := 215) (by decide +kernel))
theorem w_98 : Cond.code yX2_next cX2_next 2 (some .int) ∈ lw_tbl := List.mem_append_right _ (List.mem_of_getElem? (i := 218) (by decide +kernel))
theorem w_99 : Cond.instanceMethod yX2_next ∈ lw_tbl := List.mem_append_right _ (List.mem_of_getElem? (i := 216) (by decide +kernel))
theorem w_100 : Cond.selects "AreaCrossings$Ring" yX2_next yX2_next ∈ lw_tbl := List.mem_append_right _ (List.mem_of_getElem? (i := 217) (by decide +kernel))
theorem kX2_20 : cokV RX2 mX2_next 20 1 2 := ⟨⟨w_97, w_36, w_98, by decide +kernel, by decide +kernel, by decide +kernel⟩, w_99, w_100, by decide +kernel, by decide⟩
theorem w_101 : Cond.methodLink RX2 24 yX2_foldsBackAt ∈ lw_tbl := List.mem_append_right _ (List.mem_of_getElem? (i := 219) (by decide +kernel))
theorem w_102 : Cond.code yX2_foldsBackAt cX2_foldsBackAt 8 (some .boolean) ∈ lw_tbl := List.mem_append_right _ (List.mem_of_getElem? (i := 222) (by decide +kernel))
theorem w_103 : Cond.instanceMethod yX2_foldsBackAt ∈ lw_tbl := List.mem_append_right _ (List.mem_of_getElem? (i := 221) (by decide +kernel))
theorem w_104 : Cond.selects "AreaCrossings$Ring" yX2_foldsBackAt yX2_foldsBackAt ∈ lw_tbl := List.mem_append_left _ (List.mem_of_getElem? (i := 2) (by decide +kernel))
theorem kX2_24 : cokV RX2 mX2_foldsBackAt 24 3 2 := ⟨⟨w_101, w_36, w_102, by decide +kernel, by decide +kernel, by decide +kernel⟩, w_103, w_104, by decide +kernel, by decide⟩
theorem w_105 : Cond.methodLink RX2 28 yX2_sidesMeet ∈ lw_tbl := List.mem_append_right _ (List.mem_of_getElem? (i := 223) (by decide +kernel))
theorem w_106 : Cond.code yX2_sidesMeet cX2_sidesMeet 14 (some .boolean) ∈ lw_tbl := List.mem_append_right _ (List.mem_of_getElem? (i := 226) (by decide +kernel))
theorem w_107 : Cond.instanceMethod yX2_sidesMeet ∈ lw_tbl := List.mem_append_right _ (List.mem_of_getElem? (i := 225) (by decide +kernel))
theorem w_108 : Cond.selects "AreaCrossings$Ring" yX2_sidesMeet yX2_sidesMeet ∈ lw_tbl := List.mem_append_left _ (List.mem_of_getElem? (i := 3) (by decide +kernel))
theorem kX2_28 : cokV RX2 mX2_sidesMeet 28 3 2 := ⟨⟨w_105, w_36, w_106, by decide +kernel, by decide +kernel, by decide +kernel⟩, w_107, w_108, by decide +kernel, by decide⟩
theorem w_109 : Cond.methodLink RX2 32 yX2_turn ∈ lw_tbl := List.mem_append_right _ (List.mem_of_getElem? (i := 227) (by decide +kernel))
theorem w_110 : Cond.code yX2_turn cX2_turn 13 (some .long) ∈ lw_tbl := List.mem_append_right _ (List.mem_of_getElem? (i := 230) (by decide +kernel))
theorem w_111 : Cond.instanceMethod yX2_turn ∈ lw_tbl := List.mem_append_right _ (List.mem_of_getElem? (i := 229) (by decide +kernel))
theorem w_112 : Cond.selects "AreaCrossings$Ring" yX2_turn yX2_turn ∈ lw_tbl := List.mem_append_left _ (List.mem_of_getElem? (i := 4) (by decide +kernel))
theorem kX2_32 : cokV RX2 mX2_turn 32 4 2 := ⟨⟨w_109, w_36, w_110, by decide +kernel, by decide +kernel, by decide +kernel⟩, w_111, w_112, by decide +kernel, by decide⟩
theorem w_113 : Cond.methodLink RX2 36 yX2_areOpposite ∈ lw_tbl := List.mem_append_right _ (List.mem_of_getElem? (i := 231) (by decide +kernel))
theorem w_114 : Cond.code yX2_areOpposite cX2_areOpposite 4 (some .boolean) ∈ lw_tbl := List.mem_append_right _ (List.mem_of_getElem? (i := 233) (by decide +kernel))
theorem w_115 : Cond.static yX2_areOpposite ∈ lw_tbl := List.mem_append_right _ (List.mem_of_getElem? (i := 232) (by decide +kernel))
theorem kX2_36 : cokS RX2 mX2_areOpposite 36 2 := ⟨⟨w_113, w_36, w_114, by decide +kernel, by decide +kernel, by decide +kernel⟩, w_115⟩
theorem w_116 : Cond.methodLink RX2 40 yX2_spans ∈ lw_tbl := List.mem_append_right _ (List.mem_of_getElem? (i := 234) (by decide +kernel))
theorem w_117 : Cond.code yX2_spans cX2_spans 9 (some .boolean) ∈ lw_tbl := List.mem_append_right _ (List.mem_of_getElem? (i := 237) (by decide +kernel))
theorem w_118 : Cond.instanceMethod yX2_spans ∈ lw_tbl := List.mem_append_right _ (List.mem_of_getElem? (i := 236) (by decide +kernel))
theorem w_119 : Cond.selects "AreaCrossings$Ring" yX2_spans yX2_spans ∈ lw_tbl := List.mem_append_left _ (List.mem_of_getElem? (i := 5) (by decide +kernel))
theorem kX2_40 : cokV RX2 mX2_spans 40 4 2 := ⟨⟨w_116, w_36, w_117, by decide +kernel, by decide +kernel, by decide +kernel⟩, w_118, w_119, by decide +kernel, by decide⟩
theorem w_120 : Cond.methodLink RX2 44 yJ9_min_7cf53 ∈ lw_tbl := List.mem_append_right _ (List.mem_of_getElem? (i := 238) (by decide +kernel))
theorem w_121 : Cond.initialized "java/lang/Math" ∈ lw_tbl := List.mem_append_right _ (List.mem_of_getElem? (i := 2) (by decide +kernel))
theorem w_122 : Cond.code yJ9_min_7cf53 cJ9_min_7cf53 2 (some .int) ∈ lw_tbl := List.mem_append_right _ (List.mem_of_getElem? (i := 25) (by decide +kernel))
theorem w_123 : Cond.static yJ9_min_7cf53 ∈ lw_tbl := List.mem_append_right _ (List.mem_of_getElem? (i := 24) (by decide +kernel))
theorem kX2_44 : cokM RX2 44 Lib.Math.min.name Lib.Math.min.code 2 (some .int) := ⟨w_120, w_123, w_121, w_122⟩
theorem w_124 : Cond.methodLink RX2 50 yJ9_max_7cf53 ∈ lw_tbl := List.mem_append_right _ (List.mem_of_getElem? (i := 239) (by decide +kernel))
theorem w_125 : Cond.code yJ9_max_7cf53 cJ9_max_7cf53 2 (some .int) ∈ lw_tbl := List.mem_append_right _ (List.mem_of_getElem? (i := 28) (by decide +kernel))
theorem w_126 : Cond.static yJ9_max_7cf53 ∈ lw_tbl := List.mem_append_right _ (List.mem_of_getElem? (i := 27) (by decide +kernel))
theorem kX2_50 : cokM RX2 50 Lib.Math.max.name Lib.Math.max.code 2 (some .int) := ⟨w_124, w_126, w_121, w_125⟩
theorem w_127 : Cond.methodLink RX2 53 yX2_xOf ∈ lw_tbl := List.mem_append_right _ (List.mem_of_getElem? (i := 646) (by decide +kernel))
theorem kX2_53 : cokV RX2 mX2_xOf 53 1 2 := ⟨⟨w_127, w_36, w_69, by decide +kernel, by decide +kernel, by decide +kernel⟩, w_70, w_71, by decide +kernel, by decide⟩
theorem w_128 : Cond.methodLink RX2 56 yX2_yOf ∈ lw_tbl := List.mem_append_right _ (List.mem_of_getElem? (i := 647) (by decide +kernel))
theorem kX2_56 : cokV RX2 mX2_yOf 56 1 2 := ⟨⟨w_128, w_36, w_73, by decide +kernel, by decide +kernel, by decide +kernel⟩, w_74, w_75, by decide +kernel, by decide⟩
theorem w_129 : Cond.methodLink RX2 59 yX2_locate ∈ lw_tbl := List.mem_append_right _ (List.mem_of_getElem? (i := 648) (by decide +kernel))
theorem kX2_59 : cokV RX2 mX2_locate 59 3 2 := ⟨⟨w_129, w_36, w_85, by decide +kernel, by decide +kernel, by decide +kernel⟩, w_86, w_87, by decide +kernel, by decide⟩
theorem w_130 : Cond.methodLink RX2 63 yX2_isSideNear ∈ lw_tbl := List.mem_append_right _ (List.mem_of_getElem? (i := 625) (by decide +kernel))
theorem w_131 : Cond.code yX2_isSideNear cX2_isSideNear 25 (some .boolean) ∈ lw_tbl := List.mem_append_right _ (List.mem_of_getElem? (i := 628) (by decide +kernel))
theorem w_132 : Cond.instanceMethod yX2_isSideNear ∈ lw_tbl := List.mem_append_right _ (List.mem_of_getElem? (i := 627) (by decide +kernel))
theorem w_133 : Cond.selects "AreaCrossings$Ring" yX2_isSideNear yX2_isSideNear ∈ lw_tbl := List.mem_append_left _ (List.mem_of_getElem? (i := 21) (by decide +kernel))
theorem kX2_63 : cokV RX2 mX2_isSideNear 63 4 2 := ⟨⟨w_130, w_36, w_131, by decide +kernel, by decide +kernel, by decide +kernel⟩, w_132, w_133, by decide +kernel, by decide⟩
theorem w_134 : Cond.methodLink RX2 66 yX2_reaches ∈ lw_tbl := List.mem_append_right _ (List.mem_of_getElem? (i := 600) (by decide +kernel))
theorem w_135 : Cond.code yX2_reaches cX2_reaches 9 (some .boolean) ∈ lw_tbl := List.mem_append_right _ (List.mem_of_getElem? (i := 603) (by decide +kernel))
theorem w_136 : Cond.instanceMethod yX2_reaches ∈ lw_tbl := List.mem_append_right _ (List.mem_of_getElem? (i := 602) (by decide +kernel))
theorem w_137 : Cond.selects "AreaCrossings$Ring" yX2_reaches yX2_reaches ∈ lw_tbl := List.mem_append_left _ (List.mem_of_getElem? (i := 20) (by decide +kernel))
theorem kX2_66 : cokV RX2 mX2_reaches 66 3 2 := ⟨⟨w_134, w_36, w_135, by decide +kernel, by decide +kernel, by decide +kernel⟩, w_136, w_137, by decide +kernel, by decide⟩
theorem w_138 : Cond.methodLink RX3 26 yX3_applies ∈ lw_tbl := List.mem_append_right _ (List.mem_of_getElem? (i := 408) (by decide +kernel))
theorem w_139 : Cond.initialized "AreaCrossings$Rules" ∈ lw_tbl := List.mem_append_right _ (List.mem_of_getElem? (i := 5) (by decide +kernel))
theorem w_140 : Cond.code yX3_applies cX3_applies 5 (some .boolean) ∈ lw_tbl := List.mem_append_right _ (List.mem_of_getElem? (i := 411) (by decide +kernel))
theorem w_141 : Cond.instanceMethod yX3_applies ∈ lw_tbl := List.mem_append_right _ (List.mem_of_getElem? (i := 410) (by decide +kernel))
theorem w_142 : Cond.selects "AreaCrossings$Rules" yX3_applies yX3_applies ∈ lw_tbl := List.mem_append_left _ (List.mem_of_getElem? (i := 11) (by decide +kernel))
theorem kX3_26 : cokV RX3 mX3_applies 26 3 3 := ⟨⟨w_138, w_139, w_140, by decide +kernel, by decide +kernel, by decide +kernel⟩, w_141, w_142, by decide +kernel, by decide⟩
theorem w_143 : Cond.methodLink RX4 47 yX4_cutPiece ∈ lw_tbl := List.mem_append_right _ (List.mem_of_getElem? (i := 437) (by decide +kernel))
theorem w_144 : Cond.initialized "AreaCrossings$Stretches" ∈ lw_tbl := List.mem_append_right _ (List.mem_of_getElem? (i := 7) (by decide +kernel))
theorem w_145 : Cond.code yX4_cutPiece cX4_cutPiece 7 none ∈ lw_tbl := List.mem_append_right _ (List.mem_of_getElem? (i := 440) (by decide +kernel))
theorem w_146 : Cond.instanceMethod yX4_cutPiece ∈ lw_tbl := List.mem_append_right _ (List.mem_of_getElem? (i := 439) (by decide +kernel))
theorem w_147 : Cond.selects "AreaCrossings$Stretches" yX4_cutPiece yX4_cutPiece ∈ lw_tbl := List.mem_append_left _ (List.mem_of_getElem? (i := 13) (by decide +kernel))
theorem kX4_47 : cokV RX4 mX4_cutPiece 47 3 4 := ⟨⟨w_143, w_144, w_145, by decide +kernel, by decide +kernel, by decide +kernel⟩, w_146, w_147, by decide +kernel, by decide⟩
theorem w_148 : Cond.methodLink RX4 51 yX4_isIn ∈ lw_tbl := List.mem_append_right _ (List.mem_of_getElem? (i := 467) (by decide +kernel))
theorem w_149 : Cond.code yX4_isIn cX4_isIn 6 (some .boolean) ∈ lw_tbl := List.mem_append_right _ (List.mem_of_getElem? (i := 470) (by decide +kernel))
theorem w_150 : Cond.instanceMethod yX4_isIn ∈ lw_tbl := List.mem_append_right _ (List.mem_of_getElem? (i := 469) (by decide +kernel))
theorem w_151 : Cond.selects "AreaCrossings$Stretches" yX4_isIn yX4_isIn ∈ lw_tbl := List.mem_append_left _ (List.mem_of_getElem? (i := 16) (by decide +kernel))
theorem kX4_51 : cokV RX4 mX4_isIn 51 3 4 := ⟨⟨w_148, w_144, w_149, by decide +kernel, by decide +kernel, by decide +kernel⟩, w_150, w_151, by decide +kernel, by decide⟩
theorem w_152 : Cond.methodLink RX4 55 yX4_middleOver ∈ lw_tbl := List.mem_append_right _ (List.mem_of_getElem? (i := 472) (by decide +kernel))
theorem w_153 : Cond.code yX4_middleOver cX4_middleOver 2 (some .long) ∈ lw_tbl := List.mem_append_right _ (List.mem_of_getElem? (i := 475) (by decide +kernel))
theorem w_154 : Cond.instanceMethod yX4_middleOver ∈ lw_tbl := List.mem_append_right _ (List.mem_of_getElem? (i := 474) (by decide +kernel))
theorem w_155 : Cond.selects "AreaCrossings$Stretches" yX4_middleOver yX4_middleOver ∈ lw_tbl := List.mem_append_left _ (List.mem_of_getElem? (i := 17) (by decide +kernel))
theorem kX4_55 : cokV RX4 mX4_middleOver 55 1 4 := ⟨⟨w_152, w_144, w_153, by decide +kernel, by decide +kernel, by decide +kernel⟩, w_154, w_155, by decide +kernel, by decide⟩
theorem w_156 : Cond.methodLink RX4 59 yX4_middleUnder ∈ lw_tbl := List.mem_append_right _ (List.mem_of_getElem? (i := 476) (by decide +kernel))
theorem w_157 : Cond.code yX4_middleUnder cX4_middleUnder 2 (some .long) ∈ lw_tbl := List.mem_append_right _ (List.mem_of_getElem? (i := 479) (by decide +kernel))
theorem w_158 : Cond.instanceMethod yX4_middleUnder ∈ lw_tbl := List.mem_append_right _ (List.mem_of_getElem? (i := 478) (by decide +kernel))
theorem w_159 : Cond.selects "AreaCrossings$Stretches" yX4_middleUnder yX4_middleUnder ∈ lw_tbl := List.mem_append_left _ (List.mem_of_getElem? (i := 18) (by decide +kernel))
theorem kX4_59 : cokV RX4 mX4_middleUnder 59 1 4 := ⟨⟨w_156, w_144, w_157, by decide +kernel, by decide +kernel, by decide +kernel⟩, w_158, w_159, by decide +kernel, by decide⟩
theorem w_160 : Cond.methodLink RX4 62 yX5_xOf ∈ lw_tbl := List.mem_append_right _ (List.mem_of_getElem? (i := 441) (by decide +kernel))
theorem w_161 : Cond.initialized "AreaCrossings$Track" ∈ lw_tbl := List.mem_append_right _ (List.mem_of_getElem? (i := 6) (by decide +kernel))
theorem w_162 : Cond.code yX5_xOf cX5_xOf 2 (some .int) ∈ lw_tbl := List.mem_append_right _ (List.mem_of_getElem? (i := 424) (by decide +kernel))
theorem w_163 : Cond.instanceMethod yX5_xOf ∈ lw_tbl := List.mem_append_right _ (List.mem_of_getElem? (i := 422) (by decide +kernel))
theorem w_164 : Cond.selects "AreaCrossings$Track" yX5_xOf yX5_xOf ∈ lw_tbl := List.mem_append_right _ (List.mem_of_getElem? (i := 423) (by decide +kernel))
theorem kX4_62 : cokV RX4 mX5_xOf 62 1 5 := ⟨⟨w_160, w_161, w_162, by decide +kernel, by decide +kernel, by decide +kernel⟩, w_163, w_164, by decide +kernel, by decide⟩
theorem w_165 : Cond.methodLink RX4 68 yX5_yOf ∈ lw_tbl := List.mem_append_right _ (List.mem_of_getElem? (i := 442) (by decide +kernel))
theorem w_166 : Cond.code yX5_yOf cX5_yOf 2 (some .int) ∈ lw_tbl := List.mem_append_right _ (List.mem_of_getElem? (i := 428) (by decide +kernel))
theorem w_167 : Cond.instanceMethod yX5_yOf ∈ lw_tbl := List.mem_append_right _ (List.mem_of_getElem? (i := 426) (by decide +kernel))
theorem w_168 : Cond.selects "AreaCrossings$Track" yX5_yOf yX5_yOf ∈ lw_tbl := List.mem_append_right _ (List.mem_of_getElem? (i := 427) (by decide +kernel))
theorem kX4_68 : cokV RX4 mX5_yOf 68 1 5 := ⟨⟨w_165, w_161, w_166, by decide +kernel, by decide +kernel, by decide +kernel⟩, w_167, w_168, by decide +kernel, by decide⟩
theorem w_169 : Cond.methodLink RX4 71 yX4_addCut ∈ lw_tbl := List.mem_append_right _ (List.mem_of_getElem? (i := 443) (by decide +kernel))
theorem w_170 : Cond.code yX4_addCut cX4_addCut 8 none ∈ lw_tbl := List.mem_append_right _ (List.mem_of_getElem? (i := 446) (by decide +kernel))
theorem w_171 : Cond.instanceMethod yX4_addCut ∈ lw_tbl := List.mem_append_right _ (List.mem_of_getElem? (i := 445) (by decide +kernel))
theorem w_172 : Cond.selects "AreaCrossings$Stretches" yX4_addCut yX4_addCut ∈ lw_tbl := List.mem_append_left _ (List.mem_of_getElem? (i := 14) (by decide +kernel))
theorem kX4_71 : cokV RX4 mX4_addCut 71 2 4 := ⟨⟨w_169, w_144, w_170, by decide +kernel, by decide +kernel, by decide +kernel⟩, w_171, w_172, by decide +kernel, by decide⟩
theorem w_173 : Cond.methodLink RX4 75 yX0_closedRings ∈ lw_tbl := List.mem_append_right _ (List.mem_of_getElem? (i := 453) (by decide +kernel))
theorem w_174 : Cond.code yX0_closedRings cX0_closedRings 1 (some .int) ∈ lw_tbl := List.mem_append_right _ (List.mem_of_getElem? (i := 456) (by decide +kernel))
theorem w_175 : Cond.instanceMethod yX0_closedRings ∈ lw_tbl := List.mem_append_right _ (List.mem_of_getElem? (i := 454) (by decide +kernel))
theorem w_176 : Cond.selects "AreaCrossings$Area" yX0_closedRings yX0_closedRings ∈ lw_tbl := List.mem_append_right _ (List.mem_of_getElem? (i := 455) (by decide +kernel))
theorem kX4_75 : cokV RX4 mX0_closedRings 75 0 0 := ⟨⟨w_173, w_31, w_174, by decide +kernel, by decide +kernel, by decide +kernel⟩, w_175, w_176, by decide +kernel, by decide⟩
theorem w_177 : Cond.methodLink RX4 79 yX0_ringOf ∈ lw_tbl := List.mem_append_right _ (List.mem_of_getElem? (i := 457) (by decide +kernel))
theorem kX4_79 : cokV RX4 mX0_ringOf 79 1 0 := ⟨⟨w_177, w_31, w_61, by decide +kernel, by decide +kernel, by decide +kernel⟩, w_62, w_63, by decide +kernel, by decide⟩
theorem w_178 : Cond.methodLink RX4 83 yX2_size ∈ lw_tbl := List.mem_append_right _ (List.mem_of_getElem? (i := 458) (by decide +kernel))
theorem kX4_83 : cokV RX4 mX2_size 83 0 2 := ⟨⟨w_178, w_36, w_37, by decide +kernel, by decide +kernel, by decide +kernel⟩, w_38, w_39, by decide +kernel, by decide⟩
theorem w_179 : Cond.methodLink RX4 85 yX4_cutAtSide ∈ lw_tbl := List.mem_append_right _ (List.mem_of_getElem? (i := 459) (by decide +kernel))
theorem w_180 : Cond.code yX4_cutAtSide cX4_cutAtSide 20 none ∈ lw_tbl := List.mem_append_right _ (List.mem_of_getElem? (i := 462) (by decide +kernel))
theorem w_181 : Cond.instanceMethod yX4_cutAtSide ∈ lw_tbl := List.mem_append_right _ (List.mem_of_getElem? (i := 461) (by decide +kernel))
theorem w_182 : Cond.selects "AreaCrossings$Stretches" yX4_cutAtSide yX4_cutAtSide ∈ lw_tbl := List.mem_append_left _ (List.mem_of_getElem? (i := 15) (by decide +kernel))
theorem kX4_85 : cokV RX4 mX4_cutAtSide 85 2 4 := ⟨⟨w_179, w_144, w_180, by decide +kernel, by decide +kernel, by decide +kernel⟩, w_181, w_182, by decide +kernel, by decide⟩
theorem w_183 : Cond.methodLink RX4 89 yX2_next ∈ lw_tbl := List.mem_append_right _ (List.mem_of_getElem? (i := 463) (by decide +kernel))
theorem kX4_89 : cokV RX4 mX2_next 89 1 2 := ⟨⟨w_183, w_36, w_98, by decide +kernel, by decide +kernel, by decide +kernel⟩, w_99, w_100, by decide +kernel, by decide⟩
theorem w_184 : Cond.methodLink RX4 92 yX2_xOf ∈ lw_tbl := List.mem_append_right _ (List.mem_of_getElem? (i := 464) (by decide +kernel))
theorem kX4_92 : cokV RX4 mX2_xOf 92 1 2 := ⟨⟨w_184, w_36, w_69, by decide +kernel, by decide +kernel, by decide +kernel⟩, w_70, w_71, by decide +kernel, by decide⟩
theorem w_185 : Cond.methodLink RX4 93 yX2_yOf ∈ lw_tbl := List.mem_append_right _ (List.mem_of_getElem? (i := 465) (by decide +kernel))
theorem kX4_93 : cokV RX4 mX2_yOf 93 1 2 := ⟨⟨w_185, w_36, w_73, by decide +kernel, by decide +kernel, by decide +kernel⟩, w_74, w_75, by decide +kernel, by decide⟩
theorem w_186 : Cond.methodLink RX4 96 yX4_isShare ∈ lw_tbl := List.mem_append_right _ (List.mem_of_getElem? (i := 447) (by decide +kernel))
theorem w_187 : Cond.code yX4_isShare cX4_isShare 4 (some .boolean) ∈ lw_tbl := List.mem_append_right _ (List.mem_of_getElem? (i := 449) (by decide +kernel))
theorem w_188 : Cond.static yX4_isShare ∈ lw_tbl := List.mem_append_right _ (List.mem_of_getElem? (i := 448) (by decide +kernel))
theorem kX4_96 : cokS RX4 mX4_isShare 96 2 := ⟨⟨w_186, w_144, w_187, by decide +kernel, by decide +kernel, by decide +kernel⟩, w_188⟩
theorem w_189 : Cond.methodLink RX4 100 yX4_greatestDivisor ∈ lw_tbl := List.mem_append_right _ (List.mem_of_getElem? (i := 450) (by decide +kernel))
theorem w_190 : Cond.code yX4_greatestDivisor cX4_greatestDivisor 11 (some .long) ∈ lw_tbl := List.mem_append_right _ (List.mem_of_getElem? (i := 452) (by decide +kernel))
theorem w_191 : Cond.static yX4_greatestDivisor ∈ lw_tbl := List.mem_append_right _ (List.mem_of_getElem? (i := 451) (by decide +kernel))
theorem kX4_100 : cokS RX4 mX4_greatestDivisor 100 2 := ⟨⟨w_189, w_144, w_190, by decide +kernel, by decide +kernel, by decide +kernel⟩, w_191⟩
theorem w_192 : Cond.methodLink RX4 106 yX0_contains ∈ lw_tbl := List.mem_append_right _ (List.mem_of_getElem? (i := 471) (by decide +kernel))
theorem kX4_106 : cokV RX4 mX0_contains 106 3 0 := ⟨⟨w_192, w_31, w_77, by decide +kernel, by decide +kernel, by decide +kernel⟩, w_78, w_79, by decide +kernel, by decide⟩
theorem w_193 : Cond.methodLink RX4 110 yX4_beginOf ∈ lw_tbl := List.mem_append_right _ (List.mem_of_getElem? (i := 567) (by decide +kernel))
theorem w_194 : Cond.code yX4_beginOf cX4_beginOf 2 (some .int) ∈ lw_tbl := List.mem_append_right _ (List.mem_of_getElem? (i := 488) (by decide +kernel))
theorem w_195 : Cond.instanceMethod yX4_beginOf ∈ lw_tbl := List.mem_append_right _ (List.mem_of_getElem? (i := 486) (by decide +kernel))
theorem w_196 : Cond.selects "AreaCrossings$Stretches" yX4_beginOf yX4_beginOf ∈ lw_tbl := List.mem_append_right _ (List.mem_of_getElem? (i := 487) (by decide +kernel))
theorem kX4_110 : cokV RX4 mX4_beginOf 110 1 4 := ⟨⟨w_193, w_144, w_194, by decide +kernel, by decide +kernel, by decide +kernel⟩, w_195, w_196, by decide +kernel, by decide⟩
theorem w_197 : Cond.methodLink RX4 113 yX4_endOf ∈ lw_tbl := List.mem_append_right _ (List.mem_of_getElem? (i := 568) (by decide +kernel))
theorem w_198 : Cond.code yX4_endOf cX4_endOf 2 (some .int) ∈ lw_tbl := List.mem_append_right _ (List.mem_of_getElem? (i := 492) (by decide +kernel))
theorem w_199 : Cond.instanceMethod yX4_endOf ∈ lw_tbl := List.mem_append_right _ (List.mem_of_getElem? (i := 490) (by decide +kernel))
theorem w_200 : Cond.selects "AreaCrossings$Stretches" yX4_endOf yX4_endOf ∈ lw_tbl := List.mem_append_right _ (List.mem_of_getElem? (i := 491) (by decide +kernel))
theorem kX4_113 : cokV RX4 mX4_endOf 113 1 4 := ⟨⟨w_197, w_144, w_198, by decide +kernel, by decide +kernel, by decide +kernel⟩, w_199, w_200, by decide +kernel, by decide⟩
theorem w_201 : Cond.methodLink RX4 116 yX4_underOf ∈ lw_tbl := List.mem_append_right _ (List.mem_of_getElem? (i := 569) (by decide +kernel))
theorem w_202 : Cond.code yX4_underOf cX4_underOf 2 (some .long) ∈ lw_tbl := List.mem_append_right _ (List.mem_of_getElem? (i := 504) (by decide +kernel))
theorem w_203 : Cond.instanceMethod yX4_underOf ∈ lw_tbl := List.mem_append_right _ (List.mem_of_getElem? (i := 502) (by decide +kernel))
theorem w_204 : Cond.selects "AreaCrossings$Stretches" yX4_underOf yX4_underOf ∈ lw_tbl := List.mem_append_right _ (List.mem_of_getElem? (i := 503) (by decide +kernel))
theorem kX4_116 : cokV RX4 mX4_underOf 116 1 4 := ⟨⟨w_201, w_144, w_202, by decide +kernel, by decide +kernel, by decide +kernel⟩, w_203, w_204, by decide +kernel, by decide⟩
theorem w_205 : Cond.methodLink RX4 119 yX4_overOf ∈ lw_tbl := List.mem_append_right _ (List.mem_of_getElem? (i := 570) (by decide +kernel))
theorem w_206 : Cond.code yX4_overOf cX4_overOf 2 (some .long) ∈ lw_tbl := List.mem_append_right _ (List.mem_of_getElem? (i := 500) (by decide +kernel))
theorem w_207 : Cond.instanceMethod yX4_overOf ∈ lw_tbl := List.mem_append_right _ (List.mem_of_getElem? (i := 498) (by decide +kernel))
theorem w_208 : Cond.selects "AreaCrossings$Stretches" yX4_overOf yX4_overOf ∈ lw_tbl := List.mem_append_right _ (List.mem_of_getElem? (i := 499) (by decide +kernel))
theorem kX4_119 : cokV RX4 mX4_overOf 119 1 4 := ⟨⟨w_205, w_144, w_206, by decide +kernel, by decide +kernel, by decide +kernel⟩, w_207, w_208, by decide +kernel, by decide⟩
theorem w_209 : Cond.methodLink RX5 26 yJ9_max_7cf53 ∈ lw_tbl := List.mem_append_right _ (List.mem_of_getElem? (i := 374) (by decide +kernel))
theorem kX5_26 : cokM RX5 26 Lib.Math.max.name Lib.Math.max.code 2 (some .int) := ⟨w_209, w_126, w_121, w_125⟩
theorem w_210 : Cond.methodLink RX5 32 yX5_hasPiece ∈ lw_tbl := List.mem_append_right _ (List.mem_of_getElem? (i := 396) (by decide +kernel))
theorem w_211 : Cond.code yX5_hasPiece cX5_hasPiece 2 (some .boolean) ∈ lw_tbl := List.mem_append_right _ (List.mem_of_getElem? (i := 387) (by decide +kernel))
theorem w_212 : Cond.instanceMethod yX5_hasPiece ∈ lw_tbl := List.mem_append_right _ (List.mem_of_getElem? (i := 385) (by decide +kernel))
theorem w_213 : Cond.selects "AreaCrossings$Track" yX5_hasPiece yX5_hasPiece ∈ lw_tbl := List.mem_append_right _ (List.mem_of_getElem? (i := 386) (by decide +kernel))
theorem kX5_32 : cokV RX5 mX5_hasPiece 32 1 5 := ⟨⟨w_210, w_161, w_211, by decide +kernel, by decide +kernel, by decide +kernel⟩, w_212, w_213, by decide +kernel, by decide⟩
theorem w_214 : Cond.methodLink RX5 36 yX5_secondsOf ∈ lw_tbl := List.mem_append_right _ (List.mem_of_getElem? (i := 392) (by decide +kernel))
theorem w_215 : Cond.code yX5_secondsOf cX5_secondsOf 2 (some .long) ∈ lw_tbl := List.mem_append_right _ (List.mem_of_getElem? (i := 395) (by decide +kernel))
theorem w_216 : Cond.instanceMethod yX5_secondsOf ∈ lw_tbl := List.mem_append_right _ (List.mem_of_getElem? (i := 393) (by decide +kernel))
theorem w_217 : Cond.selects "AreaCrossings$Track" yX5_secondsOf yX5_secondsOf ∈ lw_tbl := List.mem_append_right _ (List.mem_of_getElem? (i := 394) (by decide +kernel))
theorem kX5_36 : cokV RX5 mX5_secondsOf 36 1 5 := ⟨⟨w_214, w_161, w_215, by decide +kernel, by decide +kernel, by decide +kernel⟩, w_216, w_217, by decide +kernel, by decide⟩
theorem w_218 : Cond.methodLink RX5 46 yX5_pieces ∈ lw_tbl := List.mem_append_right _ (List.mem_of_getElem? (i := 579) (by decide +kernel))
theorem w_219 : Cond.code yX5_pieces cX5_pieces 1 (some .int) ∈ lw_tbl := List.mem_append_right _ (List.mem_of_getElem? (i := 373) (by decide +kernel))
theorem w_220 : Cond.instanceMethod yX5_pieces ∈ lw_tbl := List.mem_append_right _ (List.mem_of_getElem? (i := 371) (by decide +kernel))
theorem w_221 : Cond.selects "AreaCrossings$Track" yX5_pieces yX5_pieces ∈ lw_tbl := List.mem_append_right _ (List.mem_of_getElem? (i := 372) (by decide +kernel))
theorem kX5_46 : cokV RX5 mX5_pieces 46 0 5 := ⟨⟨w_218, w_161, w_219, by decide +kernel, by decide +kernel, by decide +kernel⟩, w_220, w_221, by decide +kernel, by decide⟩
theorem w_222 : Cond.methodLink RX5 50 yX5_isGap ∈ lw_tbl := List.mem_append_right _ (List.mem_of_getElem? (i := 420) (by decide +kernel))
theorem w_223 : Cond.code yX5_isGap cX5_isGap 2 (some .boolean) ∈ lw_tbl := List.mem_append_right _ (List.mem_of_getElem? (i := 391) (by decide +kernel))
theorem w_224 : Cond.instanceMethod yX5_isGap ∈ lw_tbl := List.mem_append_right _ (List.mem_of_getElem? (i := 389) (by decide +kernel))
theorem w_225 : Cond.selects "AreaCrossings$Track" yX5_isGap yX5_isGap ∈ lw_tbl := List.mem_append_right _ (List.mem_of_getElem? (i := 390) (by decide +kernel))
theorem kX5_50 : cokV RX5 mX5_isGap 50 1 5 := ⟨⟨w_222, w_161, w_223, by decide +kernel, by decide +kernel, by decide +kernel⟩, w_224, w_225, by decide +kernel, by decide⟩
theorem w_226 : Cond.methodLink RX5 53 yX5_xOf ∈ lw_tbl := List.mem_append_right _ (List.mem_of_getElem? (i := 421) (by decide +kernel))
theorem kX5_53 : cokV RX5 mX5_xOf 53 1 5 := ⟨⟨w_226, w_161, w_162, by decide +kernel, by decide +kernel, by decide +kernel⟩, w_163, w_164, by decide +kernel, by decide⟩
theorem w_227 : Cond.methodLink RX5 57 yX5_yOf ∈ lw_tbl := List.mem_append_right _ (List.mem_of_getElem? (i := 425) (by decide +kernel))
theorem kX5_57 : cokV RX5 mX5_yOf 57 1 5 := ⟨⟨w_227, w_161, w_166, by decide +kernel, by decide +kernel, by decide +kernel⟩, w_167, w_168, by decide +kernel, by decide⟩
theorem w_228 : Cond.methodLink RX6 60 yX6_isArea ∈ lw_tbl := List.mem_append_right _ (List.mem_of_getElem? (i := 199) (by decide +kernel))
theorem w_229 : Cond.initialized "AreaCrossings" ∈ lw_tbl := List.mem_append_right _ (List.mem_of_getElem? (i := 1) (by decide +kernel))
theorem w_230 : Cond.code yX6_isArea cX6_isArea 2 (some .boolean) ∈ lw_tbl := List.mem_append_right _ (List.mem_of_getElem? (i := 202) (by decide +kernel))
theorem w_231 : Cond.instanceMethod yX6_isArea ∈ lw_tbl := List.mem_append_right _ (List.mem_of_getElem? (i := 201) (by decide +kernel))
theorem w_232 : Cond.selects "AreaCrossings" yX6_isArea yX6_isArea ∈ lw_tbl := List.mem_append_left _ (List.mem_of_getElem? (i := 0) (by decide +kernel))
theorem kX6_60 : cokV RX6 mX6_isArea 60 1 6 := ⟨⟨w_228, w_229, w_230, by decide +kernel, by decide +kernel, by decide +kernel⟩, w_231, w_232, by decide +kernel, by decide⟩
theorem w_233 : Cond.methodLink RX6 67 yX6_isPlace ∈ lw_tbl := List.mem_append_right _ (List.mem_of_getElem? (i := 312) (by decide +kernel))
theorem w_234 : Cond.code yX6_isPlace cX6_isPlace 4 (some .boolean) ∈ lw_tbl := List.mem_append_right _ (List.mem_of_getElem? (i := 314) (by decide +kernel))
theorem w_235 : Cond.static yX6_isPlace ∈ lw_tbl := List.mem_append_right _ (List.mem_of_getElem? (i := 313) (by decide +kernel))
theorem kX6_67 : cokS RX6 mX6_isPlace 67 2 := ⟨⟨w_233, w_229, w_234, by decide +kernel, by decide +kernel, by decide +kernel⟩, w_235⟩
theorem w_236 : Cond.methodLink RX6 75 yX0_closeRing ∈ lw_tbl := List.mem_append_right _ (List.mem_of_getElem? (i := 203) (by decide +kernel))
theorem w_237 : Cond.code yX0_closeRing cX0_closeRing 2 (some .boolean) ∈ lw_tbl := List.mem_append_right _ (List.mem_of_getElem? (i := 206) (by decide +kernel))
theorem w_238 : Cond.instanceMethod yX0_closeRing ∈ lw_tbl := List.mem_append_right _ (List.mem_of_getElem? (i := 204) (by decide +kernel))
theorem w_239 : Cond.selects "AreaCrossings$Area" yX0_closeRing yX0_closeRing ∈ lw_tbl := List.mem_append_right _ (List.mem_of_getElem? (i := 205) (by decide +kernel))
theorem kX6_75 : cokV RX6 mX0_closeRing 75 0 0 := ⟨⟨w_236, w_31, w_237, by decide +kernel, by decide +kernel, by decide +kernel⟩, w_238, w_239, by decide +kernel, by decide⟩
theorem w_240 : Cond.methodLink RX6 79 yX0_beginHole ∈ lw_tbl := List.mem_append_right _ (List.mem_of_getElem? (i := 284) (by decide +kernel))
theorem w_241 : Cond.code yX0_beginHole cX0_beginHole 1 (some .boolean) ∈ lw_tbl := List.mem_append_right _ (List.mem_of_getElem? (i := 287) (by decide +kernel))
theorem w_242 : Cond.instanceMethod yX0_beginHole ∈ lw_tbl := List.mem_append_right _ (List.mem_of_getElem? (i := 285) (by decide +kernel))
theorem w_243 : Cond.selects "AreaCrossings$Area" yX0_beginHole yX0_beginHole ∈ lw_tbl := List.mem_append_right _ (List.mem_of_getElem? (i := 286) (by decide +kernel))
theorem kX6_79 : cokV RX6 mX0_beginHole 79 0 0 := ⟨⟨w_240, w_31, w_241, by decide +kernel, by decide +kernel, by decide +kernel⟩, w_242, w_243, by decide +kernel, by decide⟩
theorem w_244 : Cond.methodLink RX6 82 yX6_isGear ∈ lw_tbl := List.mem_append_right _ (List.mem_of_getElem? (i := 292) (by decide +kernel))
theorem w_245 : Cond.code yX6_isGear cX6_isGear 1 (some .boolean) ∈ lw_tbl := List.mem_append_right _ (List.mem_of_getElem? (i := 294) (by decide +kernel))
theorem w_246 : Cond.static yX6_isGear ∈ lw_tbl := List.mem_append_right _ (List.mem_of_getElem? (i := 293) (by decide +kernel))
theorem kX6_82 : cokS RX6 mX6_isGear 82 1 := ⟨⟨w_244, w_229, w_245, by decide +kernel, by decide +kernel, by decide +kernel⟩, w_246⟩
theorem w_247 : Cond.methodLink RX6 85 yX3_add ∈ lw_tbl := List.mem_append_right _ (List.mem_of_getElem? (i := 295) (by decide +kernel))
theorem w_248 : Cond.code yX3_add cX3_add 5 (some .boolean) ∈ lw_tbl := List.mem_append_right _ (List.mem_of_getElem? (i := 298) (by decide +kernel))
theorem w_249 : Cond.instanceMethod yX3_add ∈ lw_tbl := List.mem_append_right _ (List.mem_of_getElem? (i := 296) (by decide +kernel))
theorem w_250 : Cond.selects "AreaCrossings$Rules" yX3_add yX3_add ∈ lw_tbl := List.mem_append_right _ (List.mem_of_getElem? (i := 297) (by decide +kernel))
theorem kX6_85 : cokV RX6 mX3_add 85 4 3 := ⟨⟨w_247, w_139, w_248, by decide +kernel, by decide +kernel, by decide +kernel⟩, w_249, w_250, by decide +kernel, by decide⟩
theorem w_251 : Cond.methodLink RX6 91 yX0_setFastFrom ∈ lw_tbl := List.mem_append_right _ (List.mem_of_getElem? (i := 304) (by decide +kernel))
theorem w_252 : Cond.code yX0_setFastFrom cX0_setFastFrom 3 none ∈ lw_tbl := List.mem_append_right _ (List.mem_of_getElem? (i := 307) (by decide +kernel))
theorem w_253 : Cond.instanceMethod yX0_setFastFrom ∈ lw_tbl := List.mem_append_right _ (List.mem_of_getElem? (i := 305) (by decide +kernel))
theorem w_254 : Cond.selects "AreaCrossings$Area" yX0_setFastFrom yX0_setFastFrom ∈ lw_tbl := List.mem_append_right _ (List.mem_of_getElem? (i := 306) (by decide +kernel))
theorem kX6_91 : cokV RX6 mX0_setFastFrom 91 1 0 := ⟨⟨w_251, w_31, w_252, by decide +kernel, by decide +kernel, by decide +kernel⟩, w_253, w_254, by decide +kernel, by decide⟩
theorem w_255 : Cond.methodLink RX6 97 yX6_firstUntouchedArea ∈ lw_tbl := List.mem_append_right _ (List.mem_of_getElem? (i := 321) (by decide +kernel))
theorem w_256 : Cond.code yX6_firstUntouchedArea cX6_firstUntouchedArea 2 (some .int) ∈ lw_tbl := List.mem_append_right _ (List.mem_of_getElem? (i := 324) (by decide +kernel))
theorem w_257 : Cond.instanceMethod yX6_firstUntouchedArea ∈ lw_tbl := List.mem_append_right _ (List.mem_of_getElem? (i := 323) (by decide +kernel))
theorem w_258 : Cond.selects "AreaCrossings" yX6_firstUntouchedArea yX6_firstUntouchedArea ∈ lw_tbl := List.mem_append_left _ (List.mem_of_getElem? (i := 7) (by decide +kernel))
theorem kX6_97 : cokV RX6 mX6_firstUntouchedArea 97 0 6 := ⟨⟨w_255, w_229, w_256, by decide +kernel, by decide +kernel, by decide +kernel⟩, w_257, w_258, by decide +kernel, by decide⟩
theorem w_259 : Cond.methodLink RX6 101 yX3_room ∈ lw_tbl := List.mem_append_right _ (List.mem_of_getElem? (i := 333) (by decide +kernel))
theorem w_260 : Cond.code yX3_room cX3_room 1 (some .int) ∈ lw_tbl := List.mem_append_right _ (List.mem_of_getElem? (i := 336) (by decide +kernel))
theorem w_261 : Cond.instanceMethod yX3_room ∈ lw_tbl := List.mem_append_right _ (List.mem_of_getElem? (i := 334) (by decide +kernel))
theorem w_262 : Cond.selects "AreaCrossings$Rules" yX3_room yX3_room ∈ lw_tbl := List.mem_append_right _ (List.mem_of_getElem? (i := 335) (by decide +kernel))
theorem kX6_101 : cokV RX6 mX3_room 101 0 3 := ⟨⟨w_259, w_139, w_260, by decide +kernel, by decide +kernel, by decide +kernel⟩, w_261, w_262, by decide +kernel, by decide⟩
theorem w_263 : Cond.methodLink RX6 104 yX0_becomeSquare ∈ lw_tbl := List.mem_append_right _ (List.mem_of_getElem? (i := 337) (by decide +kernel))
theorem w_264 : Cond.code yX0_becomeSquare cX0_becomeSquare 5 none ∈ lw_tbl := List.mem_append_right _ (List.mem_of_getElem? (i := 340) (by decide +kernel))
theorem w_265 : Cond.instanceMethod yX0_becomeSquare ∈ lw_tbl := List.mem_append_right _ (List.mem_of_getElem? (i := 338) (by decide +kernel))
theorem w_266 : Cond.selects "AreaCrossings$Area" yX0_becomeSquare yX0_becomeSquare ∈ lw_tbl := List.mem_append_right _ (List.mem_of_getElem? (i := 339) (by decide +kernel))
theorem kX6_104 : cokV RX6 mX0_becomeSquare 104 3 0 := ⟨⟨w_263, w_31, w_264, by decide +kernel, by decide +kernel, by decide +kernel⟩, w_265, w_266, by decide +kernel, by decide⟩
theorem w_267 : Cond.methodLink RX6 108 yX6_isTrack ∈ lw_tbl := List.mem_append_right _ (List.mem_of_getElem? (i := 353) (by decide +kernel))
theorem w_268 : Cond.code yX6_isTrack cX6_isTrack 2 (some .boolean) ∈ lw_tbl := List.mem_append_right _ (List.mem_of_getElem? (i := 356) (by decide +kernel))
theorem w_269 : Cond.instanceMethod yX6_isTrack ∈ lw_tbl := List.mem_append_right _ (List.mem_of_getElem? (i := 355) (by decide +kernel))
theorem w_270 : Cond.selects "AreaCrossings" yX6_isTrack yX6_isTrack ∈ lw_tbl := List.mem_append_left _ (List.mem_of_getElem? (i := 8) (by decide +kernel))
theorem kX6_108 : cokV RX6 mX6_isTrack 108 1 6 := ⟨⟨w_267, w_229, w_268, by decide +kernel, by decide +kernel, by decide +kernel⟩, w_269, w_270, by decide +kernel, by decide⟩
theorem w_271 : Cond.methodLink RX6 111 yX5_add ∈ lw_tbl := List.mem_append_right _ (List.mem_of_getElem? (i := 357) (by decide +kernel))
theorem w_272 : Cond.code yX5_add cX5_add 5 (some .boolean) ∈ lw_tbl := List.mem_append_right _ (List.mem_of_getElem? (i := 360) (by decide +kernel))
theorem w_273 : Cond.instanceMethod yX5_add ∈ lw_tbl := List.mem_append_right _ (List.mem_of_getElem? (i := 358) (by decide +kernel))
theorem w_274 : Cond.selects "AreaCrossings$Track" yX5_add yX5_add ∈ lw_tbl := List.mem_append_right _ (List.mem_of_getElem? (i := 359) (by decide +kernel))
theorem kX6_111 : cokV RX6 mX5_add 111 3 5 := ⟨⟨w_271, w_161, w_272, by decide +kernel, by decide +kernel, by decide +kernel⟩, w_273, w_274, by decide +kernel, by decide⟩
theorem w_275 : Cond.methodLink RX6 114 yX1_clear ∈ lw_tbl := List.mem_append_right _ (List.mem_of_getElem? (i := 366) (by decide +kernel))
theorem w_276 : Cond.code yX1_clear cX1_clear 1 none ∈ lw_tbl := List.mem_append_right _ (List.mem_of_getElem? (i := 369) (by decide +kernel))
theorem w_277 : Cond.instanceMethod yX1_clear ∈ lw_tbl := List.mem_append_right _ (List.mem_of_getElem? (i := 367) (by decide +kernel))
theorem w_278 : Cond.selects "AreaCrossings$Crossings" yX1_clear yX1_clear ∈ lw_tbl := List.mem_append_right _ (List.mem_of_getElem? (i := 368) (by decide +kernel))
theorem kX6_114 : cokV RX6 mX1_clear 114 0 1 := ⟨⟨w_275, w_93, w_276, by decide +kernel, by decide +kernel, by decide +kernel⟩, w_277, w_278, by decide +kernel, by decide⟩
theorem w_279 : Cond.methodLink RX6 117 yX5_pieces ∈ lw_tbl := List.mem_append_right _ (List.mem_of_getElem? (i := 370) (by decide +kernel))
theorem kX6_117 : cokV RX6 mX5_pieces 117 0 5 := ⟨⟨w_279, w_161, w_219, by decide +kernel, by decide +kernel, by decide +kernel⟩, w_220, w_221, by decide +kernel, by decide⟩
theorem w_280 : Cond.methodLink RX6 120 yX6_counts ∈ lw_tbl := List.mem_append_right _ (List.mem_of_getElem? (i := 375) (by decide +kernel))
theorem w_281 : Cond.code yX6_counts cX6_counts 5 (some .boolean) ∈ lw_tbl := List.mem_append_right _ (List.mem_of_getElem? (i := 378) (by decide +kernel))
theorem w_282 : Cond.instanceMethod yX6_counts ∈ lw_tbl := List.mem_append_right _ (List.mem_of_getElem? (i := 377) (by decide +kernel))
theorem w_283 : Cond.selects "AreaCrossings" yX6_counts yX6_counts ∈ lw_tbl := List.mem_append_left _ (List.mem_of_getElem? (i := 9) (by decide +kernel))
theorem kX6_120 : cokV RX6 mX6_counts 120 4 6 := ⟨⟨w_280, w_229, w_281, by decide +kernel, by decide +kernel, by decide +kernel⟩, w_282, w_283, by decide +kernel, by decide⟩
theorem w_284 : Cond.methodLink RX6 124 yX6_noteCrossings ∈ lw_tbl := List.mem_append_right _ (List.mem_of_getElem? (i := 429) (by decide +kernel))
theorem w_285 : Cond.code yX6_noteCrossings cX6_noteCrossings 11 (some .boolean) ∈ lw_tbl := List.mem_append_right _ (List.mem_of_getElem? (i := 432) (by decide +kernel))
theorem w_286 : Cond.instanceMethod yX6_noteCrossings ∈ lw_tbl := List.mem_append_right _ (List.mem_of_getElem? (i := 431) (by decide +kernel))
theorem w_287 : Cond.selects "AreaCrossings" yX6_noteCrossings yX6_noteCrossings ∈ lw_tbl := List.mem_append_left _ (List.mem_of_getElem? (i := 12) (by decide +kernel))
theorem kX6_124 : cokV RX6 mX6_noteCrossings 124 4 6 := ⟨⟨w_284, w_229, w_285, by decide +kernel, by decide +kernel, by decide +kernel⟩, w_286, w_287, by decide +kernel, by decide⟩
theorem w_288 : Cond.methodLink RX6 127 yX1_size ∈ lw_tbl := List.mem_append_right _ (List.mem_of_getElem? (i := 513) (by decide +kernel))
theorem w_289 : Cond.code yX1_size cX1_size 1 (some .int) ∈ lw_tbl := List.mem_append_right _ (List.mem_of_getElem? (i := 516) (by decide +kernel))
theorem w_290 : Cond.instanceMethod yX1_size ∈ lw_tbl := List.mem_append_right _ (List.mem_of_getElem? (i := 514) (by decide +kernel))
theorem w_291 : Cond.selects "AreaCrossings$Crossings" yX1_size yX1_size ∈ lw_tbl := List.mem_append_right _ (List.mem_of_getElem? (i := 515) (by decide +kernel))
theorem kX6_127 : cokV RX6 mX1_size 127 0 1 := ⟨⟨w_288, w_93, w_289, by decide +kernel, by decide +kernel, by decide +kernel⟩, w_290, w_291, by decide +kernel, by decide⟩
theorem w_292 : Cond.methodLink RX6 130 yX1_has ∈ lw_tbl := List.mem_append_right _ (List.mem_of_getElem? (i := 521) (by decide +kernel))
theorem kX6_130 : cokV RX6 mX1_has 130 1 1 := ⟨⟨w_292, w_93, w_94, by decide +kernel, by decide +kernel, by decide +kernel⟩, w_95, w_96, by decide +kernel, by decide⟩
theorem w_293 : Cond.methodLink RX6 151 yX1_isEntering ∈ lw_tbl := List.mem_append_right _ (List.mem_of_getElem? (i := 549) (by decide +kernel))
theorem w_294 : Cond.code yX1_isEntering cX1_isEntering 2 (some .boolean) ∈ lw_tbl := List.mem_append_right _ (List.mem_of_getElem? (i := 552) (by decide +kernel))
theorem w_295 : Cond.instanceMethod yX1_isEntering ∈ lw_tbl := List.mem_append_right _ (List.mem_of_getElem? (i := 550) (by decide +kernel))
theorem w_296 : Cond.selects "AreaCrossings$Crossings" yX1_isEntering yX1_isEntering ∈ lw_tbl := List.mem_append_right _ (List.mem_of_getElem? (i := 551) (by decide +kernel))
theorem kX6_151 : cokV RX6 mX1_isEntering 151 1 1 := ⟨⟨w_293, w_93, w_294, by decide +kernel, by decide +kernel, by decide +kernel⟩, w_295, w_296, by decide +kernel, by decide⟩
theorem w_297 : Cond.methodLink RX6 154 yX6_isThere ∈ lw_tbl := List.mem_append_right _ (List.mem_of_getElem? (i := 379) (by decide +kernel))
theorem w_298 : Cond.code yX6_isThere cX6_isThere 2 (some .boolean) ∈ lw_tbl := List.mem_append_right _ (List.mem_of_getElem? (i := 382) (by decide +kernel))
theorem w_299 : Cond.instanceMethod yX6_isThere ∈ lw_tbl := List.mem_append_right _ (List.mem_of_getElem? (i := 381) (by decide +kernel))
theorem w_300 : Cond.selects "AreaCrossings" yX6_isThere yX6_isThere ∈ lw_tbl := List.mem_append_left _ (List.mem_of_getElem? (i := 10) (by decide +kernel))
theorem kX6_154 : cokV RX6 mX6_isThere 154 1 6 := ⟨⟨w_297, w_229, w_298, by decide +kernel, by decide +kernel, by decide +kernel⟩, w_299, w_300, by decide +kernel, by decide⟩
theorem w_301 : Cond.methodLink RX6 157 yX6_thousandthsIn ∈ lw_tbl := List.mem_append_right _ (List.mem_of_getElem? (i := 557) (by decide +kernel))
theorem w_302 : Cond.code yX6_thousandthsIn cX6_thousandthsIn 7 (some .long) ∈ lw_tbl := List.mem_append_right _ (List.mem_of_getElem? (i := 560) (by decide +kernel))
theorem w_303 : Cond.instanceMethod yX6_thousandthsIn ∈ lw_tbl := List.mem_append_right _ (List.mem_of_getElem? (i := 559) (by decide +kernel))
theorem w_304 : Cond.selects "AreaCrossings" yX6_thousandthsIn yX6_thousandthsIn ∈ lw_tbl := List.mem_append_left _ (List.mem_of_getElem? (i := 19) (by decide +kernel))
theorem kX6_157 : cokV RX6 mX6_thousandthsIn 157 3 6 := ⟨⟨w_301, w_229, w_302, by decide +kernel, by decide +kernel, by decide +kernel⟩, w_303, w_304, by decide +kernel, by decide⟩
theorem w_305 : Cond.methodLink RX6 161 yX5_pieceOfGap ∈ lw_tbl := List.mem_append_right _ (List.mem_of_getElem? (i := 575) (by decide +kernel))
theorem w_306 : Cond.code yX5_pieceOfGap cX5_pieceOfGap 4 (some .int) ∈ lw_tbl := List.mem_append_right _ (List.mem_of_getElem? (i := 578) (by decide +kernel))
theorem w_307 : Cond.instanceMethod yX5_pieceOfGap ∈ lw_tbl := List.mem_append_right _ (List.mem_of_getElem? (i := 576) (by decide +kernel))
theorem w_308 : Cond.selects "AreaCrossings$Track" yX5_pieceOfGap yX5_pieceOfGap ∈ lw_tbl := List.mem_append_right _ (List.mem_of_getElem? (i := 577) (by decide +kernel))
theorem kX6_161 : cokV RX6 mX5_pieceOfGap 161 1 5 := ⟨⟨w_305, w_161, w_306, by decide +kernel, by decide +kernel, by decide +kernel⟩, w_307, w_308, by decide +kernel, by decide⟩
theorem w_309 : Cond.methodLink RX6 164 yX6_mayHaveBeenNear ∈ lw_tbl := List.mem_append_right _ (List.mem_of_getElem? (i := 580) (by decide +kernel))
theorem w_310 : Cond.code yX6_mayHaveBeenNear cX6_mayHaveBeenNear 14 (some .boolean) ∈ lw_tbl := List.mem_append_right _ (List.mem_of_getElem? (i := 582) (by decide +kernel))
theorem w_311 : Cond.static yX6_mayHaveBeenNear ∈ lw_tbl := List.mem_append_right _ (List.mem_of_getElem? (i := 581) (by decide +kernel))
theorem kX6_164 : cokS RX6 mX6_mayHaveBeenNear 164 3 := ⟨⟨w_309, w_229, w_310, by decide +kernel, by decide +kernel, by decide +kernel⟩, w_311⟩
theorem w_312 : Cond.methodLink RX6 170 yX5_places ∈ lw_tbl := List.mem_append_right _ (List.mem_of_getElem? (i := 613) (by decide +kernel))
theorem w_313 : Cond.code yX5_places cX5_places 1 (some .int) ∈ lw_tbl := List.mem_append_right _ (List.mem_of_getElem? (i := 616) (by decide +kernel))
theorem w_314 : Cond.instanceMethod yX5_places ∈ lw_tbl := List.mem_append_right _ (List.mem_of_getElem? (i := 614) (by decide +kernel))
theorem w_315 : Cond.selects "AreaCrossings$Track" yX5_places yX5_places ∈ lw_tbl := List.mem_append_right _ (List.mem_of_getElem? (i := 615) (by decide +kernel))
theorem kX6_170 : cokV RX6 mX5_places 170 0 5 := ⟨⟨w_312, w_161, w_313, by decide +kernel, by decide +kernel, by decide +kernel⟩, w_314, w_315, by decide +kernel, by decide⟩
theorem w_316 : Cond.methodLink RX6 173 yX5_xOf ∈ lw_tbl := List.mem_append_right _ (List.mem_of_getElem? (i := 587) (by decide +kernel))
theorem kX6_173 : cokV RX6 mX5_xOf 173 1 5 := ⟨⟨w_316, w_161, w_162, by decide +kernel, by decide +kernel, by decide +kernel⟩, w_163, w_164, by decide +kernel, by decide⟩
theorem w_317 : Cond.methodLink RX6 176 yX5_yOf ∈ lw_tbl := List.mem_append_right _ (List.mem_of_getElem? (i := 588) (by decide +kernel))
theorem kX6_176 : cokV RX6 mX5_yOf 176 1 5 := ⟨⟨w_317, w_161, w_166, by decide +kernel, by decide +kernel, by decide +kernel⟩, w_167, w_168, by decide +kernel, by decide⟩
theorem w_318 : Cond.methodLink RX6 179 yX0_isInOrNear ∈ lw_tbl := List.mem_append_right _ (List.mem_of_getElem? (i := 617) (by decide +kernel))
theorem w_319 : Cond.code yX0_isInOrNear cX0_isInOrNear 8 (some .boolean) ∈ lw_tbl := List.mem_append_right _ (List.mem_of_getElem? (i := 620) (by decide +kernel))
theorem w_320 : Cond.instanceMethod yX0_isInOrNear ∈ lw_tbl := List.mem_append_right _ (List.mem_of_getElem? (i := 618) (by decide +kernel))
theorem w_321 : Cond.selects "AreaCrossings$Area" yX0_isInOrNear yX0_isInOrNear ∈ lw_tbl := List.mem_append_right _ (List.mem_of_getElem? (i := 619) (by decide +kernel))
theorem kX6_179 : cokV RX6 mX0_isInOrNear 179 3 0 := ⟨⟨w_318, w_31, w_319, by decide +kernel, by decide +kernel, by decide +kernel⟩, w_320, w_321, by decide +kernel, by decide⟩
theorem w_322 : Cond.methodLink RX6 183 yX3_barAny ∈ lw_tbl := List.mem_append_right _ (List.mem_of_getElem? (i := 633) (by decide +kernel))
theorem w_323 : Cond.code yX3_barAny cX3_barAny 5 (some .boolean) ∈ lw_tbl := List.mem_append_right _ (List.mem_of_getElem? (i := 636) (by decide +kernel))
theorem w_324 : Cond.instanceMethod yX3_barAny ∈ lw_tbl := List.mem_append_right _ (List.mem_of_getElem? (i := 634) (by decide +kernel))
theorem w_325 : Cond.selects "AreaCrossings$Rules" yX3_barAny yX3_barAny ∈ lw_tbl := List.mem_append_right _ (List.mem_of_getElem? (i := 635) (by decide +kernel))
theorem kX6_183 : cokV RX6 mX3_barAny 183 2 3 := ⟨⟨w_322, w_139, w_323, by decide +kernel, by decide +kernel, by decide +kernel⟩, w_324, w_325, by decide +kernel, by decide⟩
theorem w_326 : Cond.methodLink RX6 187 yX0_outer ∈ lw_tbl := List.mem_append_right _ (List.mem_of_getElem? (i := 589) (by decide +kernel))
theorem kX6_187 : cokV RX6 mX0_outer 187 0 0 := ⟨⟨w_326, w_31, w_32, by decide +kernel, by decide +kernel, by decide +kernel⟩, w_33, w_34, by decide +kernel, by decide⟩
theorem w_327 : Cond.methodLink RX6 191 yX2_meets ∈ lw_tbl := List.mem_append_right _ (List.mem_of_getElem? (i := 641) (by decide +kernel))
theorem kX6_191 : cokV RX6 mX2_meets 191 1 2 := ⟨⟨w_327, w_36, w_65, by decide +kernel, by decide +kernel, by decide +kernel⟩, w_66, w_67, by decide +kernel, by decide⟩
theorem w_328 : Cond.methodLink RX6 197 yX2_holdsFirstCornerOf ∈ lw_tbl := List.mem_append_right _ (List.mem_of_getElem? (i := 642) (by decide +kernel))
theorem w_329 : Cond.code yX2_holdsFirstCornerOf cX2_holdsFirstCornerOf 2 (some .boolean) ∈ lw_tbl := List.mem_append_right _ (List.mem_of_getElem? (i := 645) (by decide +kernel))
theorem w_330 : Cond.instanceMethod yX2_holdsFirstCornerOf ∈ lw_tbl := List.mem_append_right _ (List.mem_of_getElem? (i := 643) (by decide +kernel))
theorem w_331 : Cond.selects "AreaCrossings$Ring" yX2_holdsFirstCornerOf yX2_holdsFirstCornerOf ∈ lw_tbl := List.mem_append_right _ (List.mem_of_getElem? (i := 644) (by decide +kernel))
theorem kX6_197 : cokV RX6 mX2_holdsFirstCornerOf 197 1 2 := ⟨⟨w_328, w_36, w_329, by decide +kernel, by decide +kernel, by decide +kernel⟩, w_330, w_331, by decide +kernel, by decide⟩
theorem w_332 : Cond.methodLink RX6 200 yX0_contains ∈ lw_tbl := List.mem_append_right _ (List.mem_of_getElem? (i := 653) (by decide +kernel))
theorem kX6_200 : cokV RX6 mX0_contains 200 3 0 := ⟨⟨w_332, w_31, w_77, by decide +kernel, by decide +kernel, by decide +kernel⟩, w_78, w_79, by decide +kernel, by decide⟩
theorem w_333 : Cond.methodLink RX6 203 yX0_isThere ∈ lw_tbl := List.mem_append_right _ (List.mem_of_getElem? (i := 383) (by decide +kernel))
theorem kX6_203 : cokV RX6 mX0_isThere 203 0 0 := ⟨⟨w_333, w_31, w_81, by decide +kernel, by decide +kernel, by decide +kernel⟩, w_82, w_83, by decide +kernel, by decide⟩
theorem w_334 : Cond.methodLink RX6 205 yX6_isCoordinate ∈ lw_tbl := List.mem_append_right _ (List.mem_of_getElem? (i := 315) (by decide +kernel))
theorem w_335 : Cond.code yX6_isCoordinate cX6_isCoordinate 2 (some .boolean) ∈ lw_tbl := List.mem_append_right _ (List.mem_of_getElem? (i := 317) (by decide +kernel))
theorem w_336 : Cond.static yX6_isCoordinate ∈ lw_tbl := List.mem_append_right _ (List.mem_of_getElem? (i := 316) (by decide +kernel))
theorem kX6_205 : cokS RX6 mX6_isCoordinate 205 1 := ⟨⟨w_334, w_229, w_335, by decide +kernel, by decide +kernel, by decide +kernel⟩, w_336⟩
theorem w_337 : Cond.methodLink RX6 213 yX0_isUntouched ∈ lw_tbl := List.mem_append_right _ (List.mem_of_getElem? (i := 325) (by decide +kernel))
theorem w_338 : Cond.code yX0_isUntouched cX0_isUntouched 1 (some .boolean) ∈ lw_tbl := List.mem_append_right _ (List.mem_of_getElem? (i := 328) (by decide +kernel))
theorem w_339 : Cond.instanceMethod yX0_isUntouched ∈ lw_tbl := List.mem_append_right _ (List.mem_of_getElem? (i := 326) (by decide +kernel))
theorem w_340 : Cond.selects "AreaCrossings$Area" yX0_isUntouched yX0_isUntouched ∈ lw_tbl := List.mem_append_right _ (List.mem_of_getElem? (i := 327) (by decide +kernel))
theorem kX6_213 : cokV RX6 mX0_isUntouched 213 0 0 := ⟨⟨w_337, w_31, w_338, by decide +kernel, by decide +kernel, by decide +kernel⟩, w_339, w_340, by decide +kernel, by decide⟩
theorem w_341 : Cond.methodLink RX6 216 yX5_hasPiece ∈ lw_tbl := List.mem_append_right _ (List.mem_of_getElem? (i := 384) (by decide +kernel))
theorem kX6_216 : cokV RX6 mX5_hasPiece 216 1 5 := ⟨⟨w_341, w_161, w_211, by decide +kernel, by decide +kernel, by decide +kernel⟩, w_212, w_213, by decide +kernel, by decide⟩
theorem w_342 : Cond.methodLink RX6 219 yX5_isGap ∈ lw_tbl := List.mem_append_right _ (List.mem_of_getElem? (i := 388) (by decide +kernel))
theorem kX6_219 : cokV RX6 mX5_isGap 219 1 5 := ⟨⟨w_342, w_161, w_223, by decide +kernel, by decide +kernel, by decide +kernel⟩, w_224, w_225, by decide +kernel, by decide⟩
theorem w_343 : Cond.methodLink RX6 222 yX5_dayOf ∈ lw_tbl := List.mem_append_right _ (List.mem_of_getElem? (i := 398) (by decide +kernel))
theorem w_344 : Cond.code yX5_dayOf cX5_dayOf 2 (some .long) ∈ lw_tbl := List.mem_append_right _ (List.mem_of_getElem? (i := 401) (by decide +kernel))
theorem w_345 : Cond.instanceMethod yX5_dayOf ∈ lw_tbl := List.mem_append_right _ (List.mem_of_getElem? (i := 399) (by decide +kernel))
theorem w_346 : Cond.selects "AreaCrossings$Track" yX5_dayOf yX5_dayOf ∈ lw_tbl := List.mem_append_right _ (List.mem_of_getElem? (i := 400) (by decide +kernel))
theorem kX6_222 : cokV RX6 mX5_dayOf 222 1 5 := ⟨⟨w_343, w_161, w_344, by decide +kernel, by decide +kernel, by decide +kernel⟩, w_345, w_346, by decide +kernel, by decide⟩
theorem w_347 : Cond.methodLink RX6 225 yX3_bar ∈ lw_tbl := List.mem_append_right _ (List.mem_of_getElem? (i := 404) (by decide +kernel))
theorem w_348 : Cond.code yX3_bar cX3_bar 6 (some .boolean) ∈ lw_tbl := List.mem_append_right _ (List.mem_of_getElem? (i := 407) (by decide +kernel))
theorem w_349 : Cond.instanceMethod yX3_bar ∈ lw_tbl := List.mem_append_right _ (List.mem_of_getElem? (i := 405) (by decide +kernel))
theorem w_350 : Cond.selects "AreaCrossings$Rules" yX3_bar yX3_bar ∈ lw_tbl := List.mem_append_right _ (List.mem_of_getElem? (i := 406) (by decide +kernel))
theorem kX6_225 : cokV RX6 mX3_bar 225 3 3 := ⟨⟨w_347, w_139, w_348, by decide +kernel, by decide +kernel, by decide +kernel⟩, w_349, w_350, by decide +kernel, by decide⟩
theorem w_351 : Cond.methodLink RX6 229 yX0_fastFrom ∈ lw_tbl := List.mem_append_right _ (List.mem_of_getElem? (i := 412) (by decide +kernel))
theorem w_352 : Cond.code yX0_fastFrom cX0_fastFrom 1 (some .long) ∈ lw_tbl := List.mem_append_right _ (List.mem_of_getElem? (i := 415) (by decide +kernel))
theorem w_353 : Cond.instanceMethod yX0_fastFrom ∈ lw_tbl := List.mem_append_right _ (List.mem_of_getElem? (i := 413) (by decide +kernel))
theorem w_354 : Cond.selects "AreaCrossings$Area" yX0_fastFrom yX0_fastFrom ∈ lw_tbl := List.mem_append_right _ (List.mem_of_getElem? (i := 414) (by decide +kernel))
theorem kX6_229 : cokV RX6 mX0_fastFrom 229 0 0 := ⟨⟨w_351, w_31, w_352, by decide +kernel, by decide +kernel, by decide +kernel⟩, w_353, w_354, by decide +kernel, by decide⟩
theorem w_355 : Cond.methodLink RX6 233 yX5_isFast ∈ lw_tbl := List.mem_append_right _ (List.mem_of_getElem? (i := 416) (by decide +kernel))
theorem w_356 : Cond.code yX5_isFast cX5_isFast 12 (some .boolean) ∈ lw_tbl := List.mem_append_right _ (List.mem_of_getElem? (i := 419) (by decide +kernel))
theorem w_357 : Cond.instanceMethod yX5_isFast ∈ lw_tbl := List.mem_append_right _ (List.mem_of_getElem? (i := 417) (by decide +kernel))
theorem w_358 : Cond.selects "AreaCrossings$Track" yX5_isFast yX5_isFast ∈ lw_tbl := List.mem_append_right _ (List.mem_of_getElem? (i := 418) (by decide +kernel))
theorem kX6_233 : cokV RX6 mX5_isFast 233 2 5 := ⟨⟨w_355, w_161, w_356, by decide +kernel, by decide +kernel, by decide +kernel⟩, w_357, w_358, by decide +kernel, by decide⟩
theorem w_359 : Cond.methodLink RX6 236 yX4_find ∈ lw_tbl := List.mem_append_right _ (List.mem_of_getElem? (i := 433) (by decide +kernel))
theorem w_360 : Cond.code yX4_find cX4_find 7 none ∈ lw_tbl := List.mem_append_right _ (List.mem_of_getElem? (i := 436) (by decide +kernel))
theorem w_361 : Cond.instanceMethod yX4_find ∈ lw_tbl := List.mem_append_right _ (List.mem_of_getElem? (i := 434) (by decide +kernel))
theorem w_362 : Cond.selects "AreaCrossings$Stretches" yX4_find yX4_find ∈ lw_tbl := List.mem_append_right _ (List.mem_of_getElem? (i := 435) (by decide +kernel))
theorem kX6_236 : cokV RX6 mX4_find 236 3 4 := ⟨⟨w_359, w_144, w_360, by decide +kernel, by decide +kernel, by decide +kernel⟩, w_361, w_362, by decide +kernel, by decide⟩
theorem w_363 : Cond.methodLink RX6 240 yX4_size ∈ lw_tbl := List.mem_append_right _ (List.mem_of_getElem? (i := 481) (by decide +kernel))
theorem w_364 : Cond.code yX4_size cX4_size 1 (some .int) ∈ lw_tbl := List.mem_append_right _ (List.mem_of_getElem? (i := 484) (by decide +kernel))
theorem w_365 : Cond.instanceMethod yX4_size ∈ lw_tbl := List.mem_append_right _ (List.mem_of_getElem? (i := 482) (by decide +kernel))
theorem w_366 : Cond.selects "AreaCrossings$Stretches" yX4_size yX4_size ∈ lw_tbl := List.mem_append_right _ (List.mem_of_getElem? (i := 483) (by decide +kernel))
theorem kX6_240 : cokV RX6 mX4_size 240 0 4 := ⟨⟨w_363, w_144, w_364, by decide +kernel, by decide +kernel, by decide +kernel⟩, w_365, w_366, by decide +kernel, by decide⟩
theorem w_367 : Cond.methodLink RX6 241 yX4_beginOf ∈ lw_tbl := List.mem_append_right _ (List.mem_of_getElem? (i := 485) (by decide +kernel))
theorem kX6_241 : cokV RX6 mX4_beginOf 241 1 4 := ⟨⟨w_367, w_144, w_194, by decide +kernel, by decide +kernel, by decide +kernel⟩, w_195, w_196, by decide +kernel, by decide⟩
theorem w_368 : Cond.methodLink RX6 244 yX4_endOf ∈ lw_tbl := List.mem_append_right _ (List.mem_of_getElem? (i := 489) (by decide +kernel))
theorem kX6_244 : cokV RX6 mX4_endOf 244 1 4 := ⟨⟨w_368, w_144, w_198, by decide +kernel, by decide +kernel, by decide +kernel⟩, w_199, w_200, by decide +kernel, by decide⟩
theorem w_369 : Cond.methodLink RX6 247 yX4_isPieceBegin ∈ lw_tbl := List.mem_append_right _ (List.mem_of_getElem? (i := 493) (by decide +kernel))
theorem w_370 : Cond.code yX4_isPieceBegin cX4_isPieceBegin 2 (some .boolean) ∈ lw_tbl := List.mem_append_right _ (List.mem_of_getElem? (i := 496) (by decide +kernel))
theorem w_371 : Cond.instanceMethod yX4_isPieceBegin ∈ lw_tbl := List.mem_append_right _ (List.mem_of_getElem? (i := 494) (by decide +kernel))
theorem w_372 : Cond.selects "AreaCrossings$Stretches" yX4_isPieceBegin yX4_isPieceBegin ∈ lw_tbl := List.mem_append_right _ (List.mem_of_getElem? (i := 495) (by decide +kernel))
theorem kX6_247 : cokV RX6 mX4_isPieceBegin 247 1 4 := ⟨⟨w_369, w_144, w_370, by decide +kernel, by decide +kernel, by decide +kernel⟩, w_371, w_372, by decide +kernel, by decide⟩
theorem w_373 : Cond.methodLink RX6 250 yX4_overOf ∈ lw_tbl := List.mem_append_right _ (List.mem_of_getElem? (i := 497) (by decide +kernel))
theorem kX6_250 : cokV RX6 mX4_overOf 250 1 4 := ⟨⟨w_373, w_144, w_206, by decide +kernel, by decide +kernel, by decide +kernel⟩, w_207, w_208, by decide +kernel, by decide⟩
theorem w_374 : Cond.methodLink RX6 251 yX4_underOf ∈ lw_tbl := List.mem_append_right _ (List.mem_of_getElem? (i := 501) (by decide +kernel))
theorem kX6_251 : cokV RX6 mX4_underOf 251 1 4 := ⟨⟨w_374, w_144, w_202, by decide +kernel, by decide +kernel, by decide +kernel⟩, w_203, w_204, by decide +kernel, by decide⟩
theorem w_375 : Cond.methodLink RX6 252 yX1_add ∈ lw_tbl := List.mem_append_right _ (List.mem_of_getElem? (i := 505) (by decide +kernel))
theorem w_376 : Cond.code yX1_add cX1_add 8 (some .boolean) ∈ lw_tbl := List.mem_append_right _ (List.mem_of_getElem? (i := 508) (by decide +kernel))
theorem w_377 : Cond.instanceMethod yX1_add ∈ lw_tbl := List.mem_append_right _ (List.mem_of_getElem? (i := 506) (by decide +kernel))
theorem w_378 : Cond.selects "AreaCrossings$Crossings" yX1_add yX1_add ∈ lw_tbl := List.mem_append_right _ (List.mem_of_getElem? (i := 507) (by decide +kernel))
theorem kX6_252 : cokV RX6 mX1_add 252 5 1 := ⟨⟨w_375, w_93, w_376, by decide +kernel, by decide +kernel, by decide +kernel⟩, w_377, w_378, by decide +kernel, by decide⟩
theorem w_379 : Cond.methodLink RX6 255 yX4_isPieceEnd ∈ lw_tbl := List.mem_append_right _ (List.mem_of_getElem? (i := 509) (by decide +kernel))
theorem w_380 : Cond.code yX4_isPieceEnd cX4_isPieceEnd 2 (some .boolean) ∈ lw_tbl := List.mem_append_right _ (List.mem_of_getElem? (i := 512) (by decide +kernel))
theorem w_381 : Cond.instanceMethod yX4_isPieceEnd ∈ lw_tbl := List.mem_append_right _ (List.mem_of_getElem? (i := 510) (by decide +kernel))
theorem w_382 : Cond.selects "AreaCrossings$Stretches" yX4_isPieceEnd yX4_isPieceEnd ∈ lw_tbl := List.mem_append_right _ (List.mem_of_getElem? (i := 511) (by decide +kernel))
theorem kX6_255 : cokV RX6 mX4_isPieceEnd 255 1 4 := ⟨⟨w_379, w_144, w_380, by decide +kernel, by decide +kernel, by decide +kernel⟩, w_381, w_382, by decide +kernel, by decide⟩
theorem w_383 : Cond.methodLink RX6 258 yX5_secondsOf ∈ lw_tbl := List.mem_append_right _ (List.mem_of_getElem? (i := 561) (by decide +kernel))
theorem kX6_258 : cokV RX6 mX5_secondsOf 258 1 5 := ⟨⟨w_383, w_161, w_215, by decide +kernel, by decide +kernel, by decide +kernel⟩, w_216, w_217, by decide +kernel, by decide⟩
theorem w_384 : Cond.methodLink RX6 263 yX4_shareOf ∈ lw_tbl := List.mem_append_right _ (List.mem_of_getElem? (i := 563) (by decide +kernel))
theorem w_385 : Cond.code yX4_shareOf cX4_shareOf 10 (some .long) ∈ lw_tbl := List.mem_append_right _ (List.mem_of_getElem? (i := 566) (by decide +kernel))
theorem w_386 : Cond.instanceMethod yX4_shareOf ∈ lw_tbl := List.mem_append_right _ (List.mem_of_getElem? (i := 564) (by decide +kernel))
theorem w_387 : Cond.selects "AreaCrossings$Stretches" yX4_shareOf yX4_shareOf ∈ lw_tbl := List.mem_append_right _ (List.mem_of_getElem? (i := 565) (by decide +kernel))
theorem kX6_263 : cokV RX6 mX4_shareOf 263 2 4 := ⟨⟨w_384, w_144, w_385, by decide +kernel, by decide +kernel, by decide +kernel⟩, w_386, w_387, by decide +kernel, by decide⟩
theorem w_388 : Cond.methodLink RX6 267 yX5_hoursBegunOf ∈ lw_tbl := List.mem_append_right _ (List.mem_of_getElem? (i := 583) (by decide +kernel))
theorem w_389 : Cond.code yX5_hoursBegunOf cX5_hoursBegunOf 2 (some .long) ∈ lw_tbl := List.mem_append_right _ (List.mem_of_getElem? (i := 586) (by decide +kernel))
theorem w_390 : Cond.instanceMethod yX5_hoursBegunOf ∈ lw_tbl := List.mem_append_right _ (List.mem_of_getElem? (i := 584) (by decide +kernel))
theorem w_391 : Cond.selects "AreaCrossings$Track" yX5_hoursBegunOf yX5_hoursBegunOf ∈ lw_tbl := List.mem_append_right _ (List.mem_of_getElem? (i := 585) (by decide +kernel))
theorem kX6_267 : cokV RX6 mX5_hoursBegunOf 267 1 5 := ⟨⟨w_388, w_161, w_389, by decide +kernel, by decide +kernel, by decide +kernel⟩, w_390, w_391, by decide +kernel, by decide⟩
theorem w_392 : Cond.methodLink RX6 270 yJ9_min_f86c9 ∈ lw_tbl := List.mem_append_right _ (List.mem_of_getElem? (i := 590) (by decide +kernel))
theorem w_393 : Cond.code yJ9_min_f86c9 cJ9_min_f86c9 4 (some .long) ∈ lw_tbl := List.mem_append_right _ (List.mem_of_getElem? (i := 592) (by decide +kernel))
theorem w_394 : Cond.static yJ9_min_f86c9 ∈ lw_tbl := List.mem_append_right _ (List.mem_of_getElem? (i := 591) (by decide +kernel))
theorem kX6_270 : cokM RX6 270 Lib.MathLoose.min_long.x Lib.MathLoose.min_long.code 4 (some .long) := ⟨w_392, w_394, w_121, w_393⟩
theorem w_395 : Cond.methodLink RX6 273 yJ9_max_f86c9 ∈ lw_tbl := List.mem_append_right _ (List.mem_of_getElem? (i := 593) (by decide +kernel))
theorem w_396 : Cond.code yJ9_max_f86c9 cJ9_max_f86c9 4 (some .long) ∈ lw_tbl := List.mem_append_right _ (List.mem_of_getElem? (i := 595) (by decide +kernel))
theorem w_397 : Cond.static yJ9_max_f86c9 ∈ lw_tbl := List.mem_append_right _ (List.mem_of_getElem? (i := 594) (by decide +kernel))
theorem kX6_273 : cokM RX6 273 Lib.MathLoose.max_long.x Lib.MathLoose.max_long.code 4 (some .long) := ⟨w_395, w_397, w_121, w_396⟩
theorem w_398 : Cond.methodLink RX6 275 yX2_reachesX ∈ lw_tbl := List.mem_append_right _ (List.mem_of_getElem? (i := 596) (by decide +kernel))
theorem w_399 : Cond.code yX2_reachesX cX2_reachesX 5 (some .boolean) ∈ lw_tbl := List.mem_append_right _ (List.mem_of_getElem? (i := 599) (by decide +kernel))
theorem w_400 : Cond.instanceMethod yX2_reachesX ∈ lw_tbl := List.mem_append_right _ (List.mem_of_getElem? (i := 597) (by decide +kernel))
theorem w_401 : Cond.selects "AreaCrossings$Ring" yX2_reachesX yX2_reachesX ∈ lw_tbl := List.mem_append_right _ (List.mem_of_getElem? (i := 598) (by decide +kernel))
theorem kX6_275 : cokV RX6 mX2_reachesX 275 2 2 := ⟨⟨w_398, w_36, w_399, by decide +kernel, by decide +kernel, by decide +kernel⟩, w_400, w_401, by decide +kernel, by decide⟩
theorem w_402 : Cond.methodLink RX6 278 yX2_reachesY ∈ lw_tbl := List.mem_append_right _ (List.mem_of_getElem? (i := 604) (by decide +kernel))
theorem w_403 : Cond.code yX2_reachesY cX2_reachesY 5 (some .boolean) ∈ lw_tbl := List.mem_append_right _ (List.mem_of_getElem? (i := 607) (by decide +kernel))
theorem w_404 : Cond.instanceMethod yX2_reachesY ∈ lw_tbl := List.mem_append_right _ (List.mem_of_getElem? (i := 605) (by decide +kernel))
theorem w_405 : Cond.selects "AreaCrossings$Ring" yX2_reachesY yX2_reachesY ∈ lw_tbl := List.mem_append_right _ (List.mem_of_getElem? (i := 606) (by decide +kernel))
theorem kX6_278 : cokV RX6 mX2_reachesY 278 2 2 := ⟨⟨w_402, w_36, w_403, by decide +kernel, by decide +kernel, by decide +kernel⟩, w_404, w_405, by decide +kernel, by decide⟩
theorem w_406 : Cond.methodLink RX7 79 yX7_isArea ∈ lw_tbl := List.mem_append_right _ (List.mem_of_getElem? (i := 834) (by decide +kernel))
theorem w_407 : Cond.initialized "AreaCrossingsModel" ∈ lw_tbl := List.mem_append_right _ (List.mem_of_getElem? (i := 9) (by decide +kernel))
theorem w_408 : Cond.code yX7_isArea cX7_isArea 2 (some .boolean) ∈ lw_tbl := List.mem_append_right _ (List.mem_of_getElem? (i := 837) (by decide +kernel))
theorem w_409 : Cond.instanceMethod yX7_isArea ∈ lw_tbl := List.mem_append_right _ (List.mem_of_getElem? (i := 836) (by decide +kernel))
theorem w_410 : Cond.selects "AreaCrossingsModel" yX7_isArea yX7_isArea ∈ lw_tbl := List.mem_append_left _ (List.mem_of_getElem? (i := 23) (by decide +kernel))
theorem kX7_79 : cokV RX7 mX7_isArea 79 1 7 := ⟨⟨w_406, w_407, w_408, by decide +kernel, by decide +kernel, by decide +kernel⟩, w_409, w_410, by decide +kernel, by decide⟩
theorem w_411 : Cond.methodLink RX7 83 yX7_signOf ∈ lw_tbl := List.mem_append_right _ (List.mem_of_getElem? (i := 866) (by decide +kernel))
theorem w_412 : Cond.code yX7_signOf cX7_signOf 2 (some .int) ∈ lw_tbl := List.mem_append_right _ (List.mem_of_getElem? (i := 868) (by decide +kernel))
theorem w_413 : Cond.static yX7_signOf ∈ lw_tbl := List.mem_append_right _ (List.mem_of_getElem? (i := 867) (by decide +kernel))
theorem kX7_83 : cokS RX7 mX7_signOf 83 1 := ⟨⟨w_411, w_407, w_412, by decide +kernel, by decide +kernel, by decide +kernel⟩, w_413⟩
theorem w_414 : Cond.methodLink RX7 87 yX7_less ∈ lw_tbl := List.mem_append_right _ (List.mem_of_getElem? (i := 872) (by decide +kernel))
theorem w_415 : Cond.code yX7_less cX7_less 4 (some .long) ∈ lw_tbl := List.mem_append_right _ (List.mem_of_getElem? (i := 874) (by decide +kernel))
theorem w_416 : Cond.static yX7_less ∈ lw_tbl := List.mem_append_right _ (List.mem_of_getElem? (i := 873) (by decide +kernel))
theorem kX7_87 : cokS RX7 mX7_less 87 2 := ⟨⟨w_414, w_407, w_415, by decide +kernel, by decide +kernel, by decide +kernel⟩, w_416⟩
theorem w_417 : Cond.methodLink RX7 91 yX7_more ∈ lw_tbl := List.mem_append_right _ (List.mem_of_getElem? (i := 875) (by decide +kernel))
theorem w_418 : Cond.code yX7_more cX7_more 4 (some .long) ∈ lw_tbl := List.mem_append_right _ (List.mem_of_getElem? (i := 877) (by decide +kernel))
theorem w_419 : Cond.static yX7_more ∈ lw_tbl := List.mem_append_right _ (List.mem_of_getElem? (i := 876) (by decide +kernel))
theorem kX7_91 : cokS RX7 mX7_more 91 2 := ⟨⟨w_417, w_407, w_418, by decide +kernel, by decide +kernel, by decide +kernel⟩, w_419⟩
theorem w_420 : Cond.methodLink RX7 94 yX7_wayOf ∈ lw_tbl := List.mem_append_right _ (List.mem_of_getElem? (i := 863) (by decide +kernel))
theorem w_421 : Cond.code yX7_wayOf cX7_wayOf 12 (some .int) ∈ lw_tbl := List.mem_append_right _ (List.mem_of_getElem? (i := 865) (by decide +kernel))
theorem w_422 : Cond.static yX7_wayOf ∈ lw_tbl := List.mem_append_right _ (List.mem_of_getElem? (i := 864) (by decide +kernel))
theorem kX7_94 : cokS RX7 mX7_wayOf 94 6 := ⟨⟨w_420, w_407, w_421, by decide +kernel, by decide +kernel, by decide +kernel⟩, w_422⟩
theorem w_423 : Cond.methodLink RX7 98 yX7_isBetween ∈ lw_tbl := List.mem_append_right _ (List.mem_of_getElem? (i := 869) (by decide +kernel))
theorem w_424 : Cond.code yX7_isBetween cX7_isBetween 12 (some .boolean) ∈ lw_tbl := List.mem_append_right _ (List.mem_of_getElem? (i := 871) (by decide +kernel))
theorem w_425 : Cond.static yX7_isBetween ∈ lw_tbl := List.mem_append_right _ (List.mem_of_getElem? (i := 870) (by decide +kernel))
theorem kX7_98 : cokS RX7 mX7_isBetween 98 6 := ⟨⟨w_423, w_407, w_424, by decide +kernel, by decide +kernel, by decide +kernel⟩, w_425⟩
theorem w_426 : Cond.methodLink RX7 102 yX7_at ∈ lw_tbl := List.mem_append_right _ (List.mem_of_getElem? (i := 851) (by decide +kernel))
theorem w_427 : Cond.code yX7_at cX7_at 3 (some .int) ∈ lw_tbl := List.mem_append_right _ (List.mem_of_getElem? (i := 854) (by decide +kernel))
theorem w_428 : Cond.instanceMethod yX7_at ∈ lw_tbl := List.mem_append_right _ (List.mem_of_getElem? (i := 853) (by decide +kernel))
theorem w_429 : Cond.selects "AreaCrossingsModel" yX7_at yX7_at ∈ lw_tbl := List.mem_append_left _ (List.mem_of_getElem? (i := 25) (by decide +kernel))
theorem kX7_102 : cokV RX7 mX7_at 102 2 7 := ⟨⟨w_426, w_407, w_427, by decide +kernel, by decide +kernel, by decide +kernel⟩, w_428, w_429, by decide +kernel, by decide⟩
theorem w_430 : Cond.methodLink RX7 106 yX7_doFold ∈ lw_tbl := List.mem_append_right _ (List.mem_of_getElem? (i := 855) (by decide +kernel))
theorem w_431 : Cond.code yX7_doFold cX7_doFold 12 (some .boolean) ∈ lw_tbl := List.mem_append_right _ (List.mem_of_getElem? (i := 858) (by decide +kernel))
theorem w_432 : Cond.instanceMethod yX7_doFold ∈ lw_tbl := List.mem_append_right _ (List.mem_of_getElem? (i := 857) (by decide +kernel))
theorem w_433 : Cond.selects "AreaCrossingsModel" yX7_doFold yX7_doFold ∈ lw_tbl := List.mem_append_left _ (List.mem_of_getElem? (i := 26) (by decide +kernel))
theorem kX7_106 : cokV RX7 mX7_doFold 106 3 7 := ⟨⟨w_430, w_407, w_431, by decide +kernel, by decide +kernel, by decide +kernel⟩, w_432, w_433, by decide +kernel, by decide⟩
theorem w_434 : Cond.methodLink RX7 110 yX7_doMeet ∈ lw_tbl := List.mem_append_right _ (List.mem_of_getElem? (i := 859) (by decide +kernel))
theorem w_435 : Cond.code yX7_doMeet cX7_doMeet 10 (some .boolean) ∈ lw_tbl := List.mem_append_right _ (List.mem_of_getElem? (i := 862) (by decide +kernel))
theorem w_436 : Cond.instanceMethod yX7_doMeet ∈ lw_tbl := List.mem_append_right _ (List.mem_of_getElem? (i := 861) (by decide +kernel))
theorem w_437 : Cond.selects "AreaCrossingsModel" yX7_doMeet yX7_doMeet ∈ lw_tbl := List.mem_append_left _ (List.mem_of_getElem? (i := 27) (by decide +kernel))
theorem kX7_110 : cokV RX7 mX7_doMeet 110 4 7 := ⟨⟨w_434, w_407, w_435, by decide +kernel, by decide +kernel, by decide +kernel⟩, w_436, w_437, by decide +kernel, by decide⟩
theorem w_438 : Cond.methodLink RX7 114 yX7_where ∈ lw_tbl := List.mem_append_right _ (List.mem_of_getElem? (i := 886) (by decide +kernel))
theorem w_439 : Cond.code yX7_where cX7_where 23 (some .int) ∈ lw_tbl := List.mem_append_right _ (List.mem_of_getElem? (i := 889) (by decide +kernel))
theorem w_440 : Cond.instanceMethod yX7_where ∈ lw_tbl := List.mem_append_right _ (List.mem_of_getElem? (i := 888) (by decide +kernel))
theorem w_441 : Cond.selects "AreaCrossingsModel" yX7_where yX7_where ∈ lw_tbl := List.mem_append_left _ (List.mem_of_getElem? (i := 30) (by decide +kernel))
theorem kX7_114 : cokV RX7 mX7_where 114 4 7 := ⟨⟨w_438, w_407, w_439, by decide +kernel, by decide +kernel, by decide +kernel⟩, w_440, w_441, by decide +kernel, by decide⟩
theorem w_442 : Cond.methodLink RX7 122 yX7_isIn ∈ lw_tbl := List.mem_append_right _ (List.mem_of_getElem? (i := 840) (by decide +kernel))
theorem w_443 : Cond.code yX7_isIn cX7_isIn 6 (some .boolean) ∈ lw_tbl := List.mem_append_right _ (List.mem_of_getElem? (i := 842) (by decide +kernel))
theorem w_444 : Cond.static yX7_isIn ∈ lw_tbl := List.mem_append_right _ (List.mem_of_getElem? (i := 841) (by decide +kernel))
theorem kX7_122 : cokS RX7 mX7_isIn 122 3 := ⟨⟨w_442, w_407, w_443, by decide +kernel, by decide +kernel, by decide +kernel⟩, w_444⟩
theorem w_445 : Cond.methodLink RX7 126 yX7_isSimple ∈ lw_tbl := List.mem_append_right _ (List.mem_of_getElem? (i := 847) (by decide +kernel))
theorem w_446 : Cond.code yX7_isSimple cX7_isSimple 7 (some .boolean) ∈ lw_tbl := List.mem_append_right _ (List.mem_of_getElem? (i := 850) (by decide +kernel))
theorem w_447 : Cond.instanceMethod yX7_isSimple ∈ lw_tbl := List.mem_append_right _ (List.mem_of_getElem? (i := 849) (by decide +kernel))
theorem w_448 : Cond.selects "AreaCrossingsModel" yX7_isSimple yX7_isSimple ∈ lw_tbl := List.mem_append_left _ (List.mem_of_getElem? (i := 24) (by decide +kernel))
theorem kX7_126 : cokV RX7 mX7_isSimple 126 1 7 := ⟨⟨w_445, w_407, w_446, by decide +kernel, by decide +kernel, by decide +kernel⟩, w_447, w_448, by decide +kernel, by decide⟩
theorem w_449 : Cond.methodLink RX7 129 yX7_ringsMeet ∈ lw_tbl := List.mem_append_right _ (List.mem_of_getElem? (i := 878) (by decide +kernel))
theorem w_450 : Cond.code yX7_ringsMeet cX7_ringsMeet 5 (some .boolean) ∈ lw_tbl := List.mem_append_right _ (List.mem_of_getElem? (i := 881) (by decide +kernel))
theorem w_451 : Cond.instanceMethod yX7_ringsMeet ∈ lw_tbl := List.mem_append_right _ (List.mem_of_getElem? (i := 880) (by decide +kernel))
theorem w_452 : Cond.selects "AreaCrossingsModel" yX7_ringsMeet yX7_ringsMeet ∈ lw_tbl := List.mem_append_left _ (List.mem_of_getElem? (i := 28) (by decide +kernel))
theorem kX7_129 : cokV RX7 mX7_ringsMeet 129 2 7 := ⟨⟨w_449, w_407, w_450, by decide +kernel, by decide +kernel, by decide +kernel⟩, w_451, w_452, by decide +kernel, by decide⟩
theorem w_453 : Cond.methodLink RX7 133 yX7_has ∈ lw_tbl := List.mem_append_right _ (List.mem_of_getElem? (i := 882) (by decide +kernel))
theorem w_454 : Cond.code yX7_has cX7_has 10 (some .boolean) ∈ lw_tbl := List.mem_append_right _ (List.mem_of_getElem? (i := 885) (by decide +kernel))
theorem w_455 : Cond.instanceMethod yX7_has ∈ lw_tbl := List.mem_append_right _ (List.mem_of_getElem? (i := 884) (by decide +kernel))
theorem w_456 : Cond.selects "AreaCrossingsModel" yX7_has yX7_has ∈ lw_tbl := List.mem_append_left _ (List.mem_of_getElem? (i := 29) (by decide +kernel))
theorem kX7_133 : cokV RX7 mX7_has 133 4 7 := ⟨⟨w_453, w_407, w_454, by decide +kernel, by decide +kernel, by decide +kernel⟩, w_455, w_456, by decide +kernel, by decide⟩
theorem w_457 : Cond.methodLink RX7 137 yX7_isThere ∈ lw_tbl := List.mem_append_right _ (List.mem_of_getElem? (i := 894) (by decide +kernel))
theorem w_458 : Cond.code yX7_isThere cX7_isThere 2 (some .boolean) ∈ lw_tbl := List.mem_append_right _ (List.mem_of_getElem? (i := 897) (by decide +kernel))
theorem w_459 : Cond.instanceMethod yX7_isThere ∈ lw_tbl := List.mem_append_right _ (List.mem_of_getElem? (i := 896) (by decide +kernel))
theorem w_460 : Cond.selects "AreaCrossingsModel" yX7_isThere yX7_isThere ∈ lw_tbl := List.mem_append_left _ (List.mem_of_getElem? (i := 31) (by decide +kernel))
theorem kX7_137 : cokV RX7 mX7_isThere 137 1 7 := ⟨⟨w_457, w_407, w_458, by decide +kernel, by decide +kernel, by decide +kernel⟩, w_459, w_460, by decide +kernel, by decide⟩
theorem w_461 : Cond.methodLink RX7 147 yX7_rule ∈ lw_tbl := List.mem_append_right _ (List.mem_of_getElem? (i := 904) (by decide +kernel))
theorem w_462 : Cond.code yX7_rule cX7_rule 5 none ∈ lw_tbl := List.mem_append_right _ (List.mem_of_getElem? (i := 907) (by decide +kernel))
theorem w_463 : Cond.instanceMethod yX7_rule ∈ lw_tbl := List.mem_append_right _ (List.mem_of_getElem? (i := 906) (by decide +kernel))
theorem w_464 : Cond.selects "AreaCrossingsModel" yX7_rule yX7_rule ∈ lw_tbl := List.mem_append_left _ (List.mem_of_getElem? (i := 32) (by decide +kernel))
theorem kX7_147 : cokV RX7 mX7_rule 147 4 7 := ⟨⟨w_461, w_407, w_462, by decide +kernel, by decide +kernel, by decide +kernel⟩, w_463, w_464, by decide +kernel, by decide⟩
theorem w_465 : Cond.methodLink RX7 157 yX7_isBarred ∈ lw_tbl := List.mem_append_right _ (List.mem_of_getElem? (i := 923) (by decide +kernel))
theorem w_466 : Cond.code yX7_isBarred cX7_isBarred 7 (some .boolean) ∈ lw_tbl := List.mem_append_right _ (List.mem_of_getElem? (i := 926) (by decide +kernel))
theorem w_467 : Cond.instanceMethod yX7_isBarred ∈ lw_tbl := List.mem_append_right _ (List.mem_of_getElem? (i := 925) (by decide +kernel))
theorem w_468 : Cond.selects "AreaCrossingsModel" yX7_isBarred yX7_isBarred ∈ lw_tbl := List.mem_append_left _ (List.mem_of_getElem? (i := 33) (by decide +kernel))
theorem kX7_157 : cokV RX7 mX7_isBarred 157 3 7 := ⟨⟨w_465, w_407, w_466, by decide +kernel, by decide +kernel, by decide +kernel⟩, w_467, w_468, by decide +kernel, by decide⟩
theorem w_469 : Cond.methodLink RX7 164 yX7_isTrack ∈ lw_tbl := List.mem_append_right _ (List.mem_of_getElem? (i := 935) (by decide +kernel))
theorem w_470 : Cond.code yX7_isTrack cX7_isTrack 2 (some .boolean) ∈ lw_tbl := List.mem_append_right _ (List.mem_of_getElem? (i := 938) (by decide +kernel))
theorem w_471 : Cond.instanceMethod yX7_isTrack ∈ lw_tbl := List.mem_append_right _ (List.mem_of_getElem? (i := 937) (by decide +kernel))
theorem w_472 : Cond.selects "AreaCrossingsModel" yX7_isTrack yX7_isTrack ∈ lw_tbl := List.mem_append_left _ (List.mem_of_getElem? (i := 34) (by decide +kernel))
theorem kX7_164 : cokV RX7 mX7_isTrack 164 1 7 := ⟨⟨w_469, w_407, w_470, by decide +kernel, by decide +kernel, by decide +kernel⟩, w_471, w_472, by decide +kernel, by decide⟩
theorem w_473 : Cond.methodLink RX7 169 yX7_lasts ∈ lw_tbl := List.mem_append_right _ (List.mem_of_getElem? (i := 952) (by decide +kernel))
theorem w_474 : Cond.code yX7_lasts cX7_lasts 2 (some .long) ∈ lw_tbl := List.mem_append_right _ (List.mem_of_getElem? (i := 955) (by decide +kernel))
theorem w_475 : Cond.instanceMethod yX7_lasts ∈ lw_tbl := List.mem_append_right _ (List.mem_of_getElem? (i := 954) (by decide +kernel))
theorem w_476 : Cond.selects "AreaCrossingsModel" yX7_lasts yX7_lasts ∈ lw_tbl := List.mem_append_left _ (List.mem_of_getElem? (i := 37) (by decide +kernel))
theorem kX7_169 : cokV RX7 mX7_lasts 169 1 7 := ⟨⟨w_473, w_407, w_474, by decide +kernel, by decide +kernel, by decide +kernel⟩, w_475, w_476, by decide +kernel, by decide⟩
theorem w_477 : Cond.methodLink RX7 175 yX7_isGap ∈ lw_tbl := List.mem_append_right _ (List.mem_of_getElem? (i := 948) (by decide +kernel))
theorem w_478 : Cond.code yX7_isGap cX7_isGap 2 (some .boolean) ∈ lw_tbl := List.mem_append_right _ (List.mem_of_getElem? (i := 951) (by decide +kernel))
theorem w_479 : Cond.instanceMethod yX7_isGap ∈ lw_tbl := List.mem_append_right _ (List.mem_of_getElem? (i := 950) (by decide +kernel))
theorem w_480 : Cond.selects "AreaCrossingsModel" yX7_isGap yX7_isGap ∈ lw_tbl := List.mem_append_left _ (List.mem_of_getElem? (i := 36) (by decide +kernel))
theorem kX7_175 : cokV RX7 mX7_isGap 175 1 7 := ⟨⟨w_477, w_407, w_478, by decide +kernel, by decide +kernel, by decide +kernel⟩, w_479, w_480, by decide +kernel, by decide⟩
theorem w_481 : Cond.methodLink RX7 180 yX7_divisor ∈ lw_tbl := List.mem_append_right _ (List.mem_of_getElem? (i := 970) (by decide +kernel))
theorem w_482 : Cond.code yX7_divisor cX7_divisor 10 (some .long) ∈ lw_tbl := List.mem_append_right _ (List.mem_of_getElem? (i := 972) (by decide +kernel))
theorem w_483 : Cond.static yX7_divisor ∈ lw_tbl := List.mem_append_right _ (List.mem_of_getElem? (i := 971) (by decide +kernel))
theorem kX7_180 : cokS RX7 mX7_divisor 180 2 := ⟨⟨w_481, w_407, w_482, by decide +kernel, by decide +kernel, by decide +kernel⟩, w_483⟩
theorem w_484 : Cond.methodLink RX7 186 yX7_cut ∈ lw_tbl := List.mem_append_right _ (List.mem_of_getElem? (i := 966) (by decide +kernel))
theorem w_485 : Cond.code yX7_cut cX7_cut 13 none ∈ lw_tbl := List.mem_append_right _ (List.mem_of_getElem? (i := 969) (by decide +kernel))
theorem w_486 : Cond.instanceMethod yX7_cut ∈ lw_tbl := List.mem_append_right _ (List.mem_of_getElem? (i := 968) (by decide +kernel))
theorem w_487 : Cond.selects "AreaCrossingsModel" yX7_cut yX7_cut ∈ lw_tbl := List.mem_append_left _ (List.mem_of_getElem? (i := 40) (by decide +kernel))
theorem kX7_186 : cokV RX7 mX7_cut 186 2 7 := ⟨⟨w_484, w_407, w_485, by decide +kernel, by decide +kernel, by decide +kernel⟩, w_486, w_487, by decide +kernel, by decide⟩
theorem w_488 : Cond.methodLink RX7 190 yX7_cutAt ∈ lw_tbl := List.mem_append_right _ (List.mem_of_getElem? (i := 973) (by decide +kernel))
theorem w_489 : Cond.code yX7_cutAt cX7_cutAt 21 none ∈ lw_tbl := List.mem_append_right _ (List.mem_of_getElem? (i := 976) (by decide +kernel))
theorem w_490 : Cond.instanceMethod yX7_cutAt ∈ lw_tbl := List.mem_append_right _ (List.mem_of_getElem? (i := 975) (by decide +kernel))
theorem w_491 : Cond.selects "AreaCrossingsModel" yX7_cutAt yX7_cutAt ∈ lw_tbl := List.mem_append_left _ (List.mem_of_getElem? (i := 41) (by decide +kernel))
theorem kX7_190 : cokV RX7 mX7_cutAt 190 3 7 := ⟨⟨w_488, w_407, w_489, by decide +kernel, by decide +kernel, by decide +kernel⟩, w_490, w_491, by decide +kernel, by decide⟩
theorem w_492 : Cond.methodLink RX7 197 yX7_hasAt ∈ lw_tbl := List.mem_append_right _ (List.mem_of_getElem? (i := 977) (by decide +kernel))
theorem w_493 : Cond.code yX7_hasAt cX7_hasAt 7 (some .boolean) ∈ lw_tbl := List.mem_append_right _ (List.mem_of_getElem? (i := 980) (by decide +kernel))
theorem w_494 : Cond.instanceMethod yX7_hasAt ∈ lw_tbl := List.mem_append_right _ (List.mem_of_getElem? (i := 979) (by decide +kernel))
theorem w_495 : Cond.selects "AreaCrossingsModel" yX7_hasAt yX7_hasAt ∈ lw_tbl := List.mem_append_left _ (List.mem_of_getElem? (i := 42) (by decide +kernel))
theorem kX7_197 : cokV RX7 mX7_hasAt 197 4 7 := ⟨⟨w_492, w_407, w_493, by decide +kernel, by decide +kernel, by decide +kernel⟩, w_494, w_495, by decide +kernel, by decide⟩
theorem w_496 : Cond.methodLink RX7 206 yX7_counts ∈ lw_tbl := List.mem_append_right _ (List.mem_of_getElem? (i := 944) (by decide +kernel))
theorem w_497 : Cond.code yX7_counts cX7_counts 12 (some .boolean) ∈ lw_tbl := List.mem_append_right _ (List.mem_of_getElem? (i := 947) (by decide +kernel))
theorem w_498 : Cond.instanceMethod yX7_counts ∈ lw_tbl := List.mem_append_right _ (List.mem_of_getElem? (i := 946) (by decide +kernel))
theorem w_499 : Cond.selects "AreaCrossingsModel" yX7_counts yX7_counts ∈ lw_tbl := List.mem_append_left _ (List.mem_of_getElem? (i := 35) (by decide +kernel))
theorem kX7_206 : cokV RX7 mX7_counts 206 3 7 := ⟨⟨w_496, w_407, w_497, by decide +kernel, by decide +kernel, by decide +kernel⟩, w_498, w_499, by decide +kernel, by decide⟩
theorem w_500 : Cond.methodLink RX7 209 yX7_stretch ∈ lw_tbl := List.mem_append_right _ (List.mem_of_getElem? (i := 962) (by decide +kernel))
theorem w_501 : Cond.code yX7_stretch cX7_stretch 6 none ∈ lw_tbl := List.mem_append_right _ (List.mem_of_getElem? (i := 965) (by decide +kernel))
theorem w_502 : Cond.instanceMethod yX7_stretch ∈ lw_tbl := List.mem_append_right _ (List.mem_of_getElem? (i := 964) (by decide +kernel))
theorem w_503 : Cond.selects "AreaCrossingsModel" yX7_stretch yX7_stretch ∈ lw_tbl := List.mem_append_left _ (List.mem_of_getElem? (i := 39) (by decide +kernel))
theorem kX7_209 : cokV RX7 mX7_stretch 209 2 7 := ⟨⟨w_500, w_407, w_501, by decide +kernel, by decide +kernel, by decide +kernel⟩, w_502, w_503, by decide +kernel, by decide⟩
theorem w_504 : Cond.methodLink RX7 213 yX7_add ∈ lw_tbl := List.mem_append_right _ (List.mem_of_getElem? (i := 982) (by decide +kernel))
theorem w_505 : Cond.code yX7_add cX7_add 5 none ∈ lw_tbl := List.mem_append_right _ (List.mem_of_getElem? (i := 985) (by decide +kernel))
theorem w_506 : Cond.instanceMethod yX7_add ∈ lw_tbl := List.mem_append_right _ (List.mem_of_getElem? (i := 984) (by decide +kernel))
theorem w_507 : Cond.selects "AreaCrossingsModel" yX7_add yX7_add ∈ lw_tbl := List.mem_append_left _ (List.mem_of_getElem? (i := 43) (by decide +kernel))
theorem kX7_213 : cokV RX7 mX7_add 213 4 7 := ⟨⟨w_504, w_407, w_505, by decide +kernel, by decide +kernel, by decide +kernel⟩, w_506, w_507, by decide +kernel, by decide⟩
theorem w_508 : Cond.methodLink RX7 216 yX7_runPiece ∈ lw_tbl := List.mem_append_right _ (List.mem_of_getElem? (i := 958) (by decide +kernel))
theorem w_509 : Cond.code yX7_runPiece cX7_runPiece 8 none ∈ lw_tbl := List.mem_append_right _ (List.mem_of_getElem? (i := 961) (by decide +kernel))
theorem w_510 : Cond.instanceMethod yX7_runPiece ∈ lw_tbl := List.mem_append_right _ (List.mem_of_getElem? (i := 960) (by decide +kernel))
theorem w_511 : Cond.selects "AreaCrossingsModel" yX7_runPiece yX7_runPiece ∈ lw_tbl := List.mem_append_left _ (List.mem_of_getElem? (i := 38) (by decide +kernel))
theorem kX7_216 : cokV RX7 mX7_runPiece 216 4 7 := ⟨⟨w_508, w_407, w_509, by decide +kernel, by decide +kernel, by decide +kernel⟩, w_510, w_511, by decide +kernel, by decide⟩
theorem w_512 : Cond.methodLink RX7 230 yX7_within ∈ lw_tbl := List.mem_append_right _ (List.mem_of_getElem? (i := 1001) (by decide +kernel))
theorem w_513 : Cond.code yX7_within cX7_within 8 (some .long) ∈ lw_tbl := List.mem_append_right _ (List.mem_of_getElem? (i := 1004) (by decide +kernel))
theorem w_514 : Cond.instanceMethod yX7_within ∈ lw_tbl := List.mem_append_right _ (List.mem_of_getElem? (i := 1003) (by decide +kernel))
theorem w_515 : Cond.selects "AreaCrossingsModel" yX7_within yX7_within ∈ lw_tbl := List.mem_append_left _ (List.mem_of_getElem? (i := 44) (by decide +kernel))
theorem kX7_230 : cokV RX7 mX7_within 230 2 7 := ⟨⟨w_512, w_407, w_513, by decide +kernel, by decide +kernel, by decide +kernel⟩, w_514, w_515, by decide +kernel, by decide⟩
theorem w_516 : Cond.methodLink RX7 236 yX7_isNear ∈ lw_tbl := List.mem_append_right _ (List.mem_of_getElem? (i := 1019) (by decide +kernel))
theorem w_517 : Cond.code yX7_isNear cX7_isNear 23 (some .boolean) ∈ lw_tbl := List.mem_append_right _ (List.mem_of_getElem? (i := 1022) (by decide +kernel))
theorem w_518 : Cond.instanceMethod yX7_isNear ∈ lw_tbl := List.mem_append_right _ (List.mem_of_getElem? (i := 1021) (by decide +kernel))
theorem w_519 : Cond.selects "AreaCrossingsModel" yX7_isNear yX7_isNear ∈ lw_tbl := List.mem_append_left _ (List.mem_of_getElem? (i := 46) (by decide +kernel))
theorem kX7_236 : cokV RX7 mX7_isNear 236 5 7 := ⟨⟨w_516, w_407, w_517, by decide +kernel, by decide +kernel, by decide +kernel⟩, w_518, w_519, by decide +kernel, by decide⟩
theorem w_520 : Cond.methodLink RX7 240 yX7_isByArea ∈ lw_tbl := List.mem_append_right _ (List.mem_of_getElem? (i := 1015) (by decide +kernel))
theorem w_521 : Cond.code yX7_isByArea cX7_isByArea 12 (some .boolean) ∈ lw_tbl := List.mem_append_right _ (List.mem_of_getElem? (i := 1018) (by decide +kernel))
theorem w_522 : Cond.instanceMethod yX7_isByArea ∈ lw_tbl := List.mem_append_right _ (List.mem_of_getElem? (i := 1017) (by decide +kernel))
theorem w_523 : Cond.selects "AreaCrossingsModel" yX7_isByArea yX7_isByArea ∈ lw_tbl := List.mem_append_left _ (List.mem_of_getElem? (i := 45) (by decide +kernel))
theorem kX7_240 : cokV RX7 mX7_isByArea 240 4 7 := ⟨⟨w_520, w_407, w_521, by decide +kernel, by decide +kernel, by decide +kernel⟩, w_522, w_523, by decide +kernel, by decide⟩
