set_option maxRecDepth 20000 in
theorem tb_all {ws : List Cond} (is : List Nat) (h : ws = is.filterMap (fun i => tables_1[i]?)) (hg : ws.all goodWord = true) : ∀ x ∈ ws, x ∈ Tb := by
  intro x hx
  have h1 := List.all_eq_true.mp hg x hx
  rw [h] at hx
  obtain ⟨i, -, hi⟩ := List.mem_filterMap.mp hx
  exact tb_at i hi h1
set_option maxRecDepth 20000 in
theorem twX0 : ∀ x ∈ u_ws RX0 TX0 1, x ∈ Tb := tb_all [28] (by decide +kernel) (by decide +kernel)
set_option maxRecDepth 20000 in
theorem twX1 : ∀ x ∈ u_ws RX1 TX1 4, x ∈ Tb := tb_all [198, 200, 202, 204] (by decide +kernel) (by decide +kernel)
set_option maxRecDepth 20000 in
theorem twX2 : ∀ x ∈ u_ws RX2 TX2 13, x ∈ Tb := tb_all [51, 53, 55, 57, 59, 61, 63, 65, 67, 69, 71, 73, 75] (by decide +kernel) (by decide +kernel)
set_option maxRecDepth 20000 in
theorem twX3 : ∀ x ∈ u_ws RX3 TX3 16, x ∈ Tb := tb_all [120, 122, 124, 126, 128, 130, 132, 134, 136, 138, 140, 142, 144, 146, 148, 150] (by decide +kernel) (by decide +kernel)
set_option maxRecDepth 20000 in
theorem twX4 : ∀ x ∈ u_ws RX4 TX4 4, x ∈ Tb := tb_all [89, 91, 93, 95] (by decide +kernel) (by decide +kernel)
set_option maxRecDepth 20000 in
theorem twX5 : ∀ x ∈ u_ws RX5 TX5 9, x ∈ Tb := tb_all [168, 170, 172, 174, 176, 178, 180, 182, 184] (by decide +kernel) (by decide +kernel)
set_option maxRecDepth 20000 in
theorem twX6 : ∀ x ∈ u_ws RX6 TX6 7, x ∈ Tb := tb_all [214, 216, 218, 220, 222, 224, 226] (by decide +kernel) (by decide +kernel)
set_option maxRecDepth 20000 in
theorem twX7 : ∀ x ∈ u_ws RX7 TX7 34, x ∈ Tb := tb_all [823, 825, 827, 829, 831, 833, 835, 837, 839, 841, 843, 845, 847, 849, 851, 853, 855, 857, 859, 861, 863, 865, 867, 869, 871, 873, 875, 877, 879, 881, 883, 885, 887, 889] (by decide +kernel) (by decide +kernel)
abbrev M_X0_paint : Mi_ := (RX0, yX0_paint, cX0_paint, 7, (some .int))
abbrev M_X0_colourAt : Mi_ := (RX0, yX0_colourAt, cX0_colourAt, 4, (some .int))
abbrev M_X0_isInner : Mi_ := (RX0, yX0_isInner, cX0_isInner, 4, (some .boolean))
abbrev M_X0_countCells : Mi_ := (RX0, yX0_countCells, cX0_countCells, 3, (some .int))
abbrev M_X0_countInner : Mi_ := (RX0, yX0_countInner, cX0_countInner, 5, (some .int))
abbrev M_X1_fill : Mi_ := (RX1, yX1_fill, cX1_fill, 4, (some .int))
abbrev M_X1_shortOf : Mi_ := (RX1, yX1_shortOf, cX1_shortOf, 2, (some .int))
abbrev M_X1_settle : Mi_ := (RX1, yX1_settle, cX1_settle, 4, none)
abbrev M_X1_weighNeeds : Mi_ := (RX1, yX1_weighNeeds, cX1_weighNeeds, 3, none)
abbrev M_X1_takeTwo : Mi_ := (RX1, yX1_takeTwo, cX1_takeTwo, 4, (some .boolean))
abbrev M_X2_alongX : Mi_ := (RX2, yX2_alongX, cX2_alongX, 2, (some .int))
abbrev M_X2_alongY : Mi_ := (RX2, yX2_alongY, cX2_alongY, 2, (some .int))
abbrev M_X2_footprint : Mi_ := (RX2, yX2_footprint, cX2_footprint, 10, (some .long))
abbrev M_X2_ever : Mi_ := (RX2, yX2_ever, cX2_ever, 1, (some .int))
abbrev M_X2_there : Mi_ := (RX2, yX2_there, cX2_there, 1, (some .long))
abbrev M_X2_ground : Mi_ := (RX2, yX2_ground, cX2_ground, 1, (some .long))
abbrev M_X2_howMany : Mi_ := (RX2, yX2_howMany, cX2_howMany, 1, (some .int))
abbrev M_X2_exists : Mi_ := (RX2, yX2_exists, cX2_exists, 2, (some .boolean))
abbrev M_X2_isThere : Mi_ := (RX2, yX2_isThere, cX2_isThere, 2, (some .boolean))
abbrev M_X2_overlapsAny : Mi_ := (RX2, yX2_overlapsAny, cX2_overlapsAny, 4, (some .boolean))
abbrev M_X2_add : Mi_ := (RX2, yX2_add, cX2_add, 8, (some .int))
abbrev M_X2_remove : Mi_ := (RX2, yX2_remove, cX2_remove, 2, none)
abbrev M_X2_writeNumbers : Mi_ := (RX2, yX2_writeNumbers, cX2_writeNumbers, 8, none)
abbrev M_X2_join : Mi_ := (RX2, yX2_join, cX2_join, 3, none)
abbrev M_X2_sharedStuds : Mi_ := (RX2, yX2_sharedStuds, cX2_sharedStuds, 3, (some .int))
abbrev M_X2_neighboursOf : Mi_ := (RX2, yX2_neighboursOf, cX2_neighboursOf, 2, (some .long))
abbrev M_X2_sizeOf : Mi_ := (RX2, yX2_sizeOf, cX2_sizeOf, 2, (some .int))
abbrev M_X2_colourOf : Mi_ := (RX2, yX2_colourOf, cX2_colourOf, 2, (some .int))
abbrev M_X2_coveringFromAbove : Mi_ := (RX2, yX2_coveringFromAbove, cX2_coveringFromAbove, 7, (some .long))
abbrev M_X2_told : Mi_ := (RX2, yX2_told, cX2_told, 3, (some .int))
abbrev M_X2_brickAt : Mi_ := (RX2, yX2_brickAt, cX2_brickAt, 4, (some .int))
abbrev M_X2_isSeamRight : Mi_ := (RX2, yX2_isSeamRight, cX2_isSeamRight, 4, (some .boolean))
abbrev M_X2_isSeamBehind : Mi_ := (RX2, yX2_isSeamBehind, cX2_isSeamBehind, 4, (some .boolean))
abbrev M_X2_areTwo : Mi_ := (RX2, yX2_areTwo, cX2_areTwo, 2, (some .boolean))
abbrev M_X2_countSeams : Mi_ := (RX2, yX2_countSeams, cX2_countSeams, 6, (some .int))
abbrev M_X2_colourSeen : Mi_ := (RX2, yX2_colourSeen, cX2_colourSeen, 7, (some .int))
abbrev M_X2_onLine : Mi_ := (RX2, yX2_onLine, cX2_onLine, 5, (some .int))
abbrev M_X3_forget : Mi_ := (RX3, yX3_forget, cX3_forget, 1, none)
abbrev M_X3_length : Mi_ := (RX3, yX3_length, cX3_length, 1, (some .int))
abbrev M_X3_newSeams : Mi_ := (RX3, yX3_newSeams, cX3_newSeams, 1, (some .int))
abbrev M_X3_toldAt : Mi_ := (RX3, yX3_toldAt, cX3_toldAt, 2, (some .int))
abbrev M_X3_findBest : Mi_ := (RX3, yX3_findBest, cX3_findBest, 3, (some .boolean))
abbrev M_X3_collectCells : Mi_ := (RX3, yX3_collectCells, cX3_collectCells, 4, none)
abbrev M_X3_weighPairs : Mi_ := (RX3, yX3_weighPairs, cX3_weighPairs, 4, none)
abbrev M_X3_findFits : Mi_ := (RX3, yX3_findFits, cX3_findFits, 3, none)
abbrev M_X3_findFit : Mi_ := (RX3, yX3_findFit, cX3_findFit, 11, none)
abbrev M_X3_numberAt : Mi_ := (RX3, yX3_numberAt, cX3_numberAt, 4, (some .int))
abbrev M_X3_tell : Mi_ := (RX3, yX3_tell, cX3_tell, 6, none)
abbrev M_X3_bestWay : Mi_ := (RX3, yX3_bestWay, cX3_bestWay, 6, (some .int))
abbrev M_X3_firstFree : Mi_ := (RX3, yX3_firstFree, cX3_firstFree, 2, (some .int))
abbrev M_X3_isFree : Mi_ := (RX3, yX3_isFree, cX3_isFree, 3, (some .boolean))
abbrev M_X3_cheapest : Mi_ := (RX3, yX3_cheapest, cX3_cheapest, 9, (some .int))
abbrev M_X3_slotOf : Mi_ := (RX3, yX3_slotOf, cX3_slotOf, 5, (some .int))
abbrev M_X3_keep : Mi_ := (RX3, yX3_keep, cX3_keep, 4, none)
abbrev M_X3_seamsOfSingles : Mi_ := (RX3, yX3_seamsOfSingles, cX3_seamsOfSingles, 5, (some .int))
abbrev M_X3_isNewPair : Mi_ := (RX3, yX3_isNewPair, cX3_isNewPair, 7, (some .boolean))
abbrev M_X4_currentGrip : Mi_ := (RX4, yX4_currentGrip, cX4_currentGrip, 1, (some .int))
abbrev M_X4_changeGrip : Mi_ := (RX4, yX4_changeGrip, cX4_changeGrip, 3, (some .int))
abbrev M_X4_reach : Mi_ := (RX4, yX4_reach, cX4_reach, 12, (some .long))
abbrev M_X4_pieceWith : Mi_ := (RX4, yX4_pieceWith, cX4_pieceWith, 4, (some .long))
abbrev M_X4_countPieces : Mi_ := (RX4, yX4_countPieces, cX4_countPieces, 5, (some .int))
abbrev M_X4_countFloating : Mi_ := (RX4, yX4_countFloating, cX4_countFloating, 7, (some .int))
abbrev M_X4_countKeys : Mi_ := (RX4, yX4_countKeys, cX4_countKeys, 3, (some .int))
abbrev M_X4_pieceNumbered : Mi_ := (RX4, yX4_pieceNumbered, cX4_pieceNumbered, 5, (some .long))
abbrev M_X4_numberOfPiece : Mi_ := (RX4, yX4_numberOfPiece, cX4_numberOfPiece, 8, (some .int))
abbrev M_X4_weight : Mi_ := (RX4, yX4_weight, cX4_weight, 7, (some .int))
abbrev M_X4_floats : Mi_ := (RX4, yX4_floats, cX4_floats, 3, (some .boolean))
abbrev M_X4_stands : Mi_ := (RX4, yX4_stands, cX4_stands, 12, (some .boolean))
abbrev M_X4_clearEdges : Mi_ := (RX4, yX4_clearEdges, cX4_clearEdges, 1, none)
abbrev M_X4_widenEdge : Mi_ := (RX4, yX4_widenEdge, cX4_widenEdge, 4, none)
abbrev M_X4_isWithinEdges : Mi_ := (RX4, yX4_isWithinEdges, cX4_isWithinEdges, 13, (some .boolean))
abbrev M_X4_lineAt : Mi_ := (RX4, yX4_lineAt, cX4_lineAt, 4, (some .int))
abbrev M_X4_isKey : Mi_ := (RX4, yX4_isKey, cX4_isKey, 6, (some .boolean))
abbrev M_X4_countWeak : Mi_ := (RX4, yX4_countWeak, cX4_countWeak, 10, (some .int))
abbrev M_X4_studsBetween : Mi_ := (RX4, yX4_studsBetween, cX4_studsBetween, 6, (some .int))
abbrev M_X4_isSound : Mi_ := (RX4, yX4_isSound, cX4_isSound, 6, (some .boolean))
abbrev M_X4_isSoundPiece : Mi_ := (RX4, yX4_isSoundPiece, cX4_isSoundPiece, 4, (some .boolean))
abbrev M_X5_forget : Mi_ := (RX5, yX5_forget, cX5_forget, 1, none)
abbrev M_X5_brickAtStep : Mi_ := (RX5, yX5_brickAtStep, cX5_brickAtStep, 2, (some .int))
abbrev M_X5_findRow : Mi_ := (RX5, yX5_findRow, cX5_findRow, 2, none)
abbrev M_X5_collectBricks : Mi_ := (RX5, yX5_collectBricks, cX5_collectBricks, 2, none)
abbrev M_X5_goesOn : Mi_ := (RX5, yX5_goesOn, cX5_goesOn, 9, (some .boolean))
abbrev M_X6_cell : Mi_ := (RX6, yX6_cell, cX6_cell, 5, (some .int))
abbrev M_X6_cellOf : Mi_ := (RX6, yX6_cellOf, cX6_cellOf, 4, (some .int))
abbrev M_X6_inner : Mi_ := (RX6, yX6_inner, cX6_inner, 1, (some .int))
abbrev M_X6_place : Mi_ := (RX6, yX6_place, cX6_place, 7, (some .int))
abbrev M_X6_take : Mi_ := (RX6, yX6_take, cX6_take, 3, (some .int))
abbrev M_X6_at : Mi_ := (RX6, yX6_at, cX6_at, 5, (some .int))
abbrev M_X6_studs : Mi_ := (RX6, yX6_studs, cX6_studs, 3, (some .int))
abbrev M_X6_pieces : Mi_ := (RX6, yX6_pieces, cX6_pieces, 1, (some .int))
abbrev M_X6_piece : Mi_ := (RX6, yX6_piece, cX6_piece, 3, (some .int))
abbrev M_X6_pieceOf : Mi_ := (RX6, yX6_pieceOf, cX6_pieceOf, 5, (some .int))
abbrev M_X6_key : Mi_ := (RX6, yX6_key, cX6_key, 3, (some .int))
abbrev M_X6_weak : Mi_ := (RX6, yX6_weak, cX6_weak, 3, (some .int))
abbrev M_X6_sound : Mi_ := (RX6, yX6_sound, cX6_sound, 1, (some .int))
abbrev M_X6_grip : Mi_ := (RX6, yX6_grip, cX6_grip, 2, (some .int))
abbrev M_X6_fit : Mi_ := (RX6, yX6_fit, cX6_fit, 6, (some .int))
abbrev M_X6_seams : Mi_ := (RX6, yX6_seams, cX6_seams, 2, (some .int))
abbrev M_X6_cover : Mi_ := (RX6, yX6_cover, cX6_cover, 4, (some .int))
abbrev M_X6_coverSeams : Mi_ := (RX6, yX6_coverSeams, cX6_coverSeams, 4, (some .int))
abbrev M_X6_coverAt : Mi_ := (RX6, yX6_coverAt, cX6_coverAt, 5, (some .int))
abbrev M_X6_lay : Mi_ := (RX6, yX6_lay, cX6_lay, 7, (some .int))
abbrev M_X6_box : Mi_ := (RX6, yX6_box, cX6_box, 3, (some .int))
abbrev M_X6_lacking : Mi_ := (RX6, yX6_lacking, cX6_lacking, 3, (some .int))
abbrev M_X6_lacks : Mi_ := (RX6, yX6_lacks, cX6_lacks, 2, (some .int))
abbrev M_X6_order : Mi_ := (RX6, yX6_order, cX6_order, 2, (some .int))
abbrev M_X6_seen : Mi_ := (RX6, yX6_seen, cX6_seen, 5, (some .int))
abbrev M_X6_brickOf : Mi_ := (RX6, yX6_brickOf, cX6_brickOf, 3, (some .int))
abbrev M_X6_count : Mi_ := (RX6, yX6_count, cX6_count, 2, (some .int))
abbrev M_X6_refuse : Mi_ := (RX6, yX6_refuse, cX6_refuse, 3, (some .int))
abbrev M_X6_forgetAnswers : Mi_ := (RX6, yX6_forgetAnswers, cX6_forgetAnswers, 1, none)
abbrev M_X6_refusalOf : Mi_ := (RX6, yX6_refusalOf, cX6_refusalOf, 2, (some .int))
abbrev M_X6_refusalOfCover : Mi_ := (RX6, yX6_refusalOfCover, cX6_refusalOfCover, 3, (some .int))
abbrev M_X6_fault : Mi_ := (RX6, yX6_fault, cX6_fault, 6, (some .int))
abbrev M_X6_isPlace : Mi_ := (RX6, yX6_isPlace, cX6_isPlace, 3, (some .boolean))
abbrev M_X6_isKind : Mi_ := (RX6, yX6_isKind, cX6_isKind, 1, (some .boolean))
abbrev M_X6_isBrickColour : Mi_ := (RX6, yX6_isBrickColour, cX6_isBrickColour, 1, (some .boolean))
abbrev M_X6_indexOf : Mi_ := (RX6, yX6_indexOf, cX6_indexOf, 3, (some .int))
abbrev M_X6_least : Mi_ := (RX6, yX6_least, cX6_least, 2, (some .int))
abbrev M_X7_refuse : Mi_ := (RX7, yX7_refuse, cX7_refuse, 2, (some .int))
abbrev M_X7_isIn : Mi_ := (RX7, yX7_isIn, cX7_isIn, 2, (some .boolean))
abbrev M_X7_isCell : Mi_ := (RX7, yX7_isCell, cX7_isCell, 3, (some .boolean))
abbrev M_X7_cellAt : Mi_ := (RX7, yX7_cellAt, cX7_cellAt, 3, (some .int))
abbrev M_X7_wrong : Mi_ := (RX7, yX7_wrong, cX7_wrong, 3, (some .int))
abbrev M_X7_cell : Mi_ := (RX7, yX7_cell, cX7_cell, 6, (some .int))
abbrev M_X7_cellOf : Mi_ := (RX7, yX7_cellOf, cX7_cellOf, 4, (some .int))
abbrev M_X7_isBody : Mi_ := (RX7, yX7_isBody, cX7_isBody, 4, (some .boolean))
abbrev M_X7_isInner : Mi_ := (RX7, yX7_isInner, cX7_isInner, 4, (some .boolean))
abbrev M_X7_inner : Mi_ := (RX7, yX7_inner, cX7_inner, 3, (some .int))
abbrev M_X7_lengthX : Mi_ := (RX7, yX7_lengthX, cX7_lengthX, 2, (some .int))
abbrev M_X7_lengthY : Mi_ := (RX7, yX7_lengthY, cX7_lengthY, 2, (some .int))
abbrev M_X7_cells : Mi_ := (RX7, yX7_cells, cX7_cells, 2, (some .int))
abbrev M_X7_fills : Mi_ := (RX7, yX7_fills, cX7_fills, 5, none)
abbrev M_X7_adds : Mi_ := (RX7, yX7_adds, cX7_adds, 7, none)
abbrev M_X7_place : Mi_ := (RX7, yX7_place, cX7_place, 11, (some .int))
abbrev M_X7_isBrick : Mi_ := (RX7, yX7_isBrick, cX7_isBrick, 2, (some .boolean))
abbrev M_X7_isThere : Mi_ := (RX7, yX7_isThere, cX7_isThere, 2, (some .boolean))
abbrev M_X7_take : Mi_ := (RX7, yX7_take, cX7_take, 2, (some .int))
abbrev M_X7_at : Mi_ := (RX7, yX7_at, cX7_at, 4, (some .int))
abbrev M_X7_studsOf : Mi_ := (RX7, yX7_studsOf, cX7_studsOf, 5, (some .int))
abbrev M_X7_studs : Mi_ := (RX7, yX7_studs, cX7_studs, 3, (some .int))
abbrev M_X7_links : Mi_ := (RX7, yX7_links, cX7_links, 3, none)
abbrev M_X7_first : Mi_ := (RX7, yX7_first, cX7_first, 3, (some .int))
abbrev M_X7_bits : Mi_ := (RX7, yX7_bits, cX7_bits, 5, (some .int))
abbrev M_X7_pieceIn : Mi_ := (RX7, yX7_pieceIn, cX7_pieceIn, 10, (some .long))
abbrev M_X7_floats : Mi_ := (RX7, yX7_floats, cX7_floats, 6, (some .boolean))
abbrev M_X7_weight : Mi_ := (RX7, yX7_weight, cX7_weight, 6, (some .int))
abbrev M_X7_stands : Mi_ := (RX7, yX7_stands, cX7_stands, 14, (some .boolean))
abbrev M_X7_isBorder : Mi_ := (RX7, yX7_isBorder, cX7_isBorder, 6, (some .boolean))
abbrev M_X7_weakAt : Mi_ := (RX7, yX7_weakAt, cX7_weakAt, 13, (some .int))
abbrev M_X7_isSound : Mi_ := (RX7, yX7_isSound, cX7_isSound, 9, (some .boolean))
abbrev M_X7_findPieces : Mi_ := (RX7, yX7_findPieces, cX7_findPieces, 3, none)
abbrev M_X7_pieces : Mi_ := (RX7, yX7_pieces, cX7_pieces, 1, (some .int))
abbrev M_X7_pieceOfBrick : Mi_ := (RX7, yX7_pieceOfBrick, cX7_pieceOfBrick, 3, (some .int))
abbrev M_X7_piece : Mi_ := (RX7, yX7_piece, cX7_piece, 2, (some .int))
abbrev M_X7_pieceOf : Mi_ := (RX7, yX7_pieceOf, cX7_pieceOf, 3, (some .int))
abbrev M_X7_key : Mi_ := (RX7, yX7_key, cX7_key, 2, (some .int))
abbrev M_X7_weak : Mi_ := (RX7, yX7_weak, cX7_weak, 2, (some .int))
abbrev M_X7_sound : Mi_ := (RX7, yX7_sound, cX7_sound, 1, (some .int))
abbrev M_X7_grip : Mi_ := (RX7, yX7_grip, cX7_grip, 4, (some .int))
abbrev M_X7_fit : Mi_ := (RX7, yX7_fit, cX7_fit, 7, (some .int))
abbrev M_X7_isSeam : Mi_ := (RX7, yX7_isSeam, cX7_isSeam, 3, (some .boolean))
abbrev M_X7_seams : Mi_ := (RX7, yX7_seams, cX7_seams, 4, (some .int))
abbrev M_X7_cost : Mi_ := (RX7, yX7_cost, cX7_cost, 3, (some .int))
abbrev M_X7_wrongCover : Mi_ := (RX7, yX7_wrongCover, cX7_wrongCover, 4, (some .int))
abbrev M_X7_shape : Mi_ := (RX7, yX7_shape, cX7_shape, 9, (some .int))
abbrev M_X7_spares : Mi_ := (RX7, yX7_spares, cX7_spares, 5, (some .int))
abbrev M_X7_isOf : Mi_ := (RX7, yX7_isOf, cX7_isOf, 4, (some .boolean))
abbrev M_X7_shapeAt : Mi_ := (RX7, yX7_shapeAt, cX7_shapeAt, 3, (some .int))
abbrev M_X7_covers : Mi_ := (RX7, yX7_covers, cX7_covers, 6, none)
abbrev M_X7_parted : Mi_ := (RX7, yX7_parted, cX7_parted, 3, (some .int))
abbrev M_X7_firstOpen : Mi_ := (RX7, yX7_firstOpen, cX7_firstOpen, 2, (some .int))
abbrev M_X7_tries : Mi_ := (RX7, yX7_tries, cX7_tries, 8, none)
abbrev M_X7_next : Mi_ := (RX7, yX7_next, cX7_next, 6, (some .int))
abbrev M_X7_cover : Mi_ := (RX7, yX7_cover, cX7_cover, 4, (some .int))
abbrev M_X7_coverSeams : Mi_ := (RX7, yX7_coverSeams, cX7_coverSeams, 4, (some .int))
abbrev M_X7_coverAt : Mi_ := (RX7, yX7_coverAt, cX7_coverAt, 8, (some .int))
abbrev M_X7_lay : Mi_ := (RX7, yX7_lay, cX7_lay, 9, (some .int))
abbrev M_X7_box : Mi_ := (RX7, yX7_box, cX7_box, 5, (some .int))
abbrev M_X7_findLacking : Mi_ := (RX7, yX7_findLacking, cX7_findLacking, 2, none)
abbrev M_X7_lacking : Mi_ := (RX7, yX7_lacking, cX7_lacking, 3, (some .int))
abbrev M_X7_lacks : Mi_ := (RX7, yX7_lacks, cX7_lacks, 2, (some .int))
abbrev M_X7_covered : Mi_ := (RX7, yX7_covered, cX7_covered, 7, (some .boolean))
abbrev M_X7_isAbove : Mi_ := (RX7, yX7_isAbove, cX7_isAbove, 5, (some .boolean))
abbrev M_X7_goes : Mi_ := (RX7, yX7_goes, cX7_goes, 6, (some .boolean))
abbrev M_X7_order : Mi_ := (RX7, yX7_order, cX7_order, 3, (some .int))
abbrev M_X7_seen : Mi_ := (RX7, yX7_seen, cX7_seen, 6, (some .int))
abbrev M_X7_brickOf : Mi_ := (RX7, yX7_brickOf, cX7_brickOf, 3, (some .int))
abbrev M_X7_count : Mi_ := (RX7, yX7_count, cX7_count, 6, (some .int))
abbrev M_J6_bitCount_0f7a4 : Mi_ := (RJ6, yJ6_bitCount_0f7a4, cJ6_bitCount_0f7a4, 1, (some .int))
abbrev M_J13_bitCount_95d88 : Mi_ := (RJ13, yJ13_bitCount_95d88, cJ13_bitCount_95d88, 2, (some .int))
abbrev M_J7_fill_53178 : Mi_ := (RJ7, yJ7_fill_53178, cJ7_fill_53178, 4, none)
set_option maxRecDepth 20000 in
theorem wk_J13_314 : Cond.constantLong RJ13 314 (6148914691236517205) ∈ Tb := tb_at 344 rfl rfl
set_option maxRecDepth 20000 in
theorem wk_J13_316 : Cond.constantLong RJ13 316 (3689348814741910323) ∈ Tb := tb_at 345 rfl rfl
set_option maxRecDepth 20000 in
theorem wk_J13_318 : Cond.constantLong RJ13 318 (1085102592571150095) ∈ Tb := tb_at 346 rfl rfl
set_option maxRecDepth 20000 in
theorem wk_J6_265 : Cond.constant RJ6 265 (1431655765) ∈ Tb := tb_at 613 rfl rfl
set_option maxRecDepth 20000 in
theorem wk_J6_266 : Cond.constant RJ6 266 (858993459) ∈ Tb := tb_at 614 rfl rfl
set_option maxRecDepth 20000 in
theorem wk_J6_267 : Cond.constant RJ6 267 (252645135) ∈ Tb := tb_at 615 rfl rfl
set_option maxRecDepth 20000 in
theorem cv_L_13 : CV_ RL 13 6 M_X6_cell 4 := ⟨⟨tb_at 229 rfl rfl, tb_at 230 rfl rfl, (tb_at 231 rfl rfl), tb_at 1 rfl rfl, tb_at 232 rfl rfl⟩, ⟨rfl, by decide, by decide, by decide +kernel⟩, by decide, ⟨_, rfl, rfl⟩, by decide, rfl⟩
set_option maxRecDepth 20000 in
theorem cv_L_17 : CV_ RL 17 7 M_X7_cell 4 := ⟨⟨tb_at 892 rfl rfl, tb_at 893 rfl rfl, (tb_at 894 rfl rfl), tb_at 8 rfl rfl, tb_at 895 rfl rfl⟩, ⟨rfl, by decide, by decide, by decide +kernel⟩, by decide, ⟨_, rfl, rfl⟩, by decide, rfl⟩
set_option maxRecDepth 20000 in
theorem cv_L_18 : CV_ RL 18 6 M_X6_cellOf 3 := ⟨⟨tb_at 260 rfl rfl, tb_at 261 rfl rfl, (tb_at 262 rfl rfl), tb_at 1 rfl rfl, tb_at 263 rfl rfl⟩, ⟨rfl, by decide, by decide, by decide +kernel⟩, by decide, ⟨_, rfl, rfl⟩, by decide, rfl⟩
set_option maxRecDepth 20000 in
theorem cv_L_22 : CV_ RL 22 7 M_X7_cellOf 3 := ⟨⟨tb_at 909 rfl rfl, tb_at 910 rfl rfl, (tb_at 911 rfl rfl), tb_at 8 rfl rfl, tb_at 912 rfl rfl⟩, ⟨rfl, by decide, by decide, by decide +kernel⟩, by decide, ⟨_, rfl, rfl⟩, by decide, rfl⟩
set_option maxRecDepth 20000 in
theorem cv_L_23 : CV_ RL 23 6 M_X6_inner 0 := ⟨⟨tb_at 268 rfl rfl, tb_at 269 rfl rfl, (tb_at 270 rfl rfl), tb_at 1 rfl rfl, tb_at 271 rfl rfl⟩, ⟨rfl, by decide, by decide, by decide +kernel⟩, by decide, ⟨_, rfl, rfl⟩, by decide, rfl⟩
set_option maxRecDepth 20000 in
theorem cv_L_27 : CV_ RL 27 7 M_X7_inner 0 := ⟨⟨tb_at 913 rfl rfl, tb_at 914 rfl rfl, (tb_at 915 rfl rfl), tb_at 8 rfl rfl, tb_at 916 rfl rfl⟩, ⟨rfl, by decide, by decide, by decide +kernel⟩, by decide, ⟨_, rfl, rfl⟩, by decide, rfl⟩
set_option maxRecDepth 20000 in
theorem cv_L_28 : CV_ RL 28 6 M_X6_place 6 := ⟨⟨tb_at 281 rfl rfl, tb_at 282 rfl rfl, (tb_at 283 rfl rfl), tb_at 1 rfl rfl, tb_at 284 rfl rfl⟩, ⟨rfl, by decide, by decide, by decide +kernel⟩, by decide, ⟨_, rfl, rfl⟩, by decide, rfl⟩
set_option maxRecDepth 20000 in
theorem cv_L_32 : CV_ RL 32 7 M_X7_place 6 := ⟨⟨tb_at 925 rfl rfl, tb_at 926 rfl rfl, (tb_at 927 rfl rfl), tb_at 8 rfl rfl, tb_at 928 rfl rfl⟩, ⟨rfl, by decide, by decide, by decide +kernel⟩, by decide, ⟨_, rfl, rfl⟩, by decide, rfl⟩
set_option maxRecDepth 20000 in
theorem cv_L_33 : CV_ RL 33 6 M_X6_take 1 := ⟨⟨tb_at 347 rfl rfl, tb_at 348 rfl rfl, (tb_at 349 rfl rfl), tb_at 1 rfl rfl, tb_at 350 rfl rfl⟩, ⟨rfl, by decide, by decide, by decide +kernel⟩, by decide, ⟨_, rfl, rfl⟩, by decide, rfl⟩
set_option maxRecDepth 20000 in
theorem cv_L_37 : CV_ RL 37 7 M_X7_take 1 := ⟨⟨tb_at 947 rfl rfl, tb_at 948 rfl rfl, (tb_at 949 rfl rfl), tb_at 8 rfl rfl, tb_at 950 rfl rfl⟩, ⟨rfl, by decide, by decide, by decide +kernel⟩, by decide, ⟨_, rfl, rfl⟩, by decide, rfl⟩
set_option maxRecDepth 20000 in
theorem cv_L_38 : CV_ RL 38 6 M_X6_at 3 := ⟨⟨tb_at 366 rfl rfl, tb_at 367 rfl rfl, (tb_at 368 rfl rfl), tb_at 1 rfl rfl, tb_at 369 rfl rfl⟩, ⟨rfl, by decide, by decide, by decide +kernel⟩, by decide, ⟨_, rfl, rfl⟩, by decide, rfl⟩
set_option maxRecDepth 20000 in
theorem cv_L_41 : CV_ RL 41 7 M_X7_at 3 := ⟨⟨tb_at 960 rfl rfl, tb_at 961 rfl rfl, (tb_at 962 rfl rfl), tb_at 8 rfl rfl, tb_at 963 rfl rfl⟩, ⟨rfl, by decide, by decide, by decide +kernel⟩, by decide, ⟨_, rfl, rfl⟩, by decide, rfl⟩
set_option maxRecDepth 20000 in
theorem cv_L_42 : CV_ RL 42 6 M_X6_studs 2 := ⟨⟨tb_at 374 rfl rfl, tb_at 375 rfl rfl, (tb_at 376 rfl rfl), tb_at 1 rfl rfl, tb_at 377 rfl rfl⟩, ⟨rfl, by decide, by decide, by decide +kernel⟩, by decide, ⟨_, rfl, rfl⟩, by decide, rfl⟩
set_option maxRecDepth 20000 in
theorem cv_L_46 : CV_ RL 46 7 M_X7_studs 2 := ⟨⟨tb_at 964 rfl rfl, tb_at 965 rfl rfl, (tb_at 966 rfl rfl), tb_at 8 rfl rfl, tb_at 967 rfl rfl⟩, ⟨rfl, by decide, by decide, by decide +kernel⟩, by decide, ⟨_, rfl, rfl⟩, by decide, rfl⟩
set_option maxRecDepth 20000 in
theorem cv_L_47 : CV_ RL 47 6 M_X6_pieces 0 := ⟨⟨tb_at 379 rfl rfl, tb_at 380 rfl rfl, (tb_at 381 rfl rfl), tb_at 1 rfl rfl, tb_at 382 rfl rfl⟩, ⟨rfl, by decide, by decide, by decide +kernel⟩, by decide, ⟨_, rfl, rfl⟩, by decide, rfl⟩
set_option maxRecDepth 20000 in
theorem cv_L_50 : CV_ RL 50 7 M_X7_pieces 0 := ⟨⟨tb_at 975 rfl rfl, tb_at 976 rfl rfl, (tb_at 977 rfl rfl), tb_at 8 rfl rfl, tb_at 978 rfl rfl⟩, ⟨rfl, by decide, by decide, by decide +kernel⟩, by decide, ⟨_, rfl, rfl⟩, by decide, rfl⟩
set_option maxRecDepth 20000 in
theorem cv_L_51 : CV_ RL 51 6 M_X6_piece 1 := ⟨⟨tb_at 404 rfl rfl, tb_at 405 rfl rfl, (tb_at 406 rfl rfl), tb_at 1 rfl rfl, tb_at 407 rfl rfl⟩, ⟨rfl, by decide, by decide, by decide +kernel⟩, by decide, ⟨_, rfl, rfl⟩, by decide, rfl⟩
set_option maxRecDepth 20000 in
theorem cv_L_54 : CV_ RL 54 7 M_X7_piece 1 := ⟨⟨tb_at 994 rfl rfl, tb_at 995 rfl rfl, (tb_at 996 rfl rfl), tb_at 8 rfl rfl, tb_at 997 rfl rfl⟩, ⟨rfl, by decide, by decide, by decide +kernel⟩, by decide, ⟨_, rfl, rfl⟩, by decide, rfl⟩
set_option maxRecDepth 20000 in
theorem cv_L_55 : CV_ RL 55 6 M_X6_pieceOf 2 := ⟨⟨tb_at 412 rfl rfl, tb_at 413 rfl rfl, (tb_at 414 rfl rfl), tb_at 1 rfl rfl, tb_at 415 rfl rfl⟩, ⟨rfl, by decide, by decide, by decide +kernel⟩, by decide, ⟨_, rfl, rfl⟩, by decide, rfl⟩
set_option maxRecDepth 20000 in
theorem cv_L_58 : CV_ RL 58 7 M_X7_pieceOf 2 := ⟨⟨tb_at 1002 rfl rfl, tb_at 1003 rfl rfl, (tb_at 1004 rfl rfl), tb_at 8 rfl rfl, tb_at 1005 rfl rfl⟩, ⟨rfl, by decide, by decide, by decide +kernel⟩, by decide, ⟨_, rfl, rfl⟩, by decide, rfl⟩
set_option maxRecDepth 20000 in
theorem cv_L_59 : CV_ RL 59 6 M_X6_key 1 := ⟨⟨tb_at 473 rfl rfl, tb_at 474 rfl rfl, (tb_at 475 rfl rfl), tb_at 1 rfl rfl, tb_at 476 rfl rfl⟩, ⟨rfl, by decide, by decide, by decide +kernel⟩, by decide, ⟨_, rfl, rfl⟩, by decide, rfl⟩
set_option maxRecDepth 20000 in
theorem cv_L_62 : CV_ RL 62 7 M_X7_key 1 := ⟨⟨tb_at 1030 rfl rfl, tb_at 1031 rfl rfl, (tb_at 1032 rfl rfl), tb_at 8 rfl rfl, tb_at 1033 rfl rfl⟩, ⟨rfl, by decide, by decide, by decide +kernel⟩, by decide, ⟨_, rfl, rfl⟩, by decide, rfl⟩
set_option maxRecDepth 20000 in
theorem cv_L_63 : CV_ RL 63 6 M_X6_weak 1 := ⟨⟨tb_at 486 rfl rfl, tb_at 487 rfl rfl, (tb_at 488 rfl rfl), tb_at 1 rfl rfl, tb_at 489 rfl rfl⟩, ⟨rfl, by decide, by decide, by decide +kernel⟩, by decide, ⟨_, rfl, rfl⟩, by decide, rfl⟩
set_option maxRecDepth 20000 in
theorem cv_L_66 : CV_ RL 66 7 M_X7_weak 1 := ⟨⟨tb_at 1038 rfl rfl, tb_at 1039 rfl rfl, (tb_at 1040 rfl rfl), tb_at 8 rfl rfl, tb_at 1041 rfl rfl⟩, ⟨rfl, by decide, by decide, by decide +kernel⟩, by decide, ⟨_, rfl, rfl⟩, by decide, rfl⟩
set_option maxRecDepth 20000 in
theorem cv_L_67 : CV_ RL 67 6 M_X6_sound 0 := ⟨⟨tb_at 500 rfl rfl, tb_at 501 rfl rfl, (tb_at 502 rfl rfl), tb_at 1 rfl rfl, tb_at 503 rfl rfl⟩, ⟨rfl, by decide, by decide, by decide +kernel⟩, by decide, ⟨_, rfl, rfl⟩, by decide, rfl⟩
set_option maxRecDepth 20000 in
theorem cv_L_70 : CV_ RL 70 7 M_X7_sound 0 := ⟨⟨tb_at 1042 rfl rfl, tb_at 1043 rfl rfl, (tb_at 1044 rfl rfl), tb_at 8 rfl rfl, tb_at 1045 rfl rfl⟩, ⟨rfl, by decide, by decide, by decide +kernel⟩, by decide, ⟨_, rfl, rfl⟩, by decide, rfl⟩
set_option maxRecDepth 20000 in
theorem cv_L_71 : CV_ RL 71 6 M_X6_grip 1 := ⟨⟨tb_at 514 rfl rfl, tb_at 515 rfl rfl, (tb_at 516 rfl rfl), tb_at 1 rfl rfl, tb_at 517 rfl rfl⟩, ⟨rfl, by decide, by decide, by decide +kernel⟩, by decide, ⟨_, rfl, rfl⟩, by decide, rfl⟩
set_option maxRecDepth 20000 in
theorem cv_L_74 : CV_ RL 74 7 M_X7_grip 1 := ⟨⟨tb_at 1050 rfl rfl, tb_at 1051 rfl rfl, (tb_at 1052 rfl rfl), tb_at 8 rfl rfl, tb_at 1053 rfl rfl⟩, ⟨rfl, by decide, by decide, by decide +kernel⟩, by decide, ⟨_, rfl, rfl⟩, by decide, rfl⟩
set_option maxRecDepth 20000 in
theorem cv_L_75 : CV_ RL 75 6 M_X6_fit 1 := ⟨⟨tb_at 522 rfl rfl, tb_at 523 rfl rfl, (tb_at 524 rfl rfl), tb_at 1 rfl rfl, tb_at 525 rfl rfl⟩, ⟨rfl, by decide, by decide, by decide +kernel⟩, by decide, ⟨_, rfl, rfl⟩, by decide, rfl⟩
set_option maxRecDepth 20000 in
theorem cv_L_78 : CV_ RL 78 7 M_X7_fit 1 := ⟨⟨tb_at 1057 rfl rfl, tb_at 1058 rfl rfl, (tb_at 1059 rfl rfl), tb_at 8 rfl rfl, tb_at 1060 rfl rfl⟩, ⟨rfl, by decide, by decide, by decide +kernel⟩, by decide, ⟨_, rfl, rfl⟩, by decide, rfl⟩
set_option maxRecDepth 20000 in
theorem cv_L_79 : CV_ RL 79 6 M_X6_seams 1 := ⟨⟨tb_at 535 rfl rfl, tb_at 536 rfl rfl, (tb_at 537 rfl rfl), tb_at 1 rfl rfl, tb_at 538 rfl rfl⟩, ⟨rfl, by decide, by decide, by decide +kernel⟩, by decide, ⟨_, rfl, rfl⟩, by decide, rfl⟩
set_option maxRecDepth 20000 in
theorem cv_L_83 : CV_ RL 83 7 M_X7_seams 1 := ⟨⟨tb_at 1061 rfl rfl, tb_at 1062 rfl rfl, (tb_at 1063 rfl rfl), tb_at 8 rfl rfl, tb_at 1064 rfl rfl⟩, ⟨rfl, by decide, by decide, by decide +kernel⟩, by decide, ⟨_, rfl, rfl⟩, by decide, rfl⟩
set_option maxRecDepth 20000 in
theorem cv_L_84 : CV_ RL 84 6 M_X6_cover 2 := ⟨⟨tb_at 555 rfl rfl, tb_at 556 rfl rfl, (tb_at 557 rfl rfl), tb_at 1 rfl rfl, tb_at 558 rfl rfl⟩, ⟨rfl, by decide, by decide, by decide +kernel⟩, by decide, ⟨_, rfl, rfl⟩, by decide, rfl⟩
set_option maxRecDepth 20000 in
theorem cv_L_87 : CV_ RL 87 7 M_X7_cover 2 := ⟨⟨tb_at 1069 rfl rfl, tb_at 1070 rfl rfl, (tb_at 1071 rfl rfl), tb_at 8 rfl rfl, tb_at 1072 rfl rfl⟩, ⟨rfl, by decide, by decide, by decide +kernel⟩, by decide, ⟨_, rfl, rfl⟩, by decide, rfl⟩
set_option maxRecDepth 20000 in
theorem cv_L_88 : CV_ RL 88 6 M_X6_coverSeams 2 := ⟨⟨tb_at 647 rfl rfl, tb_at 648 rfl rfl, (tb_at 649 rfl rfl), tb_at 1 rfl rfl, tb_at 650 rfl rfl⟩, ⟨rfl, by decide, by decide, by decide +kernel⟩, by decide, ⟨_, rfl, rfl⟩, by decide, rfl⟩
set_option maxRecDepth 20000 in
theorem cv_L_91 : CV_ RL 91 7 M_X7_coverSeams 2 := ⟨⟨tb_at 1111 rfl rfl, tb_at 1112 rfl rfl, (tb_at 1113 rfl rfl), tb_at 8 rfl rfl, tb_at 1114 rfl rfl⟩, ⟨rfl, by decide, by decide, by decide +kernel⟩, by decide, ⟨_, rfl, rfl⟩, by decide, rfl⟩
set_option maxRecDepth 20000 in
theorem cv_L_92 : CV_ RL 92 6 M_X6_coverAt 3 := ⟨⟨tb_at 655 rfl rfl, tb_at 656 rfl rfl, (tb_at 657 rfl rfl), tb_at 1 rfl rfl, tb_at 658 rfl rfl⟩, ⟨rfl, by decide, by decide, by decide +kernel⟩, by decide, ⟨_, rfl, rfl⟩, by decide, rfl⟩
set_option maxRecDepth 20000 in
theorem cv_L_95 : CV_ RL 95 7 M_X7_coverAt 3 := ⟨⟨tb_at 1115 rfl rfl, tb_at 1116 rfl rfl, (tb_at 1117 rfl rfl), tb_at 8 rfl rfl, tb_at 1118 rfl rfl⟩, ⟨rfl, by decide, by decide, by decide +kernel⟩, by decide, ⟨_, rfl, rfl⟩, by decide, rfl⟩
set_option maxRecDepth 20000 in
theorem cv_L_96 : CV_ RL 96 6 M_X6_lay 2 := ⟨⟨tb_at 663 rfl rfl, tb_at 664 rfl rfl, (tb_at 665 rfl rfl), tb_at 1 rfl rfl, tb_at 666 rfl rfl⟩, ⟨rfl, by decide, by decide, by decide +kernel⟩, by decide, ⟨_, rfl, rfl⟩, by decide, rfl⟩
set_option maxRecDepth 20000 in
theorem cv_L_99 : CV_ RL 99 7 M_X7_lay 2 := ⟨⟨tb_at 1123 rfl rfl, tb_at 1124 rfl rfl, (tb_at 1125 rfl rfl), tb_at 8 rfl rfl, tb_at 1126 rfl rfl⟩, ⟨rfl, by decide, by decide, by decide +kernel⟩, by decide, ⟨_, rfl, rfl⟩, by decide, rfl⟩
set_option maxRecDepth 20000 in
theorem cv_L_100 : CV_ RL 100 6 M_X6_box 2 := ⟨⟨tb_at 667 rfl rfl, tb_at 668 rfl rfl, (tb_at 669 rfl rfl), tb_at 1 rfl rfl, tb_at 670 rfl rfl⟩, ⟨rfl, by decide, by decide, by decide +kernel⟩, by decide, ⟨_, rfl, rfl⟩, by decide, rfl⟩
set_option maxRecDepth 20000 in
theorem cv_L_103 : CV_ RL 103 7 M_X7_box 2 := ⟨⟨tb_at 1127 rfl rfl, tb_at 1128 rfl rfl, (tb_at 1129 rfl rfl), tb_at 8 rfl rfl, tb_at 1130 rfl rfl⟩, ⟨rfl, by decide, by decide, by decide +kernel⟩, by decide, ⟨_, rfl, rfl⟩, by decide, rfl⟩
set_option maxRecDepth 20000 in
theorem cv_L_104 : CV_ RL 104 6 M_X6_lacking 0 := ⟨⟨tb_at 676 rfl rfl, tb_at 677 rfl rfl, (tb_at 678 rfl rfl), tb_at 1 rfl rfl, tb_at 679 rfl rfl⟩, ⟨rfl, by decide, by decide, by decide +kernel⟩, by decide, ⟨_, rfl, rfl⟩, by decide, rfl⟩
set_option maxRecDepth 20000 in
theorem cv_L_107 : CV_ RL 107 7 M_X7_lacking 0 := ⟨⟨tb_at 1131 rfl rfl, tb_at 1132 rfl rfl, (tb_at 1133 rfl rfl), tb_at 8 rfl rfl, tb_at 1134 rfl rfl⟩, ⟨rfl, by decide, by decide, by decide +kernel⟩, by decide, ⟨_, rfl, rfl⟩, by decide, rfl⟩
set_option maxRecDepth 20000 in
theorem cv_L_108 : CV_ RL 108 6 M_X6_lacks 1 := ⟨⟨tb_at 703 rfl rfl, tb_at 704 rfl rfl, (tb_at 705 rfl rfl), tb_at 1 rfl rfl, tb_at 706 rfl rfl⟩, ⟨rfl, by decide, by decide, by decide +kernel⟩, by decide, ⟨_, rfl, rfl⟩, by decide, rfl⟩
set_option maxRecDepth 20000 in
theorem cv_L_111 : CV_ RL 111 7 M_X7_lacks 1 := ⟨⟨tb_at 1143 rfl rfl, tb_at 1144 rfl rfl, (tb_at 1145 rfl rfl), tb_at 8 rfl rfl, tb_at 1146 rfl rfl⟩, ⟨rfl, by decide, by decide, by decide +kernel⟩, by decide, ⟨_, rfl, rfl⟩, by decide, rfl⟩
set_option maxRecDepth 20000 in
theorem cv_L_112 : CV_ RL 112 6 M_X6_order 1 := ⟨⟨tb_at 707 rfl rfl, tb_at 708 rfl rfl, (tb_at 709 rfl rfl), tb_at 1 rfl rfl, tb_at 710 rfl rfl⟩, ⟨rfl, by decide, by decide, by decide +kernel⟩, by decide, ⟨_, rfl, rfl⟩, by decide, rfl⟩
set_option maxRecDepth 20000 in
theorem cv_L_115 : CV_ RL 115 7 M_X7_order 1 := ⟨⟨tb_at 1147 rfl rfl, tb_at 1148 rfl rfl, (tb_at 1149 rfl rfl), tb_at 8 rfl rfl, tb_at 1150 rfl rfl⟩, ⟨rfl, by decide, by decide, by decide +kernel⟩, by decide, ⟨_, rfl, rfl⟩, by decide, rfl⟩
set_option maxRecDepth 20000 in
theorem cv_L_116 : CV_ RL 116 6 M_X6_seen 3 := ⟨⟨tb_at 741 rfl rfl, tb_at 742 rfl rfl, (tb_at 743 rfl rfl), tb_at 1 rfl rfl, tb_at 744 rfl rfl⟩, ⟨rfl, by decide, by decide, by decide +kernel⟩, by decide, ⟨_, rfl, rfl⟩, by decide, rfl⟩
set_option maxRecDepth 20000 in
theorem cv_L_119 : CV_ RL 119 7 M_X7_seen 3 := ⟨⟨tb_at 1163 rfl rfl, tb_at 1164 rfl rfl, (tb_at 1165 rfl rfl), tb_at 8 rfl rfl, tb_at 1166 rfl rfl⟩, ⟨rfl, by decide, by decide, by decide +kernel⟩, by decide, ⟨_, rfl, rfl⟩, by decide, rfl⟩
set_option maxRecDepth 20000 in
theorem cv_L_120 : CV_ RL 120 6 M_X6_brickOf 2 := ⟨⟨tb_at 754 rfl rfl, tb_at 755 rfl rfl, (tb_at 756 rfl rfl), tb_at 1 rfl rfl, tb_at 757 rfl rfl⟩, ⟨rfl, by decide, by decide, by decide +kernel⟩, by decide, ⟨_, rfl, rfl⟩, by decide, rfl⟩
set_option maxRecDepth 20000 in
theorem cv_L_123 : CV_ RL 123 7 M_X7_brickOf 2 := ⟨⟨tb_at 1167 rfl rfl, tb_at 1168 rfl rfl, (tb_at 1169 rfl rfl), tb_at 8 rfl rfl, tb_at 1170 rfl rfl⟩, ⟨rfl, by decide, by decide, by decide +kernel⟩, by decide, ⟨_, rfl, rfl⟩, by decide, rfl⟩
set_option maxRecDepth 20000 in
theorem cv_L_124 : CV_ RL 124 6 M_X6_count 1 := ⟨⟨tb_at 759 rfl rfl, tb_at 760 rfl rfl, (tb_at 761 rfl rfl), tb_at 1 rfl rfl, tb_at 762 rfl rfl⟩, ⟨rfl, by decide, by decide, by decide +kernel⟩, by decide, ⟨_, rfl, rfl⟩, by decide, rfl⟩
set_option maxRecDepth 20000 in
theorem cv_L_127 : CV_ RL 127 7 M_X7_count 1 := ⟨⟨tb_at 1171 rfl rfl, tb_at 1172 rfl rfl, (tb_at 1173 rfl rfl), tb_at 8 rfl rfl, tb_at 1174 rfl rfl⟩, ⟨rfl, by decide, by decide, by decide +kernel⟩, by decide, ⟨_, rfl, rfl⟩, by decide, rfl⟩
set_option maxRecDepth 20000 in
theorem gf_X0_9 {X : CX} {cc : ByteArray} {d pc : Nat} {lv : List (Nat × Value)} {st : List Value} {h : Hp} (hX : Ok_ X RX0 cc d) (hdg : decode cc pc = .ok (.getfield 9, 3)) (k : At_ X (pc + 3) lv (.ref 8 :: st) h) : At_ X pc lv (.ref 0 :: st) h := at_getf hX (o := 0) (k := 0) (C := RX0) (T := TX0) (N := 1) rfl (by decide) twX0 (tb_at 27 rfl rfl) (2, 8) rfl rfl (by decide) rfl hdg k -- colours
set_option maxRecDepth 20000 in
theorem cv_X0_15 : CN_ RX0 15 M_X6_isPlace 3 := ⟨⟨List.mem_of_getElem? (i := 0) rfl, tb_at 234 rfl rfl, tb_at 1 rfl rfl, tb_at 235 rfl rfl⟩, ⟨by decide, by decide, by decide +kernel⟩, by decide⟩
set_option maxRecDepth 20000 in
theorem cv_X0_19 : CN_ RX0 19 M_X6_indexOf 3 := ⟨⟨List.mem_of_getElem? (i := 1) rfl, tb_at 258 rfl rfl, tb_at 1 rfl rfl, tb_at 259 rfl rfl⟩, ⟨by decide, by decide, by decide +kernel⟩, by decide⟩
set_option maxRecDepth 20000 in
theorem cv_X0_23 : CV_ RX0 23 0 M_X0_colourAt 3 := ⟨⟨tb_at 280 rfl rfl, tb_at 265 rfl rfl, (tb_at 266 rfl rfl), tb_at 2 rfl rfl, tb_at 267 rfl rfl⟩, ⟨rfl, by decide, by decide, by decide +kernel⟩, by decide, ⟨_, rfl, rfl⟩, by decide, rfl⟩
set_option maxRecDepth 20000 in
theorem cv_X0_26 : CV_ RX0 26 0 M_X0_isInner 3 := ⟨⟨tb_at 276 rfl rfl, tb_at 277 rfl rfl, (tb_at 278 rfl rfl), tb_at 2 rfl rfl, tb_at 279 rfl rfl⟩, ⟨rfl, by decide, by decide, by decide +kernel⟩, by decide, ⟨_, rfl, rfl⟩, by decide, rfl⟩
set_option maxRecDepth 20000 in
theorem gf_X1_9 {X : CX} {cc : ByteArray} {d pc : Nat} {lv : List (Nat × Value)} {st : List Value} {h : Hp} (hX : Ok_ X RX1 cc d) (hdg : decode cc pc = .ok (.getfield 9, 3)) (k : At_ X (pc + 3) lv (.ref 9 :: st) h) : At_ X pc lv (.ref 1 :: st) h := at_getf hX (o := 1) (k := 1) (C := RX1) (T := TX1) (N := 4) rfl (by decide) twX1 (tb_at 195 rfl rfl) (2, 9) rfl rfl (by decide) rfl hdg k -- stock
set_option maxRecDepth 20000 in
theorem gf_X1_15 {X : CX} {cc : ByteArray} {d pc : Nat} {lv : List (Nat × Value)} {st : List Value} {h : Hp} (hX : Ok_ X RX1 cc d) (hdg : decode cc pc = .ok (.getfield 15, 3)) (k : At_ X (pc + 3) lv (.ref 10 :: st) h) : At_ X pc lv (.ref 1 :: st) h := at_getf hX (o := 1) (k := 2) (C := RX1) (T := TX1) (N := 4) rfl (by decide) twX1 (tb_at 196 rfl rfl) (2, 10) rfl rfl (by decide) rfl hdg k -- left
set_option maxRecDepth 20000 in
theorem gf_X1_18 {X : CX} {cc : ByteArray} {d pc : Nat} {lv : List (Nat × Value)} {st : List Value} {h : Hp} (hX : Ok_ X RX1 cc d) (hdg : decode cc pc = .ok (.getfield 18, 3)) (k : At_ X (pc + 3) lv (.ref 11 :: st) h) : At_ X pc lv (.ref 1 :: st) h := at_getf hX (o := 1) (k := 3) (C := RX1) (T := TX1) (N := 4) rfl (by decide) twX1 (tb_at 197 rfl rfl) (2, 11) rfl rfl (by decide) rfl hdg k -- missing
set_option maxRecDepth 20000 in
theorem gf_X1_21 {X : CX} {cc : ByteArray} {d pc : Nat} {lv : List (Nat × Value)} {st : List Value} {h : Hp} (hX : Ok_ X RX1 cc d) (hdg : decode cc pc = .ok (.getfield 21, 3)) (k : At_ X (pc + 3) lv (.ref 2 :: st) h) : At_ X pc lv (.ref 1 :: st) h := at_getf hX (o := 1) (k := 0) (C := RX1) (T := TX1) (N := 4) rfl (by decide) twX1 (tb_at 194 rfl rfl) (2, 2) rfl rfl (by decide) rfl hdg k -- bricks
set_option maxRecDepth 20000 in
theorem gs_X1_32 {X : CX} {cc : ByteArray} {d pc : Nat} {lv : List (Nat × Value)} {st : List Value} {h : Hp} (hX : Ok_ X RX1 cc d) (hdg : decode cc pc = .ok (.getstatic 32, 3)) (k : At_ X (pc + 3) lv (.ref 69 :: st) h) : At_ X pc lv st h := at_gets hX (j := 4) rfl (tb_at 691 rfl rfl) hdg k -- FIRST_PARTS
set_option maxRecDepth 20000 in
theorem gs_X1_35 {X : CX} {cc : ByteArray} {d pc : Nat} {lv : List (Nat × Value)} {st : List Value} {h : Hp} (hX : Ok_ X RX1 cc d) (hdg : decode cc pc = .ok (.getstatic 35, 3)) (k : At_ X (pc + 3) lv (.ref 70 :: st) h) : At_ X pc lv st h := at_gets hX (j := 5) rfl (tb_at 693 rfl rfl) hdg k -- SECOND_PARTS
set_option maxRecDepth 20000 in
theorem cv_X1_25 : CN_ RX1 25 M_X6_isKind 1 := ⟨⟨List.mem_of_getElem? (i := 6) rfl, tb_at 286 rfl rfl, tb_at 1 rfl rfl, tb_at 287 rfl rfl⟩, ⟨by decide, by decide, by decide +kernel⟩, by decide⟩
set_option maxRecDepth 20000 in
theorem cv_X1_29 : CV_ RX1 29 1 M_X1_weighNeeds 0 := ⟨⟨tb_at 684 rfl rfl, tb_at 686 rfl rfl, (tb_sel (q := (yX1_weighNeeds, _)) 26 rfl), tb_at 7 rfl rfl, tb_at 687 rfl rfl⟩, ⟨rfl, by decide, by decide, by decide +kernel⟩, by decide, ⟨_, rfl, rfl⟩, by decide, rfl⟩
set_option maxRecDepth 20000 in
theorem cv_X1_38 : CV_ RX1 38 1 M_X1_takeTwo 2 := ⟨⟨tb_at 695 rfl rfl, tb_at 697 rfl rfl, (tb_sel (q := (yX1_takeTwo, _)) 27 rfl), tb_at 7 rfl rfl, tb_at 698 rfl rfl⟩, ⟨rfl, by decide, by decide, by decide +kernel⟩, by decide, ⟨_, rfl, rfl⟩, by decide, rfl⟩
set_option maxRecDepth 20000 in
theorem cv_X1_42 : CV_ RX1 42 2 M_X2_ever 0 := ⟨⟨tb_at 688 rfl rfl, tb_at 312 rfl rfl, (tb_at 313 rfl rfl), tb_at 3 rfl rfl, tb_at 314 rfl rfl⟩, ⟨rfl, by decide, by decide, by decide +kernel⟩, by decide, ⟨_, rfl, rfl⟩, by decide, rfl⟩
set_option maxRecDepth 20000 in
theorem cv_X1_48 : CV_ RX1 48 2 M_X2_told 2 := ⟨⟨tb_at 689 rfl rfl, tb_at 451 rfl rfl, (tb_at 452 rfl rfl), tb_at 3 rfl rfl, tb_at 453 rfl rfl⟩, ⟨rfl, by decide, by decide, by decide +kernel⟩, by decide, ⟨_, rfl, rfl⟩, by decide, rfl⟩
set_option maxRecDepth 20000 in
theorem cv_X1_52 : CV_ RX1 52 2 M_X2_isThere 1 := ⟨⟨tb_at 690 rfl rfl, tb_at 357 rfl rfl, (tb_at 358 rfl rfl), tb_at 3 rfl rfl, tb_at 359 rfl rfl⟩, ⟨rfl, by decide, by decide, by decide +kernel⟩, by decide, ⟨_, rfl, rfl⟩, by decide, rfl⟩
set_option maxRecDepth 20000 in
theorem gf_X2_9 {X : CX} {cc : ByteArray} {d pc : Nat} {lv : List (Nat × Value)} {st : List Value} {h : Hp} (hX : Ok_ X RX2 cc d) (hdg : decode cc pc = .ok (.getfield 9, 3)) (k : At_ X (pc + 3) lv (.ref 12 :: st) h) : At_ X pc lv (.ref 2 :: st) h := at_getf hX (o := 2) (k := 0) (C := RX2) (T := TX2) (N := 13) rfl (by decide) twX2 (tb_at 38 rfl rfl) (2, 12) rfl rfl (by decide) rfl hdg k -- kinds
set_option maxRecDepth 20000 in
theorem gf_X2_15 {X : CX} {cc : ByteArray} {d pc : Nat} {lv : List (Nat × Value)} {st : List Value} {h : Hp} (hX : Ok_ X RX2 cc d) (hdg : decode cc pc = .ok (.getfield 15, 3)) (k : At_ X (pc + 3) lv (.ref 13 :: st) h) : At_ X pc lv (.ref 2 :: st) h := at_getf hX (o := 2) (k := 1) (C := RX2) (T := TX2) (N := 13) rfl (by decide) twX2 (tb_at 39 rfl rfl) (2, 13) rfl rfl (by decide) rfl hdg k -- turns
set_option maxRecDepth 20000 in
theorem gf_X2_18 {X : CX} {cc : ByteArray} {d pc : Nat} {lv : List (Nat × Value)} {st : List Value} {h : Hp} (hX : Ok_ X RX2 cc d) (hdg : decode cc pc = .ok (.getfield 18, 3)) (k : At_ X (pc + 3) lv (.ref 14 :: st) h) : At_ X pc lv (.ref 2 :: st) h := at_getf hX (o := 2) (k := 2) (C := RX2) (T := TX2) (N := 13) rfl (by decide) twX2 (tb_at 40 rfl rfl) (2, 14) rfl rfl (by decide) rfl hdg k -- xs
set_option maxRecDepth 20000 in
theorem gf_X2_21 {X : CX} {cc : ByteArray} {d pc : Nat} {lv : List (Nat × Value)} {st : List Value} {h : Hp} (hX : Ok_ X RX2 cc d) (hdg : decode cc pc = .ok (.getfield 21, 3)) (k : At_ X (pc + 3) lv (.ref 15 :: st) h) : At_ X pc lv (.ref 2 :: st) h := at_getf hX (o := 2) (k := 3) (C := RX2) (T := TX2) (N := 13) rfl (by decide) twX2 (tb_at 41 rfl rfl) (2, 15) rfl rfl (by decide) rfl hdg k -- ys
set_option maxRecDepth 20000 in
theorem gf_X2_24 {X : CX} {cc : ByteArray} {d pc : Nat} {lv : List (Nat × Value)} {st : List Value} {h : Hp} (hX : Ok_ X RX2 cc d) (hdg : decode cc pc = .ok (.getfield 24, 3)) (k : At_ X (pc + 3) lv (.ref 16 :: st) h) : At_ X pc lv (.ref 2 :: st) h := at_getf hX (o := 2) (k := 4) (C := RX2) (T := TX2) (N := 13) rfl (by decide) twX2 (tb_at 42 rfl rfl) (2, 16) rfl rfl (by decide) rfl hdg k -- zs
set_option maxRecDepth 20000 in
theorem gf_X2_27 {X : CX} {cc : ByteArray} {d pc : Nat} {lv : List (Nat × Value)} {st : List Value} {h : Hp} (hX : Ok_ X RX2 cc d) (hdg : decode cc pc = .ok (.getfield 27, 3)) (k : At_ X (pc + 3) lv (.ref 17 :: st) h) : At_ X pc lv (.ref 2 :: st) h := at_getf hX (o := 2) (k := 5) (C := RX2) (T := TX2) (N := 13) rfl (by decide) twX2 (tb_at 43 rfl rfl) (2, 17) rfl rfl (by decide) rfl hdg k -- colours
set_option maxRecDepth 20000 in
theorem gf_X2_30 {X : CX} {cc : ByteArray} {d pc : Nat} {lv : List (Nat × Value)} {st : List Value} {h : Hp} (hX : Ok_ X RX2 cc d) (hdg : decode cc pc = .ok (.getfield 30, 3)) (k : At_ X (pc + 3) lv (.ref 18 :: st) h) : At_ X pc lv (.ref 2 :: st) h := at_getf hX (o := 2) (k := 6) (C := RX2) (T := TX2) (N := 13) rfl (by decide) twX2 (tb_at 44 rfl rfl) (2, 18) rfl rfl (by decide) rfl hdg k -- footprints
set_option maxRecDepth 20000 in
theorem gf_X2_34 {X : CX} {cc : ByteArray} {d pc : Nat} {lv : List (Nat × Value)} {st : List Value} {h : Hp} (hX : Ok_ X RX2 cc d) (hdg : decode cc pc = .ok (.getfield 34, 3)) (k : At_ X (pc + 3) lv (.ref 19 :: st) h) : At_ X pc lv (.ref 2 :: st) h := at_getf hX (o := 2) (k := 7) (C := RX2) (T := TX2) (N := 13) rfl (by decide) twX2 (tb_at 45 rfl rfl) (2, 19) rfl rfl (by decide) rfl hdg k -- neighbours
set_option maxRecDepth 20000 in
theorem gf_X2_37 {X : CX} {cc : ByteArray} {d pc : Nat} {lv : List (Nat × Value)} {st : List Value} {h : Hp} (hX : Ok_ X RX2 cc d) (hdg : decode cc pc = .ok (.getfield 37, 3)) (k : At_ X (pc + 3) lv (.ref 20 :: st) h) : At_ X pc lv (.ref 2 :: st) h := at_getf hX (o := 2) (k := 8) (C := RX2) (T := TX2) (N := 13) rfl (by decide) twX2 (tb_at 46 rfl rfl) (2, 20) rfl rfl (by decide) rfl hdg k -- taken
set_option maxRecDepth 20000 in
theorem gf_X2_40 {X : CX} {cc : ByteArray} {d pc : Nat} {lv : List (Nat × Value)} {st : List Value} {h : Hp} (hX : Ok_ X RX2 cc d) (hdg : decode cc pc = .ok (.getfield 40, 3)) (k : At_ X (pc + 3) lv (.ref 21 :: st) h) : At_ X pc lv (.ref 2 :: st) h := at_getf hX (o := 2) (k := 9) (C := RX2) (T := TX2) (N := 13) rfl (by decide) twX2 (tb_at 47 rfl rfl) (2, 21) rfl rfl (by decide) rfl hdg k -- numbers
set_option maxRecDepth 20000 in
theorem gf_X2_60 {X : CX} {cc : ByteArray} {d pc : Nat} {lv : List (Nat × Value)} {st : List Value} {h : Hp} (hX : Ok_ X RX2 cc d) (hdg : decode cc pc = .ok (.getfield 60, 3)) (k : At_ X (pc + 3) lv (.int (gI_ h 138) :: st) h) : At_ X pc lv (.ref 2 :: st) h := at_getf hX (o := 2) (k := 10) (C := RX2) (T := TX2) (N := 13) rfl (by decide) twX2 (tb_at 48 rfl rfl) (0, 138) rfl rfl (by decide) rfl hdg k -- ever
set_option maxRecDepth 20000 in
theorem gf_X2_64 {X : CX} {cc : ByteArray} {d pc : Nat} {lv : List (Nat × Value)} {st : List Value} {h : Hp} (hX : Ok_ X RX2 cc d) (hdg : decode cc pc = .ok (.getfield 64, 3)) (k : At_ X (pc + 3) lv (.long (gJ_ h 139) :: st) h) : At_ X pc lv (.ref 2 :: st) h := at_getf hX (o := 2) (k := 11) (C := RX2) (T := TX2) (N := 13) rfl (by decide) twX2 (tb_at 49 rfl rfl) (1, 139) rfl rfl (by decide) rfl hdg k -- there
set_option maxRecDepth 20000 in
theorem gf_X2_68 {X : CX} {cc : ByteArray} {d pc : Nat} {lv : List (Nat × Value)} {st : List Value} {h : Hp} (hX : Ok_ X RX2 cc d) (hdg : decode cc pc = .ok (.getfield 68, 3)) (k : At_ X (pc + 3) lv (.long (gJ_ h 140) :: st) h) : At_ X pc lv (.ref 2 :: st) h := at_getf hX (o := 2) (k := 12) (C := RX2) (T := TX2) (N := 13) rfl (by decide) twX2 (tb_at 50 rfl rfl) (1, 140) rfl rfl (by decide) rfl hdg k -- ground
set_option maxRecDepth 20000 in
theorem gs_X2_47 {X : CX} {cc : ByteArray} {d pc : Nat} {lv : List (Nat × Value)} {st : List Value} {h : Hp} (hX : Ok_ X RX2 cc d) (hdg : decode cc pc = .ok (.getstatic 47, 3)) (k : At_ X (pc + 3) lv (.ref 65 :: st) h) : At_ X pc lv st h := at_gets hX (j := 0) rfl (tb_at 295 rfl rfl) hdg k -- LENGTHS
set_option maxRecDepth 20000 in
theorem gs_X2_50 {X : CX} {cc : ByteArray} {d pc : Nat} {lv : List (Nat × Value)} {st : List Value} {h : Hp} (hX : Ok_ X RX2 cc d) (hdg : decode cc pc = .ok (.getstatic 50, 3)) (k : At_ X (pc + 3) lv (.ref 66 :: st) h) : At_ X pc lv st h := at_gets hX (j := 1) rfl (tb_at 297 rfl rfl) hdg k -- WIDTHS
set_option maxRecDepth 20000 in
theorem cv_X2_43 : CN_ RX2 43 M_X6_isKind 1 := ⟨⟨List.mem_of_getElem? (i := 2) rfl, tb_at 286 rfl rfl, tb_at 1 rfl rfl, tb_at 287 rfl rfl⟩, ⟨by decide, by decide, by decide +kernel⟩, by decide⟩
set_option maxRecDepth 20000 in
theorem cv_X2_53 : CS_ RX2 53 M_X2_alongX 2 := ⟨⟨tb_at 302 rfl rfl, tb_at 292 rfl rfl, tb_at 3 rfl rfl, tb_at 293 rfl rfl⟩, ⟨by decide, by decide, by decide +kernel⟩, by decide⟩
set_option maxRecDepth 20000 in
theorem cv_X2_57 : CS_ RX2 57 M_X2_alongY 2 := ⟨⟨tb_at 306 rfl rfl, tb_at 300 rfl rfl, tb_at 3 rfl rfl, tb_at 301 rfl rfl⟩, ⟨by decide, by decide, by decide +kernel⟩, by decide⟩
set_option maxRecDepth 20000 in
theorem cv_X2_71 : CS_ RX2 71 M_J13_bitCount_95d88 1 := ⟨⟨tb_at 341 rfl rfl, tb_at 342 rfl rfl, tb_at 10 rfl rfl, tb_at 343 rfl rfl⟩, ⟨by decide, by decide, by decide +kernel⟩, by decide⟩
set_option maxRecDepth 20000 in
theorem cv_X2_80 : CN_ RX2 80 M_X6_isPlace 3 := ⟨⟨List.mem_of_getElem? (i := 3) rfl, tb_at 234 rfl rfl, tb_at 1 rfl rfl, tb_at 235 rfl rfl⟩, ⟨by decide, by decide, by decide +kernel⟩, by decide⟩
set_option maxRecDepth 20000 in
theorem cv_X2_84 : CS_ RX2 84 M_X2_footprint 4 := ⟨⟨tb_at 320 rfl rfl, tb_at 304 rfl rfl, tb_at 3 rfl rfl, tb_at 305 rfl rfl⟩, ⟨by decide, by decide, by decide +kernel⟩, by decide⟩
set_option maxRecDepth 20000 in
theorem cv_X2_101 : CN_ RX2 101 M_X6_indexOf 3 := ⟨⟨List.mem_of_getElem? (i := 4) rfl, tb_at 258 rfl rfl, tb_at 1 rfl rfl, tb_at 259 rfl rfl⟩, ⟨by decide, by decide, by decide +kernel⟩, by decide⟩
set_option maxRecDepth 20000 in
theorem cv_X2_108 : CM_ RX2 108 Lib.Math.abs.name Lib.Math.abs.code 1 := ⟨tb_at 338 rfl rfl, tb_at 339 rfl rfl, tb_at 9 rfl rfl, tb_at 340 rfl rfl⟩
set_option maxRecDepth 20000 in
theorem cv_X2_117 : CS_ RX2 117 M_X2_areTwo 2 := ⟨⟨tb_at 548 rfl rfl, tb_at 549 rfl rfl, tb_at 3 rfl rfl, tb_at 550 rfl rfl⟩, ⟨by decide, by decide, by decide +kernel⟩, by decide⟩
set_option maxRecDepth 20000 in
theorem cv_X2_77 : CV_ RX2 77 2 M_X2_exists 1 := ⟨⟨tb_at 334 rfl rfl, tb_at 335 rfl rfl, (tb_at 336 rfl rfl), tb_at 3 rfl rfl, tb_at 337 rfl rfl⟩, ⟨rfl, by decide, by decide, by decide +kernel⟩, by decide, ⟨_, rfl, rfl⟩, by decide, rfl⟩
set_option maxRecDepth 20000 in
theorem cv_X2_88 : CV_ RX2 88 2 M_X2_writeNumbers 2 := ⟨⟨tb_at 321 rfl rfl, tb_at 323 rfl rfl, (tb_sel (q := (yX2_writeNumbers, _)) 2 rfl), tb_at 3 rfl rfl, tb_at 324 rfl rfl⟩, ⟨rfl, by decide, by decide, by decide +kernel⟩, by decide, ⟨_, rfl, rfl⟩, by decide, rfl⟩
set_option maxRecDepth 20000 in
theorem cv_X2_92 : CV_ RX2 92 2 M_X2_join 1 := ⟨⟨tb_at 326 rfl rfl, tb_at 328 rfl rfl, (tb_sel (q := (yX2_join, _)) 3 rfl), tb_at 3 rfl rfl, tb_at 329 rfl rfl⟩, ⟨rfl, by decide, by decide, by decide +kernel⟩, by decide, ⟨_, rfl, rfl⟩, by decide, rfl⟩
set_option maxRecDepth 20000 in
theorem cv_X2_96 : CV_ RX2 96 2 M_X2_isThere 1 := ⟨⟨tb_at 364 rfl rfl, tb_at 357 rfl rfl, (tb_at 358 rfl rfl), tb_at 3 rfl rfl, tb_at 359 rfl rfl⟩, ⟨rfl, by decide, by decide, by decide +kernel⟩, by decide, ⟨_, rfl, rfl⟩, by decide, rfl⟩
set_option maxRecDepth 20000 in
theorem cv_X2_105 : CV_ RX2 105 2 M_X2_sharedStuds 2 := ⟨⟨tb_at 330 rfl rfl, tb_at 331 rfl rfl, (tb_at 332 rfl rfl), tb_at 3 rfl rfl, tb_at 333 rfl rfl⟩, ⟨rfl, by decide, by decide, by decide +kernel⟩, by decide, ⟨_, rfl, rfl⟩, by decide, rfl⟩
set_option maxRecDepth 20000 in
theorem cv_X2_114 : CV_ RX2 114 2 M_X2_brickAt 3 := ⟨⟨tb_at 547 rfl rfl, tb_at 371 rfl rfl, (tb_at 372 rfl rfl), tb_at 3 rfl rfl, tb_at 373 rfl rfl⟩, ⟨rfl, by decide, by decide, by decide +kernel⟩, by decide, ⟨_, rfl, rfl⟩, by decide, rfl⟩
set_option maxRecDepth 20000 in
theorem cv_X2_121 : CV_ RX2 121 2 M_X2_isSeamRight 3 := ⟨⟨tb_at 543 rfl rfl, tb_at 544 rfl rfl, (tb_at 545 rfl rfl), tb_at 3 rfl rfl, tb_at 546 rfl rfl⟩, ⟨rfl, by decide, by decide, by decide +kernel⟩, by decide, ⟨_, rfl, rfl⟩, by decide, rfl⟩
set_option maxRecDepth 20000 in
theorem cv_X2_124 : CV_ RX2 124 2 M_X2_isSeamBehind 3 := ⟨⟨tb_at 551 rfl rfl, tb_at 552 rfl rfl, (tb_at 553 rfl rfl), tb_at 3 rfl rfl, tb_at 554 rfl rfl⟩, ⟨rfl, by decide, by decide, by decide +kernel⟩, by decide, ⟨_, rfl, rfl⟩, by decide, rfl⟩
set_option maxRecDepth 20000 in
theorem cv_X2_127 : CV_ RX2 127 2 M_X2_onLine 4 := ⟨⟨tb_at 749 rfl rfl, tb_at 751 rfl rfl, (tb_sel (q := (yX2_onLine, _)) 30 rfl), tb_at 3 rfl rfl, tb_at 752 rfl rfl⟩, ⟨rfl, by decide, by decide, by decide +kernel⟩, by decide, ⟨_, rfl, rfl⟩, by decide, rfl⟩
set_option maxRecDepth 20000 in
theorem cv_X2_131 : CV_ RX2 131 2 M_X2_colourOf 1 := ⟨⟨tb_at 753 rfl rfl, tb_at 531 rfl rfl, (tb_at 532 rfl rfl), tb_at 3 rfl rfl, tb_at 533 rfl rfl⟩, ⟨rfl, by decide, by decide, by decide +kernel⟩, by decide, ⟨_, rfl, rfl⟩, by decide, rfl⟩
set_option maxRecDepth 20000 in
theorem wk_X2_99 : Cond.constantLong RX2 99 (-1) ∈ Tb := tb_at 365 rfl rfl
set_option maxRecDepth 20000 in
theorem pf_X2_60 {X : CX} {cc : ByteArray} {d pc : Nat} {lv : List (Nat × Value)} {st : List Value} {h : Hp} {v : Int32} (hX : Ok_ X RX2 cc d) (hdg : decode cc pc = .ok (.putfield 60, 3)) (k : At_ X (pc + 3) lv st (sI_ h 138 v)) : At_ X pc lv (.int v :: .ref 2 :: st) h := at_putI hX (o := 2) (k := 10) (C := RX2) (T := TX2) (N := 13) (ty := .int) rfl (by decide) twX2 (tb_at 48 rfl rfl) tyX2 tyX2_ok nmX2 rfl (by decide +kernel) rfl rfl (by decide) rfl (by decide) (by decide) (by decide) rfl hdg k -- ever
set_option maxRecDepth 20000 in
theorem pf_X2_64 {X : CX} {cc : ByteArray} {d pc : Nat} {lv : List (Nat × Value)} {st : List Value} {h : Hp} {v : Int64} (hX : Ok_ X RX2 cc d) (hdg : decode cc pc = .ok (.putfield 64, 3)) (k : At_ X (pc + 3) lv st (sJ_ h 139 v)) : At_ X pc lv (.long v :: .ref 2 :: st) h := at_putJ hX (o := 2) (k := 11) (C := RX2) (T := TX2) (N := 13) (ty := .long) rfl (by decide) twX2 (tb_at 49 rfl rfl) tyX2 tyX2_ok nmX2 rfl (by decide +kernel) rfl rfl (by decide) rfl (by decide) (by decide) (by decide) rfl hdg k -- there
set_option maxRecDepth 20000 in
theorem pf_X2_68 {X : CX} {cc : ByteArray} {d pc : Nat} {lv : List (Nat × Value)} {st : List Value} {h : Hp} {v : Int64} (hX : Ok_ X RX2 cc d) (hdg : decode cc pc = .ok (.putfield 68, 3)) (k : At_ X (pc + 3) lv st (sJ_ h 140 v)) : At_ X pc lv (.long v :: .ref 2 :: st) h := at_putJ hX (o := 2) (k := 12) (C := RX2) (T := TX2) (N := 13) (ty := .long) rfl (by decide) twX2 (tb_at 50 rfl rfl) tyX2 tyX2_ok nmX2 rfl (by decide +kernel) rfl rfl (by decide) rfl (by decide) (by decide) (by decide) rfl hdg k -- ground
set_option maxRecDepth 20000 in
theorem gf_X3_11 {X : CX} {cc : ByteArray} {d pc : Nat} {lv : List (Nat × Value)} {st : List Value} {h : Hp} (hX : Ok_ X RX3 cc d) (hdg : decode cc pc = .ok (.getfield 11, 3)) (k : At_ X (pc + 3) lv (.ref 22 :: st) h) : At_ X pc lv (.ref 3 :: st) h := at_getf hX (o := 3) (k := 2) (C := RX3) (T := TX3) (N := 16) rfl (by decide) twX3 (tb_at 106 rfl rfl) (2, 22) rfl rfl (by decide) rfl hdg k -- spots
set_option maxRecDepth 20000 in
theorem gf_X3_15 {X : CX} {cc : ByteArray} {d pc : Nat} {lv : List (Nat × Value)} {st : List Value} {h : Hp} (hX : Ok_ X RX3 cc d) (hdg : decode cc pc = .ok (.getfield 15, 3)) (k : At_ X (pc + 3) lv (.ref 23 :: st) h) : At_ X pc lv (.ref 3 :: st) h := at_getf hX (o := 3) (k := 3) (C := RX3) (T := TX3) (N := 16) rfl (by decide) twX3 (tb_at 107 rfl rfl) (2, 23) rfl rfl (by decide) rfl hdg k -- numberOfSpot
set_option maxRecDepth 20000 in
theorem gf_X3_18 {X : CX} {cc : ByteArray} {d pc : Nat} {lv : List (Nat × Value)} {st : List Value} {h : Hp} (hX : Ok_ X RX3 cc d) (hdg : decode cc pc = .ok (.getfield 18, 3)) (k : At_ X (pc + 3) lv (.ref 24 :: st) h) : At_ X pc lv (.ref 3 :: st) h := at_getf hX (o := 3) (k := 4) (C := RX3) (T := TX3) (N := 16) rfl (by decide) twX3 (tb_at 108 rfl rfl) (2, 24) rfl rfl (by decide) rfl hdg k -- rightWeights
set_option maxRecDepth 20000 in
theorem gf_X3_21 {X : CX} {cc : ByteArray} {d pc : Nat} {lv : List (Nat × Value)} {st : List Value} {h : Hp} (hX : Ok_ X RX3 cc d) (hdg : decode cc pc = .ok (.getfield 21, 3)) (k : At_ X (pc + 3) lv (.ref 25 :: st) h) : At_ X pc lv (.ref 3 :: st) h := at_getf hX (o := 3) (k := 5) (C := RX3) (T := TX3) (N := 16) rfl (by decide) twX3 (tb_at 109 rfl rfl) (2, 25) rfl rfl (by decide) rfl hdg k -- behindWeights
set_option maxRecDepth 20000 in
theorem gf_X3_24 {X : CX} {cc : ByteArray} {d pc : Nat} {lv : List (Nat × Value)} {st : List Value} {h : Hp} (hX : Ok_ X RX3 cc d) (hdg : decode cc pc = .ok (.getfield 24, 3)) (k : At_ X (pc + 3) lv (.ref 26 :: st) h) : At_ X pc lv (.ref 3 :: st) h := at_getf hX (o := 3) (k := 6) (C := RX3) (T := TX3) (N := 16) rfl (by decide) twX3 (tb_at 110 rfl rfl) (2, 26) rfl rfl (by decide) rfl hdg k -- fits
set_option maxRecDepth 20000 in
theorem gf_X3_27 {X : CX} {cc : ByteArray} {d pc : Nat} {lv : List (Nat × Value)} {st : List Value} {h : Hp} (hX : Ok_ X RX3 cc d) (hdg : decode cc pc = .ok (.getfield 27, 3)) (k : At_ X (pc + 3) lv (.ref 27 :: st) h) : At_ X pc lv (.ref 3 :: st) h := at_getf hX (o := 3) (k := 7) (C := RX3) (T := TX3) (N := 16) rfl (by decide) twX3 (tb_at 111 rfl rfl) (2, 27) rfl rfl (by decide) rfl hdg k -- spares
set_option maxRecDepth 20000 in
theorem gf_X3_30 {X : CX} {cc : ByteArray} {d pc : Nat} {lv : List (Nat × Value)} {st : List Value} {h : Hp} (hX : Ok_ X RX3 cc d) (hdg : decode cc pc = .ok (.getfield 30, 3)) (k : At_ X (pc + 3) lv (.ref 28 :: st) h) : At_ X pc lv (.ref 3 :: st) h := at_getf hX (o := 3) (k := 8) (C := RX3) (T := TX3) (N := 16) rfl (by decide) twX3 (tb_at 112 rfl rfl) (2, 28) rfl rfl (by decide) rfl hdg k -- keys
set_option maxRecDepth 20000 in
theorem gf_X3_33 {X : CX} {cc : ByteArray} {d pc : Nat} {lv : List (Nat × Value)} {st : List Value} {h : Hp} (hX : Ok_ X RX3 cc d) (hdg : decode cc pc = .ok (.getfield 33, 3)) (k : At_ X (pc + 3) lv (.ref 29 :: st) h) : At_ X pc lv (.ref 3 :: st) h := at_getf hX (o := 3) (k := 9) (C := RX3) (T := TX3) (N := 16) rfl (by decide) twX3 (tb_at 113 rfl rfl) (2, 29) rfl rfl (by decide) rfl hdg k -- costs
set_option maxRecDepth 20000 in
theorem gf_X3_36 {X : CX} {cc : ByteArray} {d pc : Nat} {lv : List (Nat × Value)} {st : List Value} {h : Hp} (hX : Ok_ X RX3 cc d) (hdg : decode cc pc = .ok (.getfield 36, 3)) (k : At_ X (pc + 3) lv (.ref 30 :: st) h) : At_ X pc lv (.ref 3 :: st) h := at_getf hX (o := 3) (k := 10) (C := RX3) (T := TX3) (N := 16) rfl (by decide) twX3 (tb_at 114 rfl rfl) (2, 30) rfl rfl (by decide) rfl hdg k -- told
set_option maxRecDepth 20000 in
theorem gf_X3_39 {X : CX} {cc : ByteArray} {d pc : Nat} {lv : List (Nat × Value)} {st : List Value} {h : Hp} (hX : Ok_ X RX3 cc d) (hdg : decode cc pc = .ok (.getfield 39, 3)) (k : At_ X (pc + 3) lv (.ref 0 :: st) h) : At_ X pc lv (.ref 3 :: st) h := at_getf hX (o := 3) (k := 0) (C := RX3) (T := TX3) (N := 16) rfl (by decide) twX3 (tb_at 104 rfl rfl) (2, 0) rfl rfl (by decide) rfl hdg k -- body
set_option maxRecDepth 20000 in
theorem gf_X3_43 {X : CX} {cc : ByteArray} {d pc : Nat} {lv : List (Nat × Value)} {st : List Value} {h : Hp} (hX : Ok_ X RX3 cc d) (hdg : decode cc pc = .ok (.getfield 43, 3)) (k : At_ X (pc + 3) lv (.ref 2 :: st) h) : At_ X pc lv (.ref 3 :: st) h := at_getf hX (o := 3) (k := 1) (C := RX3) (T := TX3) (N := 16) rfl (by decide) twX3 (tb_at 105 rfl rfl) (2, 2) rfl rfl (by decide) rfl hdg k -- bricks
set_option maxRecDepth 20000 in
theorem gf_X3_47 {X : CX} {cc : ByteArray} {d pc : Nat} {lv : List (Nat × Value)} {st : List Value} {h : Hp} (hX : Ok_ X RX3 cc d) (hdg : decode cc pc = .ok (.getfield 47, 3)) (k : At_ X (pc + 3) lv (.int (gI_ h 206) :: st) h) : At_ X pc lv (.ref 3 :: st) h := at_getf hX (o := 3) (k := 14) (C := RX3) (T := TX3) (N := 16) rfl (by decide) twX3 (tb_at 118 rfl rfl) (0, 206) rfl rfl (by decide) rfl hdg k -- colour
set_option maxRecDepth 20000 in
theorem gf_X3_51 {X : CX} {cc : ByteArray} {d pc : Nat} {lv : List (Nat × Value)} {st : List Value} {h : Hp} (hX : Ok_ X RX3 cc d) (hdg : decode cc pc = .ok (.getfield 51, 3)) (k : At_ X (pc + 3) lv (.int (gI_ h 204) :: st) h) : At_ X pc lv (.ref 3 :: st) h := at_getf hX (o := 3) (k := 12) (C := RX3) (T := TX3) (N := 16) rfl (by decide) twX3 (tb_at 116 rfl rfl) (0, 204) rfl rfl (by decide) rfl hdg k -- length
set_option maxRecDepth 20000 in
theorem gf_X3_54 {X : CX} {cc : ByteArray} {d pc : Nat} {lv : List (Nat × Value)} {st : List Value} {h : Hp} (hX : Ok_ X RX3 cc d) (hdg : decode cc pc = .ok (.getfield 54, 3)) (k : At_ X (pc + 3) lv (.int (gI_ h 205) :: st) h) : At_ X pc lv (.ref 3 :: st) h := at_getf hX (o := 3) (k := 13) (C := RX3) (T := TX3) (N := 16) rfl (by decide) twX3 (tb_at 117 rfl rfl) (0, 205) rfl rfl (by decide) rfl hdg k -- newSeams
set_option maxRecDepth 20000 in
theorem gf_X3_57 {X : CX} {cc : ByteArray} {d pc : Nat} {lv : List (Nat × Value)} {st : List Value} {h : Hp} (hX : Ok_ X RX3 cc d) (hdg : decode cc pc = .ok (.getfield 57, 3)) (k : At_ X (pc + 3) lv (.int (gI_ h 207) :: st) h) : At_ X pc lv (.ref 3 :: st) h := at_getf hX (o := 3) (k := 15) (C := RX3) (T := TX3) (N := 16) rfl (by decide) twX3 (tb_at 119 rfl rfl) (0, 207) rfl rfl (by decide) rfl hdg k -- layer
set_option maxRecDepth 20000 in
theorem gf_X3_63 {X : CX} {cc : ByteArray} {d pc : Nat} {lv : List (Nat × Value)} {st : List Value} {h : Hp} (hX : Ok_ X RX3 cc d) (hdg : decode cc pc = .ok (.getfield 63, 3)) (k : At_ X (pc + 3) lv (.int (gI_ h 203) :: st) h) : At_ X pc lv (.ref 3 :: st) h := at_getf hX (o := 3) (k := 11) (C := RX3) (T := TX3) (N := 16) rfl (by decide) twX3 (tb_at 115 rfl rfl) (0, 203) rfl rfl (by decide) rfl hdg k -- cells
set_option maxRecDepth 20000 in
theorem gs_X3_103 {X : CX} {cc : ByteArray} {d pc : Nat} {lv : List (Nat × Value)} {st : List Value} {h : Hp} (hX : Ok_ X RX3 cc d) (hdg : decode cc pc = .ok (.getstatic 103, 3)) (k : At_ X (pc + 3) lv (.ref 67 :: st) h) : At_ X pc lv st h := at_gets hX (j := 2) rfl (tb_at 587 rfl rfl) hdg k -- SHAPE_KINDS
set_option maxRecDepth 20000 in
theorem gs_X3_106 {X : CX} {cc : ByteArray} {d pc : Nat} {lv : List (Nat × Value)} {st : List Value} {h : Hp} (hX : Ok_ X RX3 cc d) (hdg : decode cc pc = .ok (.getstatic 106, 3)) (k : At_ X (pc + 3) lv (.ref 68 :: st) h) : At_ X pc lv st h := at_gets hX (j := 3) rfl (tb_at 589 rfl rfl) hdg k -- SHAPE_TURNS
set_option maxRecDepth 20000 in
theorem cv_X3_72 : CS_ RX3 72 M_J7_fill_53178 2 := ⟨⟨tb_at 597 rfl rfl, tb_at 447 rfl rfl, tb_at 11 rfl rfl, tb_at 448 rfl rfl⟩, ⟨by decide, by decide, by decide +kernel⟩, by decide⟩
set_option maxRecDepth 20000 in
theorem cv_X3_109 : CS_ RX3 109 M_X2_alongX 2 := ⟨⟨tb_at 591 rfl rfl, tb_at 292 rfl rfl, tb_at 3 rfl rfl, tb_at 293 rfl rfl⟩, ⟨by decide, by decide, by decide +kernel⟩, by decide⟩
set_option maxRecDepth 20000 in
theorem cv_X3_113 : CS_ RX3 113 M_X2_alongY 2 := ⟨⟨tb_at 592 rfl rfl, tb_at 300 rfl rfl, tb_at 3 rfl rfl, tb_at 301 rfl rfl⟩, ⟨by decide, by decide, by decide +kernel⟩, by decide⟩
set_option maxRecDepth 20000 in
theorem cv_X3_137 : CS_ RX3 137 M_J6_bitCount_0f7a4 1 := ⟨⟨tb_at 610 rfl rfl, tb_at 611 rfl rfl, tb_at 12 rfl rfl, tb_at 612 rfl rfl⟩, ⟨by decide, by decide, by decide +kernel⟩, by decide⟩
set_option maxRecDepth 20000 in
theorem cv_X3_146 : CM_ RX3 146 Lib.Math.min.name Lib.Math.min.code 2 := ⟨tb_at 630 rfl rfl, tb_at 461 rfl rfl, tb_at 9 rfl rfl, tb_at 462 rfl rfl⟩
set_option maxRecDepth 20000 in
theorem cv_X3_60 : CV_ RX3 60 3 M_X3_collectCells 0 := ⟨⟨tb_at 567 rfl rfl, tb_at 569 rfl rfl, (tb_sel (q := (yX3_collectCells, _)) 12 rfl), tb_at 5 rfl rfl, tb_at 570 rfl rfl⟩, ⟨rfl, by decide, by decide, by decide +kernel⟩, by decide, ⟨_, rfl, rfl⟩, by decide, rfl⟩
set_option maxRecDepth 20000 in
theorem cv_X3_66 : CV_ RX3 66 3 M_X3_weighPairs 0 := ⟨⟨tb_at 573 rfl rfl, tb_at 575 rfl rfl, (tb_sel (q := (yX3_weighPairs, _)) 13 rfl), tb_at 5 rfl rfl, tb_at 576 rfl rfl⟩, ⟨rfl, by decide, by decide, by decide +kernel⟩, by decide, ⟨_, rfl, rfl⟩, by decide, rfl⟩
set_option maxRecDepth 20000 in
theorem cv_X3_69 : CV_ RX3 69 3 M_X3_findFits 0 := ⟨⟨tb_at 579 rfl rfl, tb_at 581 rfl rfl, (tb_sel (q := (yX3_findFits, _)) 14 rfl), tb_at 5 rfl rfl, tb_at 582 rfl rfl⟩, ⟨rfl, by decide, by decide, by decide +kernel⟩, by decide, ⟨_, rfl, rfl⟩, by decide, rfl⟩
set_option maxRecDepth 20000 in
theorem cv_X3_78 : CV_ RX3 78 3 M_X3_tell 0 := ⟨⟨tb_at 598 rfl rfl, tb_at 600 rfl rfl, (tb_sel (q := (yX3_tell, _)) 17 rfl), tb_at 5 rfl rfl, tb_at 601 rfl rfl⟩, ⟨rfl, by decide, by decide, by decide +kernel⟩, by decide, ⟨_, rfl, rfl⟩, by decide, rfl⟩
set_option maxRecDepth 20000 in
theorem cv_X3_81 : CV_ RX3 81 0 M_X0_colourAt 3 := ⟨⟨tb_at 571 rfl rfl, tb_at 265 rfl rfl, (tb_at 266 rfl rfl), tb_at 2 rfl rfl, tb_at 267 rfl rfl⟩, ⟨rfl, by decide, by decide, by decide +kernel⟩, by decide, ⟨_, rfl, rfl⟩, by decide, rfl⟩
set_option maxRecDepth 20000 in
theorem cv_X3_87 : CV_ RX3 87 2 M_X2_brickAt 3 := ⟨⟨tb_at 572 rfl rfl, tb_at 371 rfl rfl, (tb_at 372 rfl rfl), tb_at 3 rfl rfl, tb_at 373 rfl rfl⟩, ⟨rfl, by decide, by decide, by decide +kernel⟩, by decide, ⟨_, rfl, rfl⟩, by decide, rfl⟩
set_option maxRecDepth 20000 in
theorem cv_X3_92 : CV_ RX3 92 2 M_X2_isSeamRight 3 := ⟨⟨tb_at 577 rfl rfl, tb_at 544 rfl rfl, (tb_at 545 rfl rfl), tb_at 3 rfl rfl, tb_at 546 rfl rfl⟩, ⟨rfl, by decide, by decide, by decide +kernel⟩, by decide, ⟨_, rfl, rfl⟩, by decide, rfl⟩
set_option maxRecDepth 20000 in
theorem cv_X3_96 : CV_ RX3 96 2 M_X2_isSeamBehind 3 := ⟨⟨tb_at 578 rfl rfl, tb_at 552 rfl rfl, (tb_at 553 rfl rfl), tb_at 3 rfl rfl, tb_at 554 rfl rfl⟩, ⟨rfl, by decide, by decide, by decide +kernel⟩, by decide, ⟨_, rfl, rfl⟩, by decide, rfl⟩
set_option maxRecDepth 20000 in
theorem cv_X3_99 : CV_ RX3 99 3 M_X3_findFit 2 := ⟨⟨tb_at 583 rfl rfl, tb_at 585 rfl rfl, (tb_sel (q := (yX3_findFit, _)) 15 rfl), tb_at 5 rfl rfl, tb_at 586 rfl rfl⟩, ⟨rfl, by decide, by decide, by decide +kernel⟩, by decide, ⟨_, rfl, rfl⟩, by decide, rfl⟩
set_option maxRecDepth 20000 in
theorem cv_X3_116 : CV_ RX3 116 3 M_X3_numberAt 2 := ⟨⟨tb_at 593 rfl rfl, tb_at 595 rfl rfl, (tb_sel (q := (yX3_numberAt, _)) 16 rfl), tb_at 5 rfl rfl, tb_at 596 rfl rfl⟩, ⟨rfl, by decide, by decide, by decide +kernel⟩, by decide, ⟨_, rfl, rfl⟩, by decide, rfl⟩
set_option maxRecDepth 20000 in
theorem cv_X3_119 : CV_ RX3 119 3 M_X3_bestWay 1 := ⟨⟨tb_at 602 rfl rfl, tb_at 604 rfl rfl, (tb_sel (q := (yX3_bestWay, _)) 18 rfl), tb_at 5 rfl rfl, tb_at 605 rfl rfl⟩, ⟨rfl, by decide, by decide, by decide +kernel⟩, by decide, ⟨_, rfl, rfl⟩, by decide, rfl⟩
set_option maxRecDepth 20000 in
theorem cv_X3_123 : CV_ RX3 123 3 M_X3_seamsOfSingles 0 := ⟨⟨tb_at 635 rfl rfl, tb_at 637 rfl rfl, (tb_sel (q := (yX3_seamsOfSingles, _)) 24 rfl), tb_at 5 rfl rfl, tb_at 638 rfl rfl⟩, ⟨rfl, by decide, by decide, by decide +kernel⟩, by decide, ⟨_, rfl, rfl⟩, by decide, rfl⟩
set_option maxRecDepth 20000 in
theorem cv_X3_127 : CV_ RX3 127 3 M_X3_firstFree 1 := ⟨⟨tb_at 606 rfl rfl, tb_at 608 rfl rfl, (tb_sel (q := (yX3_firstFree, _)) 19 rfl), tb_at 5 rfl rfl, tb_at 609 rfl rfl⟩, ⟨rfl, by decide, by decide, by decide +kernel⟩, by decide, ⟨_, rfl, rfl⟩, by decide, rfl⟩
set_option maxRecDepth 20000 in
theorem cv_X3_130 : CV_ RX3 130 3 M_X3_cheapest 2 := ⟨⟨tb_at 616 rfl rfl, tb_at 618 rfl rfl, (tb_sel (q := (yX3_cheapest, _)) 20 rfl), tb_at 5 rfl rfl, tb_at 619 rfl rfl⟩, ⟨rfl, by decide, by decide, by decide +kernel⟩, by decide, ⟨_, rfl, rfl⟩, by decide, rfl⟩
set_option maxRecDepth 20000 in
theorem cv_X3_133 : CV_ RX3 133 3 M_X3_isFree 2 := ⟨⟨tb_at 626 rfl rfl, tb_at 628 rfl rfl, (tb_sel (q := (yX3_isFree, _)) 22 rfl), tb_at 5 rfl rfl, tb_at 629 rfl rfl⟩, ⟨rfl, by decide, by decide, by decide +kernel⟩, by decide, ⟨_, rfl, rfl⟩, by decide, rfl⟩
set_option maxRecDepth 20000 in
theorem cv_X3_143 : CV_ RX3 143 3 M_X3_slotOf 1 := ⟨⟨tb_at 621 rfl rfl, tb_at 623 rfl rfl, (tb_sel (q := (yX3_slotOf, _)) 21 rfl), tb_at 5 rfl rfl, tb_at 624 rfl rfl⟩, ⟨rfl, by decide, by decide, by decide +kernel⟩, by decide, ⟨_, rfl, rfl⟩, by decide, rfl⟩
set_option maxRecDepth 20000 in
theorem cv_X3_151 : CV_ RX3 151 3 M_X3_keep 2 := ⟨⟨tb_at 631 rfl rfl, tb_at 633 rfl rfl, (tb_sel (q := (yX3_keep, _)) 23 rfl), tb_at 5 rfl rfl, tb_at 634 rfl rfl⟩, ⟨rfl, by decide, by decide, by decide +kernel⟩, by decide, ⟨_, rfl, rfl⟩, by decide, rfl⟩
set_option maxRecDepth 20000 in
theorem cv_X3_155 : CV_ RX3 155 3 M_X3_isNewPair 4 := ⟨⟨tb_at 639 rfl rfl, tb_at 641 rfl rfl, (tb_sel (q := (yX3_isNewPair, _)) 25 rfl), tb_at 5 rfl rfl, tb_at 642 rfl rfl⟩, ⟨rfl, by decide, by decide, by decide +kernel⟩, by decide, ⟨_, rfl, rfl⟩, by decide, rfl⟩
set_option maxRecDepth 20000 in
theorem wk_X3_142 : Cond.constant RX3 142 (1000000) ∈ Tb := tb_at 620 rfl rfl
set_option maxRecDepth 20000 in
theorem wk_X3_154 : Cond.constant RX3 154 (-1640531535) ∈ Tb := tb_at 625 rfl rfl
set_option maxRecDepth 20000 in
theorem pf_X3_47 {X : CX} {cc : ByteArray} {d pc : Nat} {lv : List (Nat × Value)} {st : List Value} {h : Hp} {v : Int32} (hX : Ok_ X RX3 cc d) (hdg : decode cc pc = .ok (.putfield 47, 3)) (k : At_ X (pc + 3) lv st (sI_ h 206 v)) : At_ X pc lv (.int v :: .ref 3 :: st) h := at_putI hX (o := 3) (k := 14) (C := RX3) (T := TX3) (N := 16) (ty := .int) rfl (by decide) twX3 (tb_at 118 rfl rfl) tyX3 tyX3_ok nmX3 rfl (by decide +kernel) rfl rfl (by decide) rfl (by decide) (by decide) (by decide) rfl hdg k -- colour
set_option maxRecDepth 20000 in
theorem pf_X3_51 {X : CX} {cc : ByteArray} {d pc : Nat} {lv : List (Nat × Value)} {st : List Value} {h : Hp} {v : Int32} (hX : Ok_ X RX3 cc d) (hdg : decode cc pc = .ok (.putfield 51, 3)) (k : At_ X (pc + 3) lv st (sI_ h 204 v)) : At_ X pc lv (.int v :: .ref 3 :: st) h := at_putI hX (o := 3) (k := 12) (C := RX3) (T := TX3) (N := 16) (ty := .int) rfl (by decide) twX3 (tb_at 116 rfl rfl) tyX3 tyX3_ok nmX3 rfl (by decide +kernel) rfl rfl (by decide) rfl (by decide) (by decide) (by decide) rfl hdg k -- length
set_option maxRecDepth 20000 in
theorem pf_X3_54 {X : CX} {cc : ByteArray} {d pc : Nat} {lv : List (Nat × Value)} {st : List Value} {h : Hp} {v : Int32} (hX : Ok_ X RX3 cc d) (hdg : decode cc pc = .ok (.putfield 54, 3)) (k : At_ X (pc + 3) lv st (sI_ h 205 v)) : At_ X pc lv (.int v :: .ref 3 :: st) h := at_putI hX (o := 3) (k := 13) (C := RX3) (T := TX3) (N := 16) (ty := .int) rfl (by decide) twX3 (tb_at 117 rfl rfl) tyX3 tyX3_ok nmX3 rfl (by decide +kernel) rfl rfl (by decide) rfl (by decide) (by decide) (by decide) rfl hdg k -- newSeams
set_option maxRecDepth 20000 in
theorem pf_X3_57 {X : CX} {cc : ByteArray} {d pc : Nat} {lv : List (Nat × Value)} {st : List Value} {h : Hp} {v : Int32} (hX : Ok_ X RX3 cc d) (hdg : decode cc pc = .ok (.putfield 57, 3)) (k : At_ X (pc + 3) lv st (sI_ h 207 v)) : At_ X pc lv (.int v :: .ref 3 :: st) h := at_putI hX (o := 3) (k := 15) (C := RX3) (T := TX3) (N := 16) (ty := .int) rfl (by decide) twX3 (tb_at 119 rfl rfl) tyX3 tyX3_ok nmX3 rfl (by decide +kernel) rfl rfl (by decide) rfl (by decide) (by decide) (by decide) rfl hdg k -- layer
set_option maxRecDepth 20000 in
theorem pf_X3_63 {X : CX} {cc : ByteArray} {d pc : Nat} {lv : List (Nat × Value)} {st : List Value} {h : Hp} {v : Int32} (hX : Ok_ X RX3 cc d) (hdg : decode cc pc = .ok (.putfield 63, 3)) (k : At_ X (pc + 3) lv st (sI_ h 203 v)) : At_ X pc lv (.int v :: .ref 3 :: st) h := at_putI hX (o := 3) (k := 11) (C := RX3) (T := TX3) (N := 16) (ty := .int) rfl (by decide) twX3 (tb_at 115 rfl rfl) tyX3 tyX3_ok nmX3 rfl (by decide +kernel) rfl rfl (by decide) rfl (by decide) (by decide) (by decide) rfl hdg k -- cells
set_option maxRecDepth 20000 in
theorem gf_X4_9 {X : CX} {cc : ByteArray} {d pc : Nat} {lv : List (Nat × Value)} {st : List Value} {h : Hp} (hX : Ok_ X RX4 cc d) (hdg : decode cc pc = .ok (.getfield 9, 3)) (k : At_ X (pc + 3) lv (.ref 31 :: st) h) : At_ X pc lv (.ref 4 :: st) h := at_getf hX (o := 4) (k := 1) (C := RX4) (T := TX4) (N := 4) rfl (by decide) twX4 (tb_at 86 rfl rfl) (2, 31) rfl rfl (by decide) rfl hdg k -- lefts
set_option maxRecDepth 20000 in
theorem gf_X4_15 {X : CX} {cc : ByteArray} {d pc : Nat} {lv : List (Nat × Value)} {st : List Value} {h : Hp} (hX : Ok_ X RX4 cc d) (hdg : decode cc pc = .ok (.getfield 15, 3)) (k : At_ X (pc + 3) lv (.ref 32 :: st) h) : At_ X pc lv (.ref 4 :: st) h := at_getf hX (o := 4) (k := 2) (C := RX4) (T := TX4) (N := 4) rfl (by decide) twX4 (tb_at 87 rfl rfl) (2, 32) rfl rfl (by decide) rfl hdg k -- rights
set_option maxRecDepth 20000 in
theorem gf_X4_18 {X : CX} {cc : ByteArray} {d pc : Nat} {lv : List (Nat × Value)} {st : List Value} {h : Hp} (hX : Ok_ X RX4 cc d) (hdg : decode cc pc = .ok (.getfield 18, 3)) (k : At_ X (pc + 3) lv (.int (gI_ h 259) :: st) h) : At_ X pc lv (.ref 4 :: st) h := at_getf hX (o := 4) (k := 3) (C := RX4) (T := TX4) (N := 4) rfl (by decide) twX4 (tb_at 88 rfl rfl) (0, 259) rfl rfl (by decide) rfl hdg k -- grip
set_option maxRecDepth 20000 in
theorem gf_X4_22 {X : CX} {cc : ByteArray} {d pc : Nat} {lv : List (Nat × Value)} {st : List Value} {h : Hp} (hX : Ok_ X RX4 cc d) (hdg : decode cc pc = .ok (.getfield 22, 3)) (k : At_ X (pc + 3) lv (.ref 2 :: st) h) : At_ X pc lv (.ref 4 :: st) h := at_getf hX (o := 4) (k := 0) (C := RX4) (T := TX4) (N := 4) rfl (by decide) twX4 (tb_at 85 rfl rfl) (2, 2) rfl rfl (by decide) rfl hdg k -- bricks
set_option maxRecDepth 20000 in
theorem cv_X4_26 : CN_ RX4 26 M_X6_least 1 := ⟨⟨List.mem_of_getElem? (i := 5) rfl, tb_at 396 rfl rfl, tb_at 1 rfl rfl, tb_at 397 rfl rfl⟩, ⟨by decide, by decide, by decide +kernel⟩, by decide⟩
set_option maxRecDepth 20000 in
theorem cv_X4_83 : CS_ RX4 83 M_X2_alongX 2 := ⟨⟨tb_at 454 rfl rfl, tb_at 292 rfl rfl, tb_at 3 rfl rfl, tb_at 293 rfl rfl⟩, ⟨by decide, by decide, by decide +kernel⟩, by decide⟩
set_option maxRecDepth 20000 in
theorem cv_X4_86 : CS_ RX4 86 M_X2_alongY 2 := ⟨⟨tb_at 455 rfl rfl, tb_at 300 rfl rfl, tb_at 3 rfl rfl, tb_at 301 rfl rfl⟩, ⟨by decide, by decide, by decide +kernel⟩, by decide⟩
set_option maxRecDepth 20000 in
theorem cv_X4_97 : CS_ RX4 97 M_J7_fill_53178 2 := ⟨⟨tb_at 446 rfl rfl, tb_at 447 rfl rfl, tb_at 11 rfl rfl, tb_at 448 rfl rfl⟩, ⟨by decide, by decide, by decide +kernel⟩, by decide⟩
set_option maxRecDepth 20000 in
theorem cv_X4_103 : CM_ RX4 103 Lib.Math.min.name Lib.Math.min.code 2 := ⟨tb_at 460 rfl rfl, tb_at 461 rfl rfl, tb_at 9 rfl rfl, tb_at 462 rfl rfl⟩
set_option maxRecDepth 20000 in
theorem cv_X4_108 : CM_ RX4 108 Lib.Math.max.name Lib.Math.max.code 2 := ⟨tb_at 463 rfl rfl, tb_at 464 rfl rfl, tb_at 9 rfl rfl, tb_at 465 rfl rfl⟩
set_option maxRecDepth 20000 in
theorem cv_X4_111 : CS_ RX4 111 M_X4_lineAt 4 := ⟨⟨tb_at 470 rfl rfl, tb_at 471 rfl rfl, tb_at 4 rfl rfl, tb_at 472 rfl rfl⟩, ⟨by decide, by decide, by decide +kernel⟩, by decide⟩
set_option maxRecDepth 20000 in
theorem cv_X4_115 : CS_ RX4 115 M_J13_bitCount_95d88 1 := ⟨⟨tb_at 494 rfl rfl, tb_at 342 rfl rfl, tb_at 10 rfl rfl, tb_at 343 rfl rfl⟩, ⟨by decide, by decide, by decide +kernel⟩, by decide⟩
set_option maxRecDepth 20000 in
theorem cv_X4_30 : CV_ RX4 30 2 M_X2_neighboursOf 1 := ⟨⟨tb_at 399 rfl rfl, tb_at 400 rfl rfl, (tb_at 401 rfl rfl), tb_at 3 rfl rfl, tb_at 402 rfl rfl⟩, ⟨rfl, by decide, by decide, by decide +kernel⟩, by decide, ⟨_, rfl, rfl⟩, by decide, rfl⟩
set_option maxRecDepth 20000 in
theorem cv_X4_38 : CV_ RX4 38 4 M_X4_reach 2 := ⟨⟨tb_at 391 rfl rfl, tb_at 393 rfl rfl, (tb_sel (q := (yX4_reach, _)) 5 rfl), tb_at 4 rfl rfl, tb_at 394 rfl rfl⟩, ⟨rfl, by decide, by decide, by decide +kernel⟩, by decide, ⟨_, rfl, rfl⟩, by decide, rfl⟩
set_option maxRecDepth 20000 in
theorem cv_X4_42 : CV_ RX4 42 2 M_X2_there 0 := ⟨⟨tb_at 387 rfl rfl, tb_at 388 rfl rfl, (tb_at 389 rfl rfl), tb_at 3 rfl rfl, tb_at 390 rfl rfl⟩, ⟨rfl, by decide, by decide, by decide +kernel⟩, by decide, ⟨_, rfl, rfl⟩, by decide, rfl⟩
set_option maxRecDepth 20000 in
theorem cv_X4_46 : CV_ RX4 46 4 M_X4_floats 1 := ⟨⟨tb_at 440 rfl rfl, tb_at 429 rfl rfl, (tb_at 430 rfl rfl), tb_at 4 rfl rfl, tb_at 431 rfl rfl⟩, ⟨rfl, by decide, by decide, by decide +kernel⟩, by decide, ⟨_, rfl, rfl⟩, by decide, rfl⟩
set_option maxRecDepth 20000 in
theorem cv_X4_50 : CV_ RX4 50 2 M_X2_ever 0 := ⟨⟨tb_at 449 rfl rfl, tb_at 312 rfl rfl, (tb_at 313 rfl rfl), tb_at 3 rfl rfl, tb_at 314 rfl rfl⟩, ⟨rfl, by decide, by decide, by decide +kernel⟩, by decide, ⟨_, rfl, rfl⟩, by decide, rfl⟩
set_option maxRecDepth 20000 in
theorem cv_X4_54 : CV_ RX4 54 2 M_X2_isThere 1 := ⟨⟨tb_at 771 rfl rfl, tb_at 357 rfl rfl, (tb_at 358 rfl rfl), tb_at 3 rfl rfl, tb_at 359 rfl rfl⟩, ⟨rfl, by decide, by decide, by decide +kernel⟩, by decide, ⟨_, rfl, rfl⟩, by decide, rfl⟩
set_option maxRecDepth 20000 in
theorem cv_X4_58 : CV_ RX4 58 4 M_X4_pieceWith 2 := ⟨⟨tb_at 772 rfl rfl, tb_at 479 rfl rfl, (tb_at 480 rfl rfl), tb_at 4 rfl rfl, tb_at 481 rfl rfl⟩, ⟨rfl, by decide, by decide, by decide +kernel⟩, by decide, ⟨_, rfl, rfl⟩, by decide, rfl⟩
set_option maxRecDepth 20000 in
theorem cv_X4_62 : CV_ RX4 62 4 M_X4_isKey 2 := ⟨⟨tb_at 773 rfl rfl, tb_at 483 rfl rfl, (tb_at 484 rfl rfl), tb_at 4 rfl rfl, tb_at 485 rfl rfl⟩, ⟨rfl, by decide, by decide, by decide +kernel⟩, by decide, ⟨_, rfl, rfl⟩, by decide, rfl⟩
set_option maxRecDepth 20000 in
theorem cv_X4_66 : CV_ RX4 66 2 M_X2_sizeOf 1 := ⟨⟨tb_at 424 rfl rfl, tb_at 425 rfl rfl, (tb_at 426 rfl rfl), tb_at 3 rfl rfl, tb_at 427 rfl rfl⟩, ⟨rfl, by decide, by decide, by decide +kernel⟩, by decide, ⟨_, rfl, rfl⟩, by decide, rfl⟩
set_option maxRecDepth 20000 in
theorem cv_X4_70 : CV_ RX4 70 2 M_X2_ground 0 := ⟨⟨tb_at 432 rfl rfl, tb_at 433 rfl rfl, (tb_at 434 rfl rfl), tb_at 3 rfl rfl, tb_at 435 rfl rfl⟩, ⟨rfl, by decide, by decide, by decide +kernel⟩, by decide, ⟨_, rfl, rfl⟩, by decide, rfl⟩
set_option maxRecDepth 20000 in
theorem cv_X4_73 : CV_ RX4 73 4 M_X4_weight 1 := ⟨⟨tb_at 441 rfl rfl, tb_at 421 rfl rfl, (tb_at 422 rfl rfl), tb_at 4 rfl rfl, tb_at 423 rfl rfl⟩, ⟨rfl, by decide, by decide, by decide +kernel⟩, by decide, ⟨_, rfl, rfl⟩, by decide, rfl⟩
set_option maxRecDepth 20000 in
theorem cv_X4_76 : CV_ RX4 76 4 M_X4_clearEdges 0 := ⟨⟨tb_at 442 rfl rfl, tb_at 444 rfl rfl, (tb_sel (q := (yX4_clearEdges, _)) 6 rfl), tb_at 4 rfl rfl, tb_at 445 rfl rfl⟩, ⟨rfl, by decide, by decide, by decide +kernel⟩, by decide, ⟨_, rfl, rfl⟩, by decide, rfl⟩
set_option maxRecDepth 20000 in
theorem cv_X4_79 : CV_ RX4 79 2 M_X2_told 2 := ⟨⟨tb_at 450 rfl rfl, tb_at 451 rfl rfl, (tb_at 452 rfl rfl), tb_at 3 rfl rfl, tb_at 453 rfl rfl⟩, ⟨rfl, by decide, by decide, by decide +kernel⟩, by decide, ⟨_, rfl, rfl⟩, by decide, rfl⟩
set_option maxRecDepth 20000 in
theorem cv_X4_89 : CV_ RX4 89 4 M_X4_widenEdge 3 := ⟨⟨tb_at 456 rfl rfl, tb_at 458 rfl rfl, (tb_sel (q := (yX4_widenEdge, _)) 7 rfl), tb_at 4 rfl rfl, tb_at 459 rfl rfl⟩, ⟨rfl, by decide, by decide, by decide +kernel⟩, by decide, ⟨_, rfl, rfl⟩, by decide, rfl⟩
set_option maxRecDepth 20000 in
theorem cv_X4_93 : CV_ RX4 93 4 M_X4_isWithinEdges 3 := ⟨⟨tb_at 466 rfl rfl, tb_at 468 rfl rfl, (tb_sel (q := (yX4_isWithinEdges, _)) 8 rfl), tb_at 4 rfl rfl, tb_at 469 rfl rfl⟩, ⟨rfl, by decide, by decide, by decide +kernel⟩, by decide, ⟨_, rfl, rfl⟩, by decide, rfl⟩
set_option maxRecDepth 20000 in
theorem cv_X4_120 : CV_ RX4 120 4 M_X4_studsBetween 2 := ⟨⟨tb_at 495 rfl rfl, tb_at 497 rfl rfl, (tb_sel (q := (yX4_studsBetween, _)) 9 rfl), tb_at 4 rfl rfl, tb_at 498 rfl rfl⟩, ⟨rfl, by decide, by decide, by decide +kernel⟩, by decide, ⟨_, rfl, rfl⟩, by decide, rfl⟩
set_option maxRecDepth 20000 in
theorem cv_X4_124 : CV_ RX4 124 2 M_X2_sharedStuds 2 := ⟨⟨tb_at 499 rfl rfl, tb_at 331 rfl rfl, (tb_at 332 rfl rfl), tb_at 3 rfl rfl, tb_at 333 rfl rfl⟩, ⟨rfl, by decide, by decide, by decide +kernel⟩, by decide, ⟨_, rfl, rfl⟩, by decide, rfl⟩
set_option maxRecDepth 20000 in
theorem cv_X4_127 : CV_ RX4 127 4 M_X4_isSoundPiece 1 := ⟨⟨tb_at 508 rfl rfl, tb_at 509 rfl rfl, (tb_at 510 rfl rfl), tb_at 4 rfl rfl, tb_at 511 rfl rfl⟩, ⟨rfl, by decide, by decide, by decide +kernel⟩, by decide, ⟨_, rfl, rfl⟩, by decide, rfl⟩
set_option maxRecDepth 20000 in
theorem cv_X4_130 : CV_ RX4 130 4 M_X4_stands 1 := ⟨⟨tb_at 512 rfl rfl, tb_at 437 rfl rfl, (tb_at 438 rfl rfl), tb_at 4 rfl rfl, tb_at 439 rfl rfl⟩, ⟨rfl, by decide, by decide, by decide +kernel⟩, by decide, ⟨_, rfl, rfl⟩, by decide, rfl⟩
set_option maxRecDepth 20000 in
theorem cv_X4_133 : CV_ RX4 133 4 M_X4_countWeak 2 := ⟨⟨tb_at 513 rfl rfl, tb_at 491 rfl rfl, (tb_at 492 rfl rfl), tb_at 4 rfl rfl, tb_at 493 rfl rfl⟩, ⟨rfl, by decide, by decide, by decide +kernel⟩, by decide, ⟨_, rfl, rfl⟩, by decide, rfl⟩
set_option maxRecDepth 20000 in
theorem wk_X4_36 : Cond.constantLong RX4 36 (-1) ∈ Tb := tb_at 403 rfl rfl
set_option maxRecDepth 20000 in
theorem pf_X4_18 {X : CX} {cc : ByteArray} {d pc : Nat} {lv : List (Nat × Value)} {st : List Value} {h : Hp} {v : Int32} (hX : Ok_ X RX4 cc d) (hdg : decode cc pc = .ok (.putfield 18, 3)) (k : At_ X (pc + 3) lv st (sI_ h 259 v)) : At_ X pc lv (.int v :: .ref 4 :: st) h := at_putI hX (o := 4) (k := 3) (C := RX4) (T := TX4) (N := 4) (ty := .int) rfl (by decide) twX4 (tb_at 88 rfl rfl) tyX4 tyX4_ok nmX4 rfl (by decide +kernel) rfl rfl (by decide) rfl (by decide) (by decide) (by decide) rfl hdg k -- grip
set_option maxRecDepth 20000 in
theorem gf_X5_11 {X : CX} {cc : ByteArray} {d pc : Nat} {lv : List (Nat × Value)} {st : List Value} {h : Hp} (hX : Ok_ X RX5 cc d) (hdg : decode cc pc = .ok (.getfield 11, 3)) (k : At_ X (pc + 3) lv (.ref 33 :: st) h) : At_ X pc lv (.ref 5 :: st) h := at_getf hX (o := 5) (k := 2) (C := RX5) (T := TX5) (N := 9) rfl (by decide) twX5 (tb_at 161 rfl rfl) (2, 33) rfl rfl (by decide) rfl hdg k -- numbers
set_option maxRecDepth 20000 in
theorem gf_X5_15 {X : CX} {cc : ByteArray} {d pc : Nat} {lv : List (Nat × Value)} {st : List Value} {h : Hp} (hX : Ok_ X RX5 cc d) (hdg : decode cc pc = .ok (.getfield 15, 3)) (k : At_ X (pc + 3) lv (.ref 34 :: st) h) : At_ X pc lv (.ref 5 :: st) h := at_getf hX (o := 5) (k := 3) (C := RX5) (T := TX5) (N := 9) rfl (by decide) twX5 (tb_at 162 rfl rfl) (2, 34) rfl rfl (by decide) rfl hdg k -- above
set_option maxRecDepth 20000 in
theorem gf_X5_19 {X : CX} {cc : ByteArray} {d pc : Nat} {lv : List (Nat × Value)} {st : List Value} {h : Hp} (hX : Ok_ X RX5 cc d) (hdg : decode cc pc = .ok (.getfield 19, 3)) (k : At_ X (pc + 3) lv (.ref 35 :: st) h) : At_ X pc lv (.ref 5 :: st) h := at_getf hX (o := 5) (k := 4) (C := RX5) (T := TX5) (N := 9) rfl (by decide) twX5 (tb_at 163 rfl rfl) (2, 35) rfl rfl (by decide) rfl hdg k -- row
set_option maxRecDepth 20000 in
theorem gf_X5_22 {X : CX} {cc : ByteArray} {d pc : Nat} {lv : List (Nat × Value)} {st : List Value} {h : Hp} (hX : Ok_ X RX5 cc d) (hdg : decode cc pc = .ok (.getfield 22, 3)) (k : At_ X (pc + 3) lv (.ref 36 :: st) h) : At_ X pc lv (.ref 5 :: st) h := at_getf hX (o := 5) (k := 5) (C := RX5) (T := TX5) (N := 9) rfl (by decide) twX5 (tb_at 164 rfl rfl) (2, 36) rfl rfl (by decide) rfl hdg k -- dead
set_option maxRecDepth 20000 in
theorem gf_X5_26 {X : CX} {cc : ByteArray} {d pc : Nat} {lv : List (Nat × Value)} {st : List Value} {h : Hp} (hX : Ok_ X RX5 cc d) (hdg : decode cc pc = .ok (.getfield 26, 3)) (k : At_ X (pc + 3) lv (.ref 2 :: st) h) : At_ X pc lv (.ref 5 :: st) h := at_getf hX (o := 5) (k := 0) (C := RX5) (T := TX5) (N := 9) rfl (by decide) twX5 (tb_at 159 rfl rfl) (2, 2) rfl rfl (by decide) rfl hdg k -- bricks
set_option maxRecDepth 20000 in
theorem gf_X5_30 {X : CX} {cc : ByteArray} {d pc : Nat} {lv : List (Nat × Value)} {st : List Value} {h : Hp} (hX : Ok_ X RX5 cc d) (hdg : decode cc pc = .ok (.getfield 30, 3)) (k : At_ X (pc + 3) lv (.ref 4 :: st) h) : At_ X pc lv (.ref 5 :: st) h := at_getf hX (o := 5) (k := 1) (C := RX5) (T := TX5) (N := 9) rfl (by decide) twX5 (tb_at 160 rfl rfl) (2, 4) rfl rfl (by decide) rfl hdg k -- hanging
set_option maxRecDepth 20000 in
theorem gf_X5_34 {X : CX} {cc : ByteArray} {d pc : Nat} {lv : List (Nat × Value)} {st : List Value} {h : Hp} (hX : Ok_ X RX5 cc d) (hdg : decode cc pc = .ok (.getfield 34, 3)) (k : At_ X (pc + 3) lv (.int (gI_ h 328) :: st) h) : At_ X pc lv (.ref 5 :: st) h := at_getf hX (o := 5) (k := 8) (C := RX5) (T := TX5) (N := 9) rfl (by decide) twX5 (tb_at 167 rfl rfl) (0, 328) rfl rfl (by decide) rfl hdg k -- isKnown
set_option maxRecDepth 20000 in
theorem gf_X5_38 {X : CX} {cc : ByteArray} {d pc : Nat} {lv : List (Nat × Value)} {st : List Value} {h : Hp} (hX : Ok_ X RX5 cc d) (hdg : decode cc pc = .ok (.getfield 38, 3)) (k : At_ X (pc + 3) lv (.int (gI_ h 327) :: st) h) : At_ X pc lv (.ref 5 :: st) h := at_getf hX (o := 5) (k := 7) (C := RX5) (T := TX5) (N := 9) rfl (by decide) twX5 (tb_at 166 rfl rfl) (0, 327) rfl rfl (by decide) rfl hdg k -- length
set_option maxRecDepth 20000 in
theorem gf_X5_51 {X : CX} {cc : ByteArray} {d pc : Nat} {lv : List (Nat × Value)} {st : List Value} {h : Hp} (hX : Ok_ X RX5 cc d) (hdg : decode cc pc = .ok (.getfield 51, 3)) (k : At_ X (pc + 3) lv (.int (gI_ h 326) :: st) h) : At_ X pc lv (.ref 5 :: st) h := at_getf hX (o := 5) (k := 6) (C := RX5) (T := TX5) (N := 9) rfl (by decide) twX5 (tb_at 165 rfl rfl) (0, 326) rfl rfl (by decide) rfl hdg k -- size
set_option maxRecDepth 20000 in
theorem cv_X5_42 : CV_ RX5 42 4 M_X4_isSound 0 := ⟨⟨tb_at 719 rfl rfl, tb_at 505 rfl rfl, (tb_at 506 rfl rfl), tb_at 4 rfl rfl, tb_at 507 rfl rfl⟩, ⟨rfl, by decide, by decide, by decide +kernel⟩, by decide, ⟨_, rfl, rfl⟩, by decide, rfl⟩
set_option maxRecDepth 20000 in
theorem cv_X5_48 : CV_ RX5 48 5 M_X5_collectBricks 0 := ⟨⟨tb_at 720 rfl rfl, tb_at 722 rfl rfl, (tb_sel (q := (yX5_collectBricks, _)) 28 rfl), tb_at 6 rfl rfl, tb_at 723 rfl rfl⟩, ⟨rfl, by decide, by decide, by decide +kernel⟩, by decide, ⟨_, rfl, rfl⟩, by decide, rfl⟩
set_option maxRecDepth 20000 in
theorem cv_X5_54 : CV_ RX5 54 5 M_X5_goesOn 3 := ⟨⟨tb_at 731 rfl rfl, tb_at 733 rfl rfl, (tb_sel (q := (yX5_goesOn, _)) 29 rfl), tb_at 6 rfl rfl, tb_at 734 rfl rfl⟩, ⟨rfl, by decide, by decide, by decide +kernel⟩, by decide, ⟨_, rfl, rfl⟩, by decide, rfl⟩
set_option maxRecDepth 20000 in
theorem cv_X5_58 : CV_ RX5 58 2 M_X2_ever 0 := ⟨⟨tb_at 724 rfl rfl, tb_at 312 rfl rfl, (tb_at 313 rfl rfl), tb_at 3 rfl rfl, tb_at 314 rfl rfl⟩, ⟨rfl, by decide, by decide, by decide +kernel⟩, by decide, ⟨_, rfl, rfl⟩, by decide, rfl⟩
set_option maxRecDepth 20000 in
theorem cv_X5_64 : CV_ RX5 64 2 M_X2_isThere 1 := ⟨⟨tb_at 725 rfl rfl, tb_at 357 rfl rfl, (tb_at 358 rfl rfl), tb_at 3 rfl rfl, tb_at 359 rfl rfl⟩, ⟨rfl, by decide, by decide, by decide +kernel⟩, by decide, ⟨_, rfl, rfl⟩, by decide, rfl⟩
set_option maxRecDepth 20000 in
theorem cv_X5_68 : CV_ RX5 68 2 M_X2_there 0 := ⟨⟨tb_at 726 rfl rfl, tb_at 388 rfl rfl, (tb_at 389 rfl rfl), tb_at 3 rfl rfl, tb_at 390 rfl rfl⟩, ⟨rfl, by decide, by decide, by decide +kernel⟩, by decide, ⟨_, rfl, rfl⟩, by decide, rfl⟩
set_option maxRecDepth 20000 in
theorem cv_X5_72 : CV_ RX5 72 2 M_X2_coveringFromAbove 2 := ⟨⟨tb_at 727 rfl rfl, tb_at 728 rfl rfl, (tb_at 729 rfl rfl), tb_at 3 rfl rfl, tb_at 730 rfl rfl⟩, ⟨rfl, by decide, by decide, by decide +kernel⟩, by decide, ⟨_, rfl, rfl⟩, by decide, rfl⟩
set_option maxRecDepth 20000 in
theorem cv_X5_76 : CV_ RX5 76 4 M_X4_pieceWith 2 := ⟨⟨tb_at 735 rfl rfl, tb_at 479 rfl rfl, (tb_at 480 rfl rfl), tb_at 4 rfl rfl, tb_at 481 rfl rfl⟩, ⟨rfl, by decide, by decide, by decide +kernel⟩, by decide, ⟨_, rfl, rfl⟩, by decide, rfl⟩
set_option maxRecDepth 20000 in
theorem cv_X5_79 : CV_ RX5 79 4 M_X4_isSoundPiece 1 := ⟨⟨tb_at 736 rfl rfl, tb_at 509 rfl rfl, (tb_at 510 rfl rfl), tb_at 4 rfl rfl, tb_at 511 rfl rfl⟩, ⟨rfl, by decide, by decide, by decide +kernel⟩, by decide, ⟨_, rfl, rfl⟩, by decide, rfl⟩
set_option maxRecDepth 20000 in
theorem pf_X5_34 {X : CX} {cc : ByteArray} {d pc : Nat} {lv : List (Nat × Value)} {st : List Value} {h : Hp} {v : Int32} (hX : Ok_ X RX5 cc d) (hz : narrow .boolean (.int v) = .int v) (hz2 : fits .boolean (.int v) = true) (hdg : decode cc pc = .ok (.putfield 34, 3)) (k : At_ X (pc + 3) lv st (sI_ h 328 v)) : At_ X pc lv (.int v :: .ref 5 :: st) h := at_putI hX (o := 5) (k := 8) (C := RX5) (T := TX5) (N := 9) (ty := .boolean) rfl (by decide) twX5 (tb_at 167 rfl rfl) tyX5 tyX5_ok nmX5 rfl (by decide +kernel) hz hz2 (by decide) rfl (by decide) (by decide) (by decide) rfl hdg k -- isKnown
set_option maxRecDepth 20000 in
theorem pf_X5_38 {X : CX} {cc : ByteArray} {d pc : Nat} {lv : List (Nat × Value)} {st : List Value} {h : Hp} {v : Int32} (hX : Ok_ X RX5 cc d) (hdg : decode cc pc = .ok (.putfield 38, 3)) (k : At_ X (pc + 3) lv st (sI_ h 327 v)) : At_ X pc lv (.int v :: .ref 5 :: st) h := at_putI hX (o := 5) (k := 7) (C := RX5) (T := TX5) (N := 9) (ty := .int) rfl (by decide) twX5 (tb_at 166 rfl rfl) tyX5 tyX5_ok nmX5 rfl (by decide +kernel) rfl rfl (by decide) rfl (by decide) (by decide) (by decide) rfl hdg k -- length
set_option maxRecDepth 20000 in
theorem pf_X5_51 {X : CX} {cc : ByteArray} {d pc : Nat} {lv : List (Nat × Value)} {st : List Value} {h : Hp} {v : Int32} (hX : Ok_ X RX5 cc d) (hdg : decode cc pc = .ok (.putfield 51, 3)) (k : At_ X (pc + 3) lv st (sI_ h 326 v)) : At_ X pc lv (.int v :: .ref 5 :: st) h := at_putI hX (o := 5) (k := 6) (C := RX5) (T := TX5) (N := 9) (ty := .int) rfl (by decide) twX5 (tb_at 165 rfl rfl) tyX5 tyX5_ok nmX5 rfl (by decide +kernel) rfl rfl (by decide) rfl (by decide) (by decide) (by decide) rfl hdg k -- size
set_option maxRecDepth 20000 in
theorem gf_X6_18 {X : CX} {cc : ByteArray} {d pc : Nat} {lv : List (Nat × Value)} {st : List Value} {h : Hp} (hX : Ok_ X RX6 cc d) (hdg : decode cc pc = .ok (.getfield 18, 3)) (k : At_ X (pc + 3) lv (.ref 0 :: st) h) : At_ X pc lv (.ref 6 :: st) h := at_getf hX (o := 6) (k := 0) (C := RX6) (T := TX6) (N := 7) rfl (by decide) twX6 (tb_at 207 rfl rfl) (2, 0) rfl rfl (by decide) rfl hdg k -- body
set_option maxRecDepth 20000 in
theorem gf_X6_24 {X : CX} {cc : ByteArray} {d pc : Nat} {lv : List (Nat × Value)} {st : List Value} {h : Hp} (hX : Ok_ X RX6 cc d) (hdg : decode cc pc = .ok (.getfield 24, 3)) (k : At_ X (pc + 3) lv (.ref 2 :: st) h) : At_ X pc lv (.ref 6 :: st) h := at_getf hX (o := 6) (k := 1) (C := RX6) (T := TX6) (N := 7) rfl (by decide) twX6 (tb_at 208 rfl rfl) (2, 2) rfl rfl (by decide) rfl hdg k -- bricks
set_option maxRecDepth 20000 in
theorem gf_X6_28 {X : CX} {cc : ByteArray} {d pc : Nat} {lv : List (Nat × Value)} {st : List Value} {h : Hp} (hX : Ok_ X RX6 cc d) (hdg : decode cc pc = .ok (.getfield 28, 3)) (k : At_ X (pc + 3) lv (.ref 4 :: st) h) : At_ X pc lv (.ref 6 :: st) h := at_getf hX (o := 6) (k := 2) (C := RX6) (T := TX6) (N := 7) rfl (by decide) twX6 (tb_at 209 rfl rfl) (2, 4) rfl rfl (by decide) rfl hdg k -- hanging
set_option maxRecDepth 20000 in
theorem gf_X6_37 {X : CX} {cc : ByteArray} {d pc : Nat} {lv : List (Nat × Value)} {st : List Value} {h : Hp} (hX : Ok_ X RX6 cc d) (hdg : decode cc pc = .ok (.getfield 37, 3)) (k : At_ X (pc + 3) lv (.ref 3 :: st) h) : At_ X pc lv (.ref 6 :: st) h := at_getf hX (o := 6) (k := 3) (C := RX6) (T := TX6) (N := 7) rfl (by decide) twX6 (tb_at 210 rfl rfl) (2, 3) rfl rfl (by decide) rfl hdg k -- covers
set_option maxRecDepth 20000 in
theorem gf_X6_46 {X : CX} {cc : ByteArray} {d pc : Nat} {lv : List (Nat × Value)} {st : List Value} {h : Hp} (hX : Ok_ X RX6 cc d) (hdg : decode cc pc = .ok (.getfield 46, 3)) (k : At_ X (pc + 3) lv (.ref 5 :: st) h) : At_ X pc lv (.ref 6 :: st) h := at_getf hX (o := 6) (k := 4) (C := RX6) (T := TX6) (N := 7) rfl (by decide) twX6 (tb_at 211 rfl rfl) (2, 5) rfl rfl (by decide) rfl hdg k -- orders
set_option maxRecDepth 20000 in
theorem gf_X6_53 {X : CX} {cc : ByteArray} {d pc : Nat} {lv : List (Nat × Value)} {st : List Value} {h : Hp} (hX : Ok_ X RX6 cc d) (hdg : decode cc pc = .ok (.getfield 53, 3)) (k : At_ X (pc + 3) lv (.ref 1 :: st) h) : At_ X pc lv (.ref 6 :: st) h := at_getf hX (o := 6) (k := 5) (C := RX6) (T := TX6) (N := 7) rfl (by decide) twX6 (tb_at 212 rfl rfl) (2, 1) rfl rfl (by decide) rfl hdg k -- box
set_option maxRecDepth 20000 in
theorem gf_X6_57 {X : CX} {cc : ByteArray} {d pc : Nat} {lv : List (Nat × Value)} {st : List Value} {h : Hp} (hX : Ok_ X RX6 cc d) (hdg : decode cc pc = .ok (.getfield 57, 3)) (k : At_ X (pc + 3) lv (.ref 37 :: st) h) : At_ X pc lv (.ref 6 :: st) h := at_getf hX (o := 6) (k := 6) (C := RX6) (T := TX6) (N := 7) rfl (by decide) twX6 (tb_at 213 rfl rfl) (2, 37) rfl rfl (by decide) rfl hdg k -- refusals
set_option maxRecDepth 20000 in
theorem cv_X6_61 : CS_ RX6 61 M_X6_isPlace 3 := ⟨⟨tb_at 233 rfl rfl, tb_at 234 rfl rfl, tb_at 1 rfl rfl, tb_at 235 rfl rfl⟩, ⟨by decide, by decide, by decide +kernel⟩, by decide⟩
set_option maxRecDepth 20000 in
theorem cv_X6_84 : CS_ RX6 84 M_X6_isKind 1 := ⟨⟨tb_at 285 rfl rfl, tb_at 286 rfl rfl, tb_at 1 rfl rfl, tb_at 287 rfl rfl⟩, ⟨by decide, by decide, by decide +kernel⟩, by decide⟩
set_option maxRecDepth 20000 in
theorem cv_X6_88 : CS_ RX6 88 M_X6_isBrickColour 1 := ⟨⟨tb_at 288 rfl rfl, tb_at 289 rfl rfl, tb_at 1 rfl rfl, tb_at 290 rfl rfl⟩, ⟨by decide, by decide, by decide +kernel⟩, by decide⟩
set_option maxRecDepth 20000 in
theorem cv_X6_91 : CS_ RX6 91 M_X2_alongX 2 := ⟨⟨tb_at 291 rfl rfl, tb_at 292 rfl rfl, tb_at 3 rfl rfl, tb_at 293 rfl rfl⟩, ⟨by decide, by decide, by decide +kernel⟩, by decide⟩
set_option maxRecDepth 20000 in
theorem cv_X6_95 : CS_ RX6 95 M_X2_alongY 2 := ⟨⟨tb_at 299 rfl rfl, tb_at 300 rfl rfl, tb_at 3 rfl rfl, tb_at 301 rfl rfl⟩, ⟨by decide, by decide, by decide +kernel⟩, by decide⟩
set_option maxRecDepth 20000 in
theorem cv_X6_98 : CS_ RX6 98 M_X2_footprint 4 := ⟨⟨tb_at 303 rfl rfl, tb_at 304 rfl rfl, tb_at 3 rfl rfl, tb_at 305 rfl rfl⟩, ⟨by decide, by decide, by decide +kernel⟩, by decide⟩
set_option maxRecDepth 20000 in
theorem cv_X6_153 : CS_ RX6 153 M_J13_bitCount_95d88 1 := ⟨⟨tb_at 398 rfl rfl, tb_at 342 rfl rfl, tb_at 10 rfl rfl, tb_at 343 rfl rfl⟩, ⟨by decide, by decide, by decide +kernel⟩, by decide⟩
set_option maxRecDepth 20000 in
theorem cv_X6_65 : CV_ RX6 65 6 M_X6_refuse 1 := ⟨⟨tb_at 236 rfl rfl, tb_at 238 rfl rfl, (tb_sel (q := (yX6_refuse, _)) 0 rfl), tb_at 1 rfl rfl, tb_at 239 rfl rfl⟩, ⟨rfl, by decide, by decide, by decide +kernel⟩, by decide, ⟨_, rfl, rfl⟩, by decide, rfl⟩
set_option maxRecDepth 20000 in
theorem cv_X6_69 : CV_ RX6 69 6 M_X6_forgetAnswers 0 := ⟨⟨tb_at 240 rfl rfl, tb_at 242 rfl rfl, (tb_sel (q := (yX6_forgetAnswers, _)) 1 rfl), tb_at 1 rfl rfl, tb_at 243 rfl rfl⟩, ⟨rfl, by decide, by decide, by decide +kernel⟩, by decide, ⟨_, rfl, rfl⟩, by decide, rfl⟩
set_option maxRecDepth 20000 in
theorem cv_X6_72 : CV_ RX6 72 0 M_X0_paint 4 := ⟨⟨tb_at 252 rfl rfl, tb_at 253 rfl rfl, (tb_at 254 rfl rfl), tb_at 2 rfl rfl, tb_at 255 rfl rfl⟩, ⟨rfl, by decide, by decide, by decide +kernel⟩, by decide, ⟨_, rfl, rfl⟩, by decide, rfl⟩
set_option maxRecDepth 20000 in
theorem cv_X6_76 : CV_ RX6 76 0 M_X0_colourAt 3 := ⟨⟨tb_at 264 rfl rfl, tb_at 265 rfl rfl, (tb_at 266 rfl rfl), tb_at 2 rfl rfl, tb_at 267 rfl rfl⟩, ⟨rfl, by decide, by decide, by decide +kernel⟩, by decide, ⟨_, rfl, rfl⟩, by decide, rfl⟩
set_option maxRecDepth 20000 in
theorem cv_X6_80 : CV_ RX6 80 0 M_X0_countInner 0 := ⟨⟨tb_at 272 rfl rfl, tb_at 273 rfl rfl, (tb_at 274 rfl rfl), tb_at 2 rfl rfl, tb_at 275 rfl rfl⟩, ⟨rfl, by decide, by decide, by decide +kernel⟩, by decide, ⟨_, rfl, rfl⟩, by decide, rfl⟩
set_option maxRecDepth 20000 in
theorem cv_X6_102 : CV_ RX6 102 2 M_X2_overlapsAny 2 := ⟨⟨tb_at 307 rfl rfl, tb_at 308 rfl rfl, (tb_at 309 rfl rfl), tb_at 3 rfl rfl, tb_at 310 rfl rfl⟩, ⟨rfl, by decide, by decide, by decide +kernel⟩, by decide, ⟨_, rfl, rfl⟩, by decide, rfl⟩
set_option maxRecDepth 20000 in
theorem cv_X6_106 : CV_ RX6 106 2 M_X2_ever 0 := ⟨⟨tb_at 311 rfl rfl, tb_at 312 rfl rfl, (tb_at 313 rfl rfl), tb_at 3 rfl rfl, tb_at 314 rfl rfl⟩, ⟨rfl, by decide, by decide, by decide +kernel⟩, by decide, ⟨_, rfl, rfl⟩, by decide, rfl⟩
set_option maxRecDepth 20000 in
theorem cv_X6_109 : CV_ RX6 109 2 M_X2_add 6 := ⟨⟨tb_at 315 rfl rfl, tb_at 316 rfl rfl, (tb_at 317 rfl rfl), tb_at 3 rfl rfl, tb_at 318 rfl rfl⟩, ⟨rfl, by decide, by decide, by decide +kernel⟩, by decide, ⟨_, rfl, rfl⟩, by decide, rfl⟩
set_option maxRecDepth 20000 in
theorem cv_X6_113 : CV_ RX6 113 6 M_X6_refusalOf 1 := ⟨⟨tb_at 351 rfl rfl, tb_at 353 rfl rfl, (tb_sel (q := (yX6_refusalOf, _)) 4 rfl), tb_at 1 rfl rfl, tb_at 354 rfl rfl⟩, ⟨rfl, by decide, by decide, by decide +kernel⟩, by decide, ⟨_, rfl, rfl⟩, by decide, rfl⟩
set_option maxRecDepth 20000 in
theorem cv_X6_116 : CV_ RX6 116 2 M_X2_remove 1 := ⟨⟨tb_at 360 rfl rfl, tb_at 361 rfl rfl, (tb_at 362 rfl rfl), tb_at 3 rfl rfl, tb_at 363 rfl rfl⟩, ⟨rfl, by decide, by decide, by decide +kernel⟩, by decide, ⟨_, rfl, rfl⟩, by decide, rfl⟩
set_option maxRecDepth 20000 in
theorem cv_X6_120 : CV_ RX6 120 2 M_X2_brickAt 3 := ⟨⟨tb_at 370 rfl rfl, tb_at 371 rfl rfl, (tb_at 372 rfl rfl), tb_at 3 rfl rfl, tb_at 373 rfl rfl⟩, ⟨rfl, by decide, by decide, by decide +kernel⟩, by decide, ⟨_, rfl, rfl⟩, by decide, rfl⟩
set_option maxRecDepth 20000 in
theorem cv_X6_123 : CV_ RX6 123 2 M_X2_exists 1 := ⟨⟨tb_at 355 rfl rfl, tb_at 335 rfl rfl, (tb_at 336 rfl rfl), tb_at 3 rfl rfl, tb_at 337 rfl rfl⟩, ⟨rfl, by decide, by decide, by decide +kernel⟩, by decide, ⟨_, rfl, rfl⟩, by decide, rfl⟩
set_option maxRecDepth 20000 in
theorem cv_X6_126 : CV_ RX6 126 2 M_X2_isThere 1 := ⟨⟨tb_at 356 rfl rfl, tb_at 357 rfl rfl, (tb_at 358 rfl rfl), tb_at 3 rfl rfl, tb_at 359 rfl rfl⟩, ⟨rfl, by decide, by decide, by decide +kernel⟩, by decide, ⟨_, rfl, rfl⟩, by decide, rfl⟩
set_option maxRecDepth 20000 in
theorem cv_X6_129 : CV_ RX6 129 2 M_X2_sharedStuds 2 := ⟨⟨tb_at 378 rfl rfl, tb_at 331 rfl rfl, (tb_at 332 rfl rfl), tb_at 3 rfl rfl, tb_at 333 rfl rfl⟩, ⟨rfl, by decide, by decide, by decide +kernel⟩, by decide, ⟨_, rfl, rfl⟩, by decide, rfl⟩
set_option maxRecDepth 20000 in
theorem cv_X6_132 : CV_ RX6 132 4 M_X4_countPieces 0 := ⟨⟨tb_at 383 rfl rfl, tb_at 384 rfl rfl, (tb_at 385 rfl rfl), tb_at 4 rfl rfl, tb_at 386 rfl rfl⟩, ⟨rfl, by decide, by decide, by decide +kernel⟩, by decide, ⟨_, rfl, rfl⟩, by decide, rfl⟩
set_option maxRecDepth 20000 in
theorem cv_X6_135 : CV_ RX6 135 4 M_X4_numberOfPiece 1 := ⟨⟨tb_at 408 rfl rfl, tb_at 409 rfl rfl, (tb_at 410 rfl rfl), tb_at 4 rfl rfl, tb_at 411 rfl rfl⟩, ⟨rfl, by decide, by decide, by decide +kernel⟩, by decide, ⟨_, rfl, rfl⟩, by decide, rfl⟩
set_option maxRecDepth 20000 in
theorem cv_X6_138 : CV_ RX6 138 4 M_X4_pieceNumbered 1 := ⟨⟨tb_at 416 rfl rfl, tb_at 417 rfl rfl, (tb_at 418 rfl rfl), tb_at 4 rfl rfl, tb_at 419 rfl rfl⟩, ⟨rfl, by decide, by decide, by decide +kernel⟩, by decide, ⟨_, rfl, rfl⟩, by decide, rfl⟩
set_option maxRecDepth 20000 in
theorem cv_X6_142 : CV_ RX6 142 4 M_X4_weight 1 := ⟨⟨tb_at 420 rfl rfl, tb_at 421 rfl rfl, (tb_at 422 rfl rfl), tb_at 4 rfl rfl, tb_at 423 rfl rfl⟩, ⟨rfl, by decide, by decide, by decide +kernel⟩, by decide, ⟨_, rfl, rfl⟩, by decide, rfl⟩
set_option maxRecDepth 20000 in
theorem cv_X6_146 : CV_ RX6 146 4 M_X4_floats 1 := ⟨⟨tb_at 428 rfl rfl, tb_at 429 rfl rfl, (tb_at 430 rfl rfl), tb_at 4 rfl rfl, tb_at 431 rfl rfl⟩, ⟨rfl, by decide, by decide, by decide +kernel⟩, by decide, ⟨_, rfl, rfl⟩, by decide, rfl⟩
set_option maxRecDepth 20000 in
theorem cv_X6_150 : CV_ RX6 150 4 M_X4_stands 1 := ⟨⟨tb_at 436 rfl rfl, tb_at 437 rfl rfl, (tb_at 438 rfl rfl), tb_at 4 rfl rfl, tb_at 439 rfl rfl⟩, ⟨rfl, by decide, by decide, by decide +kernel⟩, by decide, ⟨_, rfl, rfl⟩, by decide, rfl⟩
set_option maxRecDepth 20000 in
theorem cv_X6_158 : CV_ RX6 158 2 M_X2_there 0 := ⟨⟨tb_at 477 rfl rfl, tb_at 388 rfl rfl, (tb_at 389 rfl rfl), tb_at 3 rfl rfl, tb_at 390 rfl rfl⟩, ⟨rfl, by decide, by decide, by decide +kernel⟩, by decide, ⟨_, rfl, rfl⟩, by decide, rfl⟩
set_option maxRecDepth 20000 in
theorem cv_X6_162 : CV_ RX6 162 4 M_X4_pieceWith 2 := ⟨⟨tb_at 478 rfl rfl, tb_at 479 rfl rfl, (tb_at 480 rfl rfl), tb_at 4 rfl rfl, tb_at 481 rfl rfl⟩, ⟨rfl, by decide, by decide, by decide +kernel⟩, by decide, ⟨_, rfl, rfl⟩, by decide, rfl⟩
set_option maxRecDepth 20000 in
theorem cv_X6_166 : CV_ RX6 166 4 M_X4_isKey 2 := ⟨⟨tb_at 482 rfl rfl, tb_at 483 rfl rfl, (tb_at 484 rfl rfl), tb_at 4 rfl rfl, tb_at 485 rfl rfl⟩, ⟨rfl, by decide, by decide, by decide +kernel⟩, by decide, ⟨_, rfl, rfl⟩, by decide, rfl⟩
set_option maxRecDepth 20000 in
theorem cv_X6_170 : CV_ RX6 170 4 M_X4_countWeak 2 := ⟨⟨tb_at 490 rfl rfl, tb_at 491 rfl rfl, (tb_at 492 rfl rfl), tb_at 4 rfl rfl, tb_at 493 rfl rfl⟩, ⟨rfl, by decide, by decide, by decide +kernel⟩, by decide, ⟨_, rfl, rfl⟩, by decide, rfl⟩
set_option maxRecDepth 20000 in
theorem cv_X6_174 : CV_ RX6 174 4 M_X4_isSound 0 := ⟨⟨tb_at 504 rfl rfl, tb_at 505 rfl rfl, (tb_at 506 rfl rfl), tb_at 4 rfl rfl, tb_at 507 rfl rfl⟩, ⟨rfl, by decide, by decide, by decide +kernel⟩, by decide, ⟨_, rfl, rfl⟩, by decide, rfl⟩
set_option maxRecDepth 20000 in
theorem cv_X6_178 : CV_ RX6 178 4 M_X4_changeGrip 1 := ⟨⟨tb_at 518 rfl rfl, tb_at 519 rfl rfl, (tb_at 520 rfl rfl), tb_at 4 rfl rfl, tb_at 521 rfl rfl⟩, ⟨rfl, by decide, by decide, by decide +kernel⟩, by decide, ⟨_, rfl, rfl⟩, by decide, rfl⟩
set_option maxRecDepth 20000 in
theorem cv_X6_181 : CV_ RX6 181 6 M_X6_fault 3 := ⟨⟨tb_at 526 rfl rfl, tb_at 528 rfl rfl, (tb_sel (q := (yX6_fault, _)) 10 rfl), tb_at 1 rfl rfl, tb_at 529 rfl rfl⟩, ⟨rfl, by decide, by decide, by decide +kernel⟩, by decide, ⟨_, rfl, rfl⟩, by decide, rfl⟩
set_option maxRecDepth 20000 in
theorem cv_X6_184 : CV_ RX6 184 2 M_X2_countSeams 1 := ⟨⟨tb_at 539 rfl rfl, tb_at 540 rfl rfl, (tb_at 541 rfl rfl), tb_at 3 rfl rfl, tb_at 542 rfl rfl⟩, ⟨rfl, by decide, by decide, by decide +kernel⟩, by decide, ⟨_, rfl, rfl⟩, by decide, rfl⟩
set_option maxRecDepth 20000 in
theorem cv_X6_188 : CV_ RX6 188 6 M_X6_refusalOfCover 2 := ⟨⟨tb_at 559 rfl rfl, tb_at 561 rfl rfl, (tb_sel (q := (yX6_refusalOfCover, _)) 11 rfl), tb_at 1 rfl rfl, tb_at 562 rfl rfl⟩, ⟨rfl, by decide, by decide, by decide +kernel⟩, by decide, ⟨_, rfl, rfl⟩, by decide, rfl⟩
set_option maxRecDepth 20000 in
theorem cv_X6_191 : CV_ RX6 191 3 M_X3_length 0 := ⟨⟨tb_at 643 rfl rfl, tb_at 644 rfl rfl, (tb_at 645 rfl rfl), tb_at 5 rfl rfl, tb_at 646 rfl rfl⟩, ⟨rfl, by decide, by decide, by decide +kernel⟩, by decide, ⟨_, rfl, rfl⟩, by decide, rfl⟩
set_option maxRecDepth 20000 in
theorem cv_X6_194 : CV_ RX6 194 3 M_X3_newSeams 0 := ⟨⟨tb_at 651 rfl rfl, tb_at 652 rfl rfl, (tb_at 653 rfl rfl), tb_at 5 rfl rfl, tb_at 654 rfl rfl⟩, ⟨rfl, by decide, by decide, by decide +kernel⟩, by decide, ⟨_, rfl, rfl⟩, by decide, rfl⟩
set_option maxRecDepth 20000 in
theorem cv_X6_197 : CV_ RX6 197 3 M_X3_toldAt 1 := ⟨⟨tb_at 659 rfl rfl, tb_at 660 rfl rfl, (tb_at 661 rfl rfl), tb_at 5 rfl rfl, tb_at 662 rfl rfl⟩, ⟨rfl, by decide, by decide, by decide +kernel⟩, by decide, ⟨_, rfl, rfl⟩, by decide, rfl⟩
set_option maxRecDepth 20000 in
theorem cv_X6_200 : CV_ RX6 200 1 M_X1_fill 2 := ⟨⟨tb_at 671 rfl rfl, tb_at 672 rfl rfl, (tb_at 673 rfl rfl), tb_at 7 rfl rfl, tb_at 674 rfl rfl⟩, ⟨rfl, by decide, by decide, by decide +kernel⟩, by decide, ⟨_, rfl, rfl⟩, by decide, rfl⟩
set_option maxRecDepth 20000 in
theorem cv_X6_203 : CV_ RX6 203 1 M_X1_settle 0 := ⟨⟨tb_at 680 rfl rfl, tb_at 681 rfl rfl, (tb_at 682 rfl rfl), tb_at 7 rfl rfl, tb_at 683 rfl rfl⟩, ⟨rfl, by decide, by decide, by decide +kernel⟩, by decide, ⟨_, rfl, rfl⟩, by decide, rfl⟩
set_option maxRecDepth 20000 in
theorem cv_X6_206 : CV_ RX6 206 1 M_X1_shortOf 1 := ⟨⟨tb_at 699 rfl rfl, tb_at 700 rfl rfl, (tb_at 701 rfl rfl), tb_at 7 rfl rfl, tb_at 702 rfl rfl⟩, ⟨rfl, by decide, by decide, by decide +kernel⟩, by decide, ⟨_, rfl, rfl⟩, by decide, rfl⟩
set_option maxRecDepth 20000 in
theorem cv_X6_209 : CV_ RX6 209 2 M_X2_howMany 0 := ⟨⟨tb_at 711 rfl rfl, tb_at 712 rfl rfl, (tb_at 713 rfl rfl), tb_at 3 rfl rfl, tb_at 714 rfl rfl⟩, ⟨rfl, by decide, by decide, by decide +kernel⟩, by decide, ⟨_, rfl, rfl⟩, by decide, rfl⟩
set_option maxRecDepth 20000 in
theorem cv_X6_212 : CV_ RX6 212 5 M_X5_findRow 0 := ⟨⟨tb_at 715 rfl rfl, tb_at 716 rfl rfl, (tb_at 717 rfl rfl), tb_at 6 rfl rfl, tb_at 718 rfl rfl⟩, ⟨rfl, by decide, by decide, by decide +kernel⟩, by decide, ⟨_, rfl, rfl⟩, by decide, rfl⟩
set_option maxRecDepth 20000 in
theorem cv_X6_215 : CV_ RX6 215 5 M_X5_brickAtStep 1 := ⟨⟨tb_at 737 rfl rfl, tb_at 738 rfl rfl, (tb_at 739 rfl rfl), tb_at 6 rfl rfl, tb_at 740 rfl rfl⟩, ⟨rfl, by decide, by decide, by decide +kernel⟩, by decide, ⟨_, rfl, rfl⟩, by decide, rfl⟩
set_option maxRecDepth 20000 in
theorem cv_X6_218 : CV_ RX6 218 2 M_X2_colourSeen 3 := ⟨⟨tb_at 745 rfl rfl, tb_at 746 rfl rfl, (tb_at 747 rfl rfl), tb_at 3 rfl rfl, tb_at 748 rfl rfl⟩, ⟨rfl, by decide, by decide, by decide +kernel⟩, by decide, ⟨_, rfl, rfl⟩, by decide, rfl⟩
set_option maxRecDepth 20000 in
theorem cv_X6_221 : CV_ RX6 221 2 M_X2_told 2 := ⟨⟨tb_at 758 rfl rfl, tb_at 451 rfl rfl, (tb_at 452 rfl rfl), tb_at 3 rfl rfl, tb_at 453 rfl rfl⟩, ⟨rfl, by decide, by decide, by decide +kernel⟩, by decide, ⟨_, rfl, rfl⟩, by decide, rfl⟩
set_option maxRecDepth 20000 in
theorem cv_X6_224 : CV_ RX6 224 0 M_X0_countCells 0 := ⟨⟨tb_at 763 rfl rfl, tb_at 764 rfl rfl, (tb_at 765 rfl rfl), tb_at 2 rfl rfl, tb_at 766 rfl rfl⟩, ⟨rfl, by decide, by decide, by decide +kernel⟩, by decide, ⟨_, rfl, rfl⟩, by decide, rfl⟩
set_option maxRecDepth 20000 in
theorem cv_X6_227 : CV_ RX6 227 4 M_X4_countKeys 0 := ⟨⟨tb_at 767 rfl rfl, tb_at 768 rfl rfl, (tb_at 769 rfl rfl), tb_at 4 rfl rfl, tb_at 770 rfl rfl⟩, ⟨rfl, by decide, by decide, by decide +kernel⟩, by decide, ⟨_, rfl, rfl⟩, by decide, rfl⟩
set_option maxRecDepth 20000 in
theorem cv_X6_230 : CV_ RX6 230 4 M_X4_countFloating 0 := ⟨⟨tb_at 774 rfl rfl, tb_at 775 rfl rfl, (tb_at 776 rfl rfl), tb_at 4 rfl rfl, tb_at 777 rfl rfl⟩, ⟨rfl, by decide, by decide, by decide +kernel⟩, by decide, ⟨_, rfl, rfl⟩, by decide, rfl⟩
set_option maxRecDepth 20000 in
theorem cv_X6_233 : CV_ RX6 233 4 M_X4_currentGrip 0 := ⟨⟨tb_at 778 rfl rfl, tb_at 779 rfl rfl, (tb_at 780 rfl rfl), tb_at 4 rfl rfl, tb_at 781 rfl rfl⟩, ⟨rfl, by decide, by decide, by decide +kernel⟩, by decide, ⟨_, rfl, rfl⟩, by decide, rfl⟩
set_option maxRecDepth 20000 in
theorem cv_X6_236 : CV_ RX6 236 3 M_X3_forget 0 := ⟨⟨tb_at 244 rfl rfl, tb_at 245 rfl rfl, (tb_at 246 rfl rfl), tb_at 5 rfl rfl, tb_at 247 rfl rfl⟩, ⟨rfl, by decide, by decide, by decide +kernel⟩, by decide, ⟨_, rfl, rfl⟩, by decide, rfl⟩
set_option maxRecDepth 20000 in
theorem cv_X6_239 : CV_ RX6 239 5 M_X5_forget 0 := ⟨⟨tb_at 248 rfl rfl, tb_at 249 rfl rfl, (tb_at 250 rfl rfl), tb_at 6 rfl rfl, tb_at 251 rfl rfl⟩, ⟨rfl, by decide, by decide, by decide +kernel⟩, by decide, ⟨_, rfl, rfl⟩, by decide, rfl⟩
set_option maxRecDepth 20000 in
theorem cv_X6_240 : CV_ RX6 240 3 M_X3_findBest 2 := ⟨⟨tb_at 563 rfl rfl, tb_at 564 rfl rfl, (tb_at 565 rfl rfl), tb_at 5 rfl rfl, tb_at 566 rfl rfl⟩, ⟨rfl, by decide, by decide, by decide +kernel⟩, by decide, ⟨_, rfl, rfl⟩, by decide, rfl⟩
set_option maxRecDepth 20000 in
theorem cv_X6_244 : CV_ RX6 244 2 M_X2_colourOf 1 := ⟨⟨tb_at 530 rfl rfl, tb_at 531 rfl rfl, (tb_at 532 rfl rfl), tb_at 3 rfl rfl, tb_at 533 rfl rfl⟩, ⟨rfl, by decide, by decide, by decide +kernel⟩, by decide, ⟨_, rfl, rfl⟩, by decide, rfl⟩
set_option maxRecDepth 20000 in
theorem cv_X6_247 : CV_ RX6 247 0 M_X0_isInner 3 := ⟨⟨tb_at 534 rfl rfl, tb_at 277 rfl rfl, (tb_at 278 rfl rfl), tb_at 2 rfl rfl, tb_at 279 rfl rfl⟩, ⟨rfl, by decide, by decide, by decide +kernel⟩, by decide, ⟨_, rfl, rfl⟩, by decide, rfl⟩
set_option maxRecDepth 20000 in
theorem gf_X7_7 {X : CX} {cc : ByteArray} {d pc : Nat} {lv : List (Nat × Value)} {st : List Value} {h : Hp} (hX : Ok_ X RX7 cc d) (hdg : decode cc pc = .ok (.getfield 7, 3)) (k : At_ X (pc + 3) lv (.ref 38 :: st) h) : At_ X pc lv (.ref 7 :: st) h := at_getf hX (o := 7) (k := 0) (C := RX7) (T := TX7) (N := 34) rfl (by decide) twX7 (tb_at 789 rfl rfl) (2, 38) rfl rfl (by decide) rfl hdg k -- refusals
set_option maxRecDepth 20000 in
theorem gf_X7_13 {X : CX} {cc : ByteArray} {d pc : Nat} {lv : List (Nat × Value)} {st : List Value} {h : Hp} (hX : Ok_ X RX7 cc d) (hdg : decode cc pc = .ok (.getfield 13, 3)) (k : At_ X (pc + 3) lv (.ref 39 :: st) h) : At_ X pc lv (.ref 7 :: st) h := at_getf hX (o := 7) (k := 1) (C := RX7) (T := TX7) (N := 34) rfl (by decide) twX7 (tb_at 790 rfl rfl) (2, 39) rfl rfl (by decide) rfl hdg k -- body
set_option maxRecDepth 20000 in
theorem gf_X7_16 {X : CX} {cc : ByteArray} {d pc : Nat} {lv : List (Nat × Value)} {st : List Value} {h : Hp} (hX : Ok_ X RX7 cc d) (hdg : decode cc pc = .ok (.getfield 16, 3)) (k : At_ X (pc + 3) lv (.ref 40 :: st) h) : At_ X pc lv (.ref 7 :: st) h := at_getf hX (o := 7) (k := 2) (C := RX7) (T := TX7) (N := 34) rfl (by decide) twX7 (tb_at 791 rfl rfl) (2, 40) rfl rfl (by decide) rfl hdg k -- grid
set_option maxRecDepth 20000 in
theorem gf_X7_19 {X : CX} {cc : ByteArray} {d pc : Nat} {lv : List (Nat × Value)} {st : List Value} {h : Hp} (hX : Ok_ X RX7 cc d) (hdg : decode cc pc = .ok (.getfield 19, 3)) (k : At_ X (pc + 3) lv (.ref 41 :: st) h) : At_ X pc lv (.ref 7 :: st) h := at_getf hX (o := 7) (k := 3) (C := RX7) (T := TX7) (N := 34) rfl (by decide) twX7 (tb_at 792 rfl rfl) (2, 41) rfl rfl (by decide) rfl hdg k -- box
set_option maxRecDepth 20000 in
theorem gf_X7_22 {X : CX} {cc : ByteArray} {d pc : Nat} {lv : List (Nat × Value)} {st : List Value} {h : Hp} (hX : Ok_ X RX7 cc d) (hdg : decode cc pc = .ok (.getfield 22, 3)) (k : At_ X (pc + 3) lv (.ref 42 :: st) h) : At_ X pc lv (.ref 7 :: st) h := at_getf hX (o := 7) (k := 4) (C := RX7) (T := TX7) (N := 34) rfl (by decide) twX7 (tb_at 793 rfl rfl) (2, 42) rfl rfl (by decide) rfl hdg k -- kind
set_option maxRecDepth 20000 in
theorem gf_X7_25 {X : CX} {cc : ByteArray} {d pc : Nat} {lv : List (Nat × Value)} {st : List Value} {h : Hp} (hX : Ok_ X RX7 cc d) (hdg : decode cc pc = .ok (.getfield 25, 3)) (k : At_ X (pc + 3) lv (.ref 43 :: st) h) : At_ X pc lv (.ref 7 :: st) h := at_getf hX (o := 7) (k := 5) (C := RX7) (T := TX7) (N := 34) rfl (by decide) twX7 (tb_at 794 rfl rfl) (2, 43) rfl rfl (by decide) rfl hdg k -- turn
set_option maxRecDepth 20000 in
theorem gf_X7_28 {X : CX} {cc : ByteArray} {d pc : Nat} {lv : List (Nat × Value)} {st : List Value} {h : Hp} (hX : Ok_ X RX7 cc d) (hdg : decode cc pc = .ok (.getfield 28, 3)) (k : At_ X (pc + 3) lv (.ref 44 :: st) h) : At_ X pc lv (.ref 7 :: st) h := at_getf hX (o := 7) (k := 6) (C := RX7) (T := TX7) (N := 34) rfl (by decide) twX7 (tb_at 795 rfl rfl) (2, 44) rfl rfl (by decide) rfl hdg k -- px
set_option maxRecDepth 20000 in
theorem gf_X7_31 {X : CX} {cc : ByteArray} {d pc : Nat} {lv : List (Nat × Value)} {st : List Value} {h : Hp} (hX : Ok_ X RX7 cc d) (hdg : decode cc pc = .ok (.getfield 31, 3)) (k : At_ X (pc + 3) lv (.ref 45 :: st) h) : At_ X pc lv (.ref 7 :: st) h := at_getf hX (o := 7) (k := 7) (C := RX7) (T := TX7) (N := 34) rfl (by decide) twX7 (tb_at 796 rfl rfl) (2, 45) rfl rfl (by decide) rfl hdg k -- py
set_option maxRecDepth 20000 in
theorem gf_X7_34 {X : CX} {cc : ByteArray} {d pc : Nat} {lv : List (Nat × Value)} {st : List Value} {h : Hp} (hX : Ok_ X RX7 cc d) (hdg : decode cc pc = .ok (.getfield 34, 3)) (k : At_ X (pc + 3) lv (.ref 46 :: st) h) : At_ X pc lv (.ref 7 :: st) h := at_getf hX (o := 7) (k := 8) (C := RX7) (T := TX7) (N := 34) rfl (by decide) twX7 (tb_at 797 rfl rfl) (2, 46) rfl rfl (by decide) rfl hdg k -- pz
set_option maxRecDepth 20000 in
theorem gf_X7_37 {X : CX} {cc : ByteArray} {d pc : Nat} {lv : List (Nat × Value)} {st : List Value} {h : Hp} (hX : Ok_ X RX7 cc d) (hdg : decode cc pc = .ok (.getfield 37, 3)) (k : At_ X (pc + 3) lv (.ref 47 :: st) h) : At_ X pc lv (.ref 7 :: st) h := at_getf hX (o := 7) (k := 9) (C := RX7) (T := TX7) (N := 34) rfl (by decide) twX7 (tb_at 798 rfl rfl) (2, 47) rfl rfl (by decide) rfl hdg k -- colour
set_option maxRecDepth 20000 in
theorem gf_X7_40 {X : CX} {cc : ByteArray} {d pc : Nat} {lv : List (Nat × Value)} {st : List Value} {h : Hp} (hX : Ok_ X RX7 cc d) (hdg : decode cc pc = .ok (.getfield 40, 3)) (k : At_ X (pc + 3) lv (.int (gI_ h 459) :: st) h) : At_ X pc lv (.ref 7 :: st) h := at_getf hX (o := 7) (k := 11) (C := RX7) (T := TX7) (N := 34) rfl (by decide) twX7 (tb_at 800 rfl rfl) (0, 459) rfl rfl (by decide) rfl hdg k -- grip
set_option maxRecDepth 20000 in
theorem gf_X7_44 {X : CX} {cc : ByteArray} {d pc : Nat} {lv : List (Nat × Value)} {st : List Value} {h : Hp} (hX : Ok_ X RX7 cc d) (hdg : decode cc pc = .ok (.getfield 44, 3)) (k : At_ X (pc + 3) lv (.ref 48 :: st) h) : At_ X pc lv (.ref 7 :: st) h := at_getf hX (o := 7) (k := 13) (C := RX7) (T := TX7) (N := 34) rfl (by decide) twX7 (tb_at 802 rfl rfl) (2, 48) rfl rfl (by decide) rfl hdg k -- beside
set_option maxRecDepth 20000 in
theorem gf_X7_48 {X : CX} {cc : ByteArray} {d pc : Nat} {lv : List (Nat × Value)} {st : List Value} {h : Hp} (hX : Ok_ X RX7 cc d) (hdg : decode cc pc = .ok (.getfield 48, 3)) (k : At_ X (pc + 3) lv (.ref 49 :: st) h) : At_ X pc lv (.ref 7 :: st) h := at_getf hX (o := 7) (k := 14) (C := RX7) (T := TX7) (N := 34) rfl (by decide) twX7 (tb_at 803 rfl rfl) (2, 49) rfl rfl (by decide) rfl hdg k -- least
set_option maxRecDepth 20000 in
theorem gf_X7_51 {X : CX} {cc : ByteArray} {d pc : Nat} {lv : List (Nat × Value)} {st : List Value} {h : Hp} (hX : Ok_ X RX7 cc d) (hdg : decode cc pc = .ok (.getfield 51, 3)) (k : At_ X (pc + 3) lv (.ref 50 :: st) h) : At_ X pc lv (.ref 7 :: st) h := at_getf hX (o := 7) (k := 15) (C := RX7) (T := TX7) (N := 34) rfl (by decide) twX7 (tb_at 804 rfl rfl) (2, 50) rfl rfl (by decide) rfl hdg k -- most
set_option maxRecDepth 20000 in
theorem gf_X7_54 {X : CX} {cc : ByteArray} {d pc : Nat} {lv : List (Nat × Value)} {st : List Value} {h : Hp} (hX : Ok_ X RX7 cc d) (hdg : decode cc pc = .ok (.getfield 54, 3)) (k : At_ X (pc + 3) lv (.ref 51 :: st) h) : At_ X pc lv (.ref 7 :: st) h := at_getf hX (o := 7) (k := 16) (C := RX7) (T := TX7) (N := 34) rfl (by decide) twX7 (tb_at 805 rfl rfl) (2, 51) rfl rfl (by decide) rfl hdg k -- cornerX
set_option maxRecDepth 20000 in
theorem gf_X7_57 {X : CX} {cc : ByteArray} {d pc : Nat} {lv : List (Nat × Value)} {st : List Value} {h : Hp} (hX : Ok_ X RX7 cc d) (hdg : decode cc pc = .ok (.getfield 57, 3)) (k : At_ X (pc + 3) lv (.ref 52 :: st) h) : At_ X pc lv (.ref 7 :: st) h := at_getf hX (o := 7) (k := 17) (C := RX7) (T := TX7) (N := 34) rfl (by decide) twX7 (tb_at 806 rfl rfl) (2, 52) rfl rfl (by decide) rfl hdg k -- cornerY
set_option maxRecDepth 20000 in
theorem gf_X7_60 {X : CX} {cc : ByteArray} {d pc : Nat} {lv : List (Nat × Value)} {st : List Value} {h : Hp} (hX : Ok_ X RX7 cc d) (hdg : decode cc pc = .ok (.getfield 60, 3)) (k : At_ X (pc + 3) lv (.ref 53 :: st) h) : At_ X pc lv (.ref 7 :: st) h := at_getf hX (o := 7) (k := 18) (C := RX7) (T := TX7) (N := 34) rfl (by decide) twX7 (tb_at 807 rfl rfl) (2, 53) rfl rfl (by decide) rfl hdg k -- pieces
set_option maxRecDepth 20000 in
theorem gf_X7_63 {X : CX} {cc : ByteArray} {d pc : Nat} {lv : List (Nat × Value)} {st : List Value} {h : Hp} (hX : Ok_ X RX7 cc d) (hdg : decode cc pc = .ok (.getfield 63, 3)) (k : At_ X (pc + 3) lv (.ref 54 :: st) h) : At_ X pc lv (.ref 7 :: st) h := at_getf hX (o := 7) (k := 20) (C := RX7) (T := TX7) (N := 34) rfl (by decide) twX7 (tb_at 809 rfl rfl) (2, 54) rfl rfl (by decide) rfl hdg k -- open
set_option maxRecDepth 20000 in
theorem gf_X7_67 {X : CX} {cc : ByteArray} {d pc : Nat} {lv : List (Nat × Value)} {st : List Value} {h : Hp} (hX : Ok_ X RX7 cc d) (hdg : decode cc pc = .ok (.getfield 67, 3)) (k : At_ X (pc + 3) lv (.ref 55 :: st) h) : At_ X pc lv (.ref 7 :: st) h := at_getf hX (o := 7) (k := 21) (C := RX7) (T := TX7) (N := 34) rfl (by decide) twX7 (tb_at 810 rfl rfl) (2, 55) rfl rfl (by decide) rfl hdg k -- bricks
set_option maxRecDepth 20000 in
theorem gf_X7_70 {X : CX} {cc : ByteArray} {d pc : Nat} {lv : List (Nat × Value)} {st : List Value} {h : Hp} (hX : Ok_ X RX7 cc d) (hdg : decode cc pc = .ok (.getfield 70, 3)) (k : At_ X (pc + 3) lv (.ref 56 :: st) h) : At_ X pc lv (.ref 7 :: st) h := at_getf hX (o := 7) (k := 22) (C := RX7) (T := TX7) (N := 34) rfl (by decide) twX7 (tb_at 811 rfl rfl) (2, 56) rfl rfl (by decide) rfl hdg k -- costs
set_option maxRecDepth 20000 in
theorem gf_X7_73 {X : CX} {cc : ByteArray} {d pc : Nat} {lv : List (Nat × Value)} {st : List Value} {h : Hp} (hX : Ok_ X RX7 cc d) (hdg : decode cc pc = .ok (.getfield 73, 3)) (k : At_ X (pc + 3) lv (.ref 57 :: st) h) : At_ X pc lv (.ref 7 :: st) h := at_getf hX (o := 7) (k := 23) (C := RX7) (T := TX7) (N := 34) rfl (by decide) twX7 (tb_at 812 rfl rfl) (2, 57) rfl rfl (by decide) rfl hdg k -- indexOf
set_option maxRecDepth 20000 in
theorem gf_X7_76 {X : CX} {cc : ByteArray} {d pc : Nat} {lv : List (Nat × Value)} {st : List Value} {h : Hp} (hX : Ok_ X RX7 cc d) (hdg : decode cc pc = .ok (.getfield 76, 3)) (k : At_ X (pc + 3) lv (.ref 58 :: st) h) : At_ X pc lv (.ref 7 :: st) h := at_getf hX (o := 7) (k := 26) (C := RX7) (T := TX7) (N := 34) rfl (by decide) twX7 (tb_at 815 rfl rfl) (2, 58) rfl rfl (by decide) rfl hdg k -- shapes
set_option maxRecDepth 20000 in
theorem gf_X7_79 {X : CX} {cc : ByteArray} {d pc : Nat} {lv : List (Nat × Value)} {st : List Value} {h : Hp} (hX : Ok_ X RX7 cc d) (hdg : decode cc pc = .ok (.getfield 79, 3)) (k : At_ X (pc + 3) lv (.ref 59 :: st) h) : At_ X pc lv (.ref 7 :: st) h := at_getf hX (o := 7) (k := 27) (C := RX7) (T := TX7) (N := 34) rfl (by decide) twX7 (tb_at 816 rfl rfl) (2, 59) rfl rfl (by decide) rfl hdg k -- saved
set_option maxRecDepth 20000 in
theorem gf_X7_82 {X : CX} {cc : ByteArray} {d pc : Nat} {lv : List (Nat × Value)} {st : List Value} {h : Hp} (hX : Ok_ X RX7 cc d) (hdg : decode cc pc = .ok (.getfield 82, 3)) (k : At_ X (pc + 3) lv (.ref 60 :: st) h) : At_ X pc lv (.ref 7 :: st) h := at_getf hX (o := 7) (k := 28) (C := RX7) (T := TX7) (N := 34) rfl (by decide) twX7 (tb_at 817 rfl rfl) (2, 60) rfl rfl (by decide) rfl hdg k -- over
set_option maxRecDepth 20000 in
theorem gf_X7_85 {X : CX} {cc : ByteArray} {d pc : Nat} {lv : List (Nat × Value)} {st : List Value} {h : Hp} (hX : Ok_ X RX7 cc d) (hdg : decode cc pc = .ok (.getfield 85, 3)) (k : At_ X (pc + 3) lv (.ref 61 :: st) h) : At_ X pc lv (.ref 7 :: st) h := at_getf hX (o := 7) (k := 29) (C := RX7) (T := TX7) (N := 34) rfl (by decide) twX7 (tb_at 818 rfl rfl) (2, 61) rfl rfl (by decide) rfl hdg k -- lacking
set_option maxRecDepth 20000 in
theorem gf_X7_88 {X : CX} {cc : ByteArray} {d pc : Nat} {lv : List (Nat × Value)} {st : List Value} {h : Hp} (hX : Ok_ X RX7 cc d) (hdg : decode cc pc = .ok (.getfield 88, 3)) (k : At_ X (pc + 3) lv (.ref 62 :: st) h) : At_ X pc lv (.ref 7 :: st) h := at_getf hX (o := 7) (k := 30) (C := RX7) (T := TX7) (N := 34) rfl (by decide) twX7 (tb_at 819 rfl rfl) (2, 62) rfl rfl (by decide) rfl hdg k -- row
set_option maxRecDepth 20000 in
theorem gf_X7_91 {X : CX} {cc : ByteArray} {d pc : Nat} {lv : List (Nat × Value)} {st : List Value} {h : Hp} (hX : Ok_ X RX7 cc d) (hdg : decode cc pc = .ok (.getfield 91, 3)) (k : At_ X (pc + 3) lv (.ref 63 :: st) h) : At_ X pc lv (.ref 7 :: st) h := at_getf hX (o := 7) (k := 31) (C := RX7) (T := TX7) (N := 34) rfl (by decide) twX7 (tb_at 820 rfl rfl) (2, 63) rfl rfl (by decide) rfl hdg k -- dead
set_option maxRecDepth 20000 in
theorem gf_X7_95 {X : CX} {cc : ByteArray} {d pc : Nat} {lv : List (Nat × Value)} {st : List Value} {h : Hp} (hX : Ok_ X RX7 cc d) (hdg : decode cc pc = .ok (.getfield 95, 3)) (k : At_ X (pc + 3) lv (.ref 64 :: st) h) : At_ X pc lv (.ref 7 :: st) h := at_getf hX (o := 7) (k := 32) (C := RX7) (T := TX7) (N := 34) rfl (by decide) twX7 (tb_at 821 rfl rfl) (2, 64) rfl rfl (by decide) rfl hdg k -- some
set_option maxRecDepth 20000 in
theorem gf_X7_133 {X : CX} {cc : ByteArray} {d pc : Nat} {lv : List (Nat × Value)} {st : List Value} {h : Hp} (hX : Ok_ X RX7 cc d) (hdg : decode cc pc = .ok (.getfield 133, 3)) (k : At_ X (pc + 3) lv (.int (gI_ h 458) :: st) h) : At_ X pc lv (.ref 7 :: st) h := at_getf hX (o := 7) (k := 10) (C := RX7) (T := TX7) (N := 34) rfl (by decide) twX7 (tb_at 799 rfl rfl) (0, 458) rfl rfl (by decide) rfl hdg k -- ever
set_option maxRecDepth 20000 in
theorem gf_X7_140 {X : CX} {cc : ByteArray} {d pc : Nat} {lv : List (Nat × Value)} {st : List Value} {h : Hp} (hX : Ok_ X RX7 cc d) (hdg : decode cc pc = .ok (.getfield 140, 3)) (k : At_ X (pc + 3) lv (.long (gJ_ h 460) :: st) h) : At_ X pc lv (.ref 7 :: st) h := at_getf hX (o := 7) (k := 12) (C := RX7) (T := TX7) (N := 34) rfl (by decide) twX7 (tb_at 801 rfl rfl) (1, 460) rfl rfl (by decide) rfl hdg k -- there
set_option maxRecDepth 20000 in
theorem gf_X7_204 {X : CX} {cc : ByteArray} {d pc : Nat} {lv : List (Nat × Value)} {st : List Value} {h : Hp} (hX : Ok_ X RX7 cc d) (hdg : decode cc pc = .ok (.getfield 204, 3)) (k : At_ X (pc + 3) lv (.int (gI_ h 467) :: st) h) : At_ X pc lv (.ref 7 :: st) h := at_getf hX (o := 7) (k := 19) (C := RX7) (T := TX7) (N := 34) rfl (by decide) twX7 (tb_at 808 rfl rfl) (0, 467) rfl rfl (by decide) rfl hdg k -- pieceMany
set_option maxRecDepth 20000 in
theorem gf_X7_225 {X : CX} {cc : ByteArray} {d pc : Nat} {lv : List (Nat × Value)} {st : List Value} {h : Hp} (hX : Ok_ X RX7 cc d) (hdg : decode cc pc = .ok (.getfield 225, 3)) (k : At_ X (pc + 3) lv (.int (gI_ h 472) :: st) h) : At_ X pc lv (.ref 7 :: st) h := at_getf hX (o := 7) (k := 24) (C := RX7) (T := TX7) (N := 34) rfl (by decide) twX7 (tb_at 813 rfl rfl) (0, 472) rfl rfl (by decide) rfl hdg k -- opens
set_option maxRecDepth 20000 in
theorem gf_X7_250 {X : CX} {cc : ByteArray} {d pc : Nat} {lv : List (Nat × Value)} {st : List Value} {h : Hp} (hX : Ok_ X RX7 cc d) (hdg : decode cc pc = .ok (.getfield 250, 3)) (k : At_ X (pc + 3) lv (.int (gI_ h 473) :: st) h) : At_ X pc lv (.ref 7 :: st) h := at_getf hX (o := 7) (k := 25) (C := RX7) (T := TX7) (N := 34) rfl (by decide) twX7 (tb_at 814 rfl rfl) (0, 473) rfl rfl (by decide) rfl hdg k -- seamsAll
set_option maxRecDepth 20000 in
theorem gf_X7_277 {X : CX} {cc : ByteArray} {d pc : Nat} {lv : List (Nat × Value)} {st : List Value} {h : Hp} (hX : Ok_ X RX7 cc d) (hdg : decode cc pc = .ok (.getfield 277, 3)) (k : At_ X (pc + 3) lv (.int (gI_ h 481) :: st) h) : At_ X pc lv (.ref 7 :: st) h := at_getf hX (o := 7) (k := 33) (C := RX7) (T := TX7) (N := 34) rfl (by decide) twX7 (tb_at 822 rfl rfl) (0, 481) rfl rfl (by decide) rfl hdg k -- many
set_option maxRecDepth 20000 in
theorem gs_X7_120 {X : CX} {cc : ByteArray} {d pc : Nat} {lv : List (Nat × Value)} {st : List Value} {h : Hp} (hX : Ok_ X RX7 cc d) (hdg : decode cc pc = .ok (.getstatic 120, 3)) (k : At_ X (pc + 3) lv (.ref 71 :: st) h) : At_ X pc lv st h := at_gets hX (j := 6) rfl (tb_at 932 rfl rfl) hdg k -- LONG
set_option maxRecDepth 20000 in
theorem gs_X7_123 {X : CX} {cc : ByteArray} {d pc : Nat} {lv : List (Nat × Value)} {st : List Value} {h : Hp} (hX : Ok_ X RX7 cc d) (hdg : decode cc pc = .ok (.getstatic 123, 3)) (k : At_ X (pc + 3) lv (.ref 72 :: st) h) : At_ X pc lv st h := at_gets hX (j := 7) rfl (tb_at 934 rfl rfl) hdg k -- WIDE
set_option maxRecDepth 20000 in
theorem gs_X7_265 {X : CX} {cc : ByteArray} {d pc : Nat} {lv : List (Nat × Value)} {st : List Value} {h : Hp} (hX : Ok_ X RX7 cc d) (hdg : decode cc pc = .ok (.getstatic 265, 3)) (k : At_ X (pc + 3) lv (.ref 73 :: st) h) : At_ X pc lv st h := at_gets hX (j := 8) rfl (tb_at 1139 rfl rfl) hdg k -- FROM
set_option maxRecDepth 20000 in
theorem gs_X7_268 {X : CX} {cc : ByteArray} {d pc : Nat} {lv : List (Nat × Value)} {st : List Value} {h : Hp} (hX : Ok_ X RX7 cc d) (hdg : decode cc pc = .ok (.getstatic 268, 3)) (k : At_ X (pc + 3) lv (.ref 74 :: st) h) : At_ X pc lv st h := at_gets hX (j := 9) rfl (tb_at 1141 rfl rfl) hdg k -- AND
set_option maxRecDepth 20000 in
theorem cv_X7_98 : CS_ RX7 98 M_X7_isIn 2 := ⟨⟨tb_at 899 rfl rfl, tb_at 900 rfl rfl, tb_at 8 rfl rfl, tb_at 901 rfl rfl⟩, ⟨by decide, by decide, by decide +kernel⟩, by decide⟩
set_option maxRecDepth 20000 in
theorem cv_X7_102 : CS_ RX7 102 M_X7_isCell 3 := ⟨⟨tb_at 896 rfl rfl, tb_at 897 rfl rfl, tb_at 8 rfl rfl, tb_at 898 rfl rfl⟩, ⟨by decide, by decide, by decide +kernel⟩, by decide⟩
set_option maxRecDepth 20000 in
theorem cv_X7_110 : CS_ RX7 110 M_X7_cellAt 3 := ⟨⟨tb_at 906 rfl rfl, tb_at 907 rfl rfl, tb_at 8 rfl rfl, tb_at 908 rfl rfl⟩, ⟨by decide, by decide, by decide +kernel⟩, by decide⟩
set_option maxRecDepth 20000 in
theorem cv_X7_126 : CS_ RX7 126 M_X7_lengthY 2 := ⟨⟨tb_at 936 rfl rfl, tb_at 937 rfl rfl, tb_at 8 rfl rfl, tb_at 938 rfl rfl⟩, ⟨by decide, by decide, by decide +kernel⟩, by decide⟩
set_option maxRecDepth 20000 in
theorem cv_X7_130 : CS_ RX7 130 M_X7_lengthX 2 := ⟨⟨tb_at 929 rfl rfl, tb_at 930 rfl rfl, tb_at 8 rfl rfl, tb_at 931 rfl rfl⟩, ⟨by decide, by decide, by decide +kernel⟩, by decide⟩
set_option maxRecDepth 20000 in
theorem cv_X7_157 : CM_ RX7 157 Lib.Math.abs.name Lib.Math.abs.code 1 := ⟨tb_at 972 rfl rfl, tb_at 339 rfl rfl, tb_at 9 rfl rfl, tb_at 340 rfl rfl⟩
set_option maxRecDepth 20000 in
theorem cv_X7_162 : CM_ RX7 162 Lib.Math.min.name Lib.Math.min.code 2 := ⟨tb_at 973 rfl rfl, tb_at 461 rfl rfl, tb_at 9 rfl rfl, tb_at 462 rfl rfl⟩
set_option maxRecDepth 20000 in
theorem cv_X7_165 : CM_ RX7 165 Lib.Math.max.name Lib.Math.max.code 2 := ⟨tb_at 974 rfl rfl, tb_at 464 rfl rfl, tb_at 9 rfl rfl, tb_at 465 rfl rfl⟩
set_option maxRecDepth 20000 in
theorem cv_X7_171 : CS_ RX7 171 M_X7_first 1 := ⟨⟨tb_at 991 rfl rfl, tb_at 992 rfl rfl, tb_at 8 rfl rfl, tb_at 993 rfl rfl⟩, ⟨by decide, by decide, by decide +kernel⟩, by decide⟩
set_option maxRecDepth 20000 in
theorem cv_X7_213 : CS_ RX7 213 M_X7_bits 1 := ⟨⟨tb_at 1027 rfl rfl, tb_at 1028 rfl rfl, tb_at 8 rfl rfl, tb_at 1029 rfl rfl⟩, ⟨by decide, by decide, by decide +kernel⟩, by decide⟩
set_option maxRecDepth 20000 in
theorem cv_X7_219 : CS_ RX7 219 M_X7_wrong 3 := ⟨⟨tb_at 1054 rfl rfl, tb_at 1055 rfl rfl, tb_at 8 rfl rfl, tb_at 1056 rfl rfl⟩, ⟨by decide, by decide, by decide +kernel⟩, by decide⟩
set_option maxRecDepth 20000 in
theorem cv_X7_237 : CS_ RX7 237 M_X7_shapeAt 3 := ⟨⟨tb_at 1085 rfl rfl, tb_at 1086 rfl rfl, tb_at 8 rfl rfl, tb_at 1087 rfl rfl⟩, ⟨by decide, by decide, by decide +kernel⟩, by decide⟩
set_option maxRecDepth 20000 in
theorem cv_X7_243 : CS_ RX7 243 M_X7_firstOpen 1 := ⟨⟨tb_at 1100 rfl rfl, tb_at 1101 rfl rfl, tb_at 8 rfl rfl, tb_at 1102 rfl rfl⟩, ⟨by decide, by decide, by decide +kernel⟩, by decide⟩
set_option maxRecDepth 20000 in
theorem cv_X7_106 : CV_ RX7 106 7 M_X7_refuse 1 := ⟨⟨tb_at 902 rfl rfl, tb_at 904 rfl rfl, (tb_sel (q := (yX7_refuse, _)) 31 rfl), tb_at 8 rfl rfl, tb_at 905 rfl rfl⟩, ⟨rfl, by decide, by decide, by decide +kernel⟩, by decide, ⟨_, rfl, rfl⟩, by decide, rfl⟩
set_option maxRecDepth 20000 in
theorem cv_X7_114 : CV_ RX7 114 7 M_X7_isBody 3 := ⟨⟨tb_at 921 rfl rfl, tb_at 923 rfl rfl, (tb_sel (q := (yX7_isBody, _)) 33 rfl), tb_at 8 rfl rfl, tb_at 924 rfl rfl⟩, ⟨rfl, by decide, by decide, by decide +kernel⟩, by decide, ⟨_, rfl, rfl⟩, by decide, rfl⟩
set_option maxRecDepth 20000 in
theorem cv_X7_117 : CV_ RX7 117 7 M_X7_isInner 3 := ⟨⟨tb_at 917 rfl rfl, tb_at 919 rfl rfl, (tb_sel (q := (yX7_isInner, _)) 32 rfl), tb_at 8 rfl rfl, tb_at 920 rfl rfl⟩, ⟨rfl, by decide, by decide, by decide +kernel⟩, by decide, ⟨_, rfl, rfl⟩, by decide, rfl⟩
set_option maxRecDepth 20000 in
theorem cv_X7_136 : CV_ RX7 136 7 M_X7_fills 2 := ⟨⟨tb_at 943 rfl rfl, tb_at 945 rfl rfl, (tb_sel (q := (yX7_fills, _)) 35 rfl), tb_at 8 rfl rfl, tb_at 946 rfl rfl⟩, ⟨rfl, by decide, by decide, by decide +kernel⟩, by decide, ⟨_, rfl, rfl⟩, by decide, rfl⟩
set_option maxRecDepth 20000 in
theorem cv_X7_144 : CV_ RX7 144 7 M_X7_adds 6 := ⟨⟨tb_at 939 rfl rfl, tb_at 941 rfl rfl, (tb_sel (q := (yX7_adds, _)) 34 rfl), tb_at 8 rfl rfl, tb_at 942 rfl rfl⟩, ⟨rfl, by decide, by decide, by decide +kernel⟩, by decide, ⟨_, rfl, rfl⟩, by decide, rfl⟩
set_option maxRecDepth 20000 in
theorem cv_X7_148 : CV_ RX7 148 7 M_X7_isBrick 1 := ⟨⟨tb_at 951 rfl rfl, tb_at 953 rfl rfl, (tb_sel (q := (yX7_isBrick, _)) 36 rfl), tb_at 8 rfl rfl, tb_at 954 rfl rfl⟩, ⟨rfl, by decide, by decide, by decide +kernel⟩, by decide, ⟨_, rfl, rfl⟩, by decide, rfl⟩
set_option maxRecDepth 20000 in
theorem cv_X7_152 : CV_ RX7 152 7 M_X7_isThere 1 := ⟨⟨tb_at 955 rfl rfl, tb_at 957 rfl rfl, (tb_sel (q := (yX7_isThere, _)) 37 rfl), tb_at 8 rfl rfl, tb_at 958 rfl rfl⟩, ⟨rfl, by decide, by decide, by decide +kernel⟩, by decide, ⟨_, rfl, rfl⟩, by decide, rfl⟩
set_option maxRecDepth 20000 in
theorem cv_X7_168 : CV_ RX7 168 7 M_X7_studsOf 2 := ⟨⟨tb_at 968 rfl rfl, tb_at 970 rfl rfl, (tb_sel (q := (yX7_studsOf, _)) 38 rfl), tb_at 8 rfl rfl, tb_at 971 rfl rfl⟩, ⟨rfl, by decide, by decide, by decide +kernel⟩, by decide, ⟨_, rfl, rfl⟩, by decide, rfl⟩
set_option maxRecDepth 20000 in
theorem cv_X7_175 : CV_ RX7 175 7 M_X7_cells 1 := ⟨⟨tb_at 1010 rfl rfl, tb_at 1012 rfl rfl, (tb_sel (q := (yX7_cells, _)) 44 rfl), tb_at 8 rfl rfl, tb_at 1013 rfl rfl⟩, ⟨rfl, by decide, by decide, by decide +kernel⟩, by decide, ⟨_, rfl, rfl⟩, by decide, rfl⟩
set_option maxRecDepth 20000 in
theorem cv_X7_180 : CV_ RX7 180 7 M_X7_weight 1 := ⟨⟨tb_at 1006 rfl rfl, tb_at 1008 rfl rfl, (tb_sel (q := (yX7_weight, _)) 43 rfl), tb_at 8 rfl rfl, tb_at 1009 rfl rfl⟩, ⟨rfl, by decide, by decide, by decide +kernel⟩, by decide, ⟨_, rfl, rfl⟩, by decide, rfl⟩
set_option maxRecDepth 20000 in
theorem cv_X7_183 : CV_ RX7 183 7 M_X7_isBorder 3 := ⟨⟨tb_at 1023 rfl rfl, tb_at 1025 rfl rfl, (tb_sel (q := (yX7_isBorder, _)) 47 rfl), tb_at 8 rfl rfl, tb_at 1026 rfl rfl⟩, ⟨rfl, by decide, by decide, by decide +kernel⟩, by decide, ⟨_, rfl, rfl⟩, by decide, rfl⟩
set_option maxRecDepth 20000 in
theorem cv_X7_186 : CV_ RX7 186 7 M_X7_pieceIn 1 := ⟨⟨tb_at 987 rfl rfl, tb_at 989 rfl rfl, (tb_sel (q := (yX7_pieceIn, _)) 41 rfl), tb_at 8 rfl rfl, tb_at 990 rfl rfl⟩, ⟨rfl, by decide, by decide, by decide +kernel⟩, by decide, ⟨_, rfl, rfl⟩, by decide, rfl⟩
set_option maxRecDepth 20000 in
theorem cv_X7_190 : CV_ RX7 190 7 M_X7_floats 1 := ⟨⟨tb_at 1014 rfl rfl, tb_at 1016 rfl rfl, (tb_sel (q := (yX7_floats, _)) 45 rfl), tb_at 8 rfl rfl, tb_at 1017 rfl rfl⟩, ⟨rfl, by decide, by decide, by decide +kernel⟩, by decide, ⟨_, rfl, rfl⟩, by decide, rfl⟩
set_option maxRecDepth 20000 in
theorem cv_X7_194 : CV_ RX7 194 7 M_X7_stands 1 := ⟨⟨tb_at 1018 rfl rfl, tb_at 1020 rfl rfl, (tb_sel (q := (yX7_stands, _)) 46 rfl), tb_at 8 rfl rfl, tb_at 1021 rfl rfl⟩, ⟨rfl, by decide, by decide, by decide +kernel⟩, by decide, ⟨_, rfl, rfl⟩, by decide, rfl⟩
set_option maxRecDepth 20000 in
theorem cv_X7_197 : CV_ RX7 197 7 M_X7_weakAt 2 := ⟨⟨tb_at 1034 rfl rfl, tb_at 1036 rfl rfl, (tb_sel (q := (yX7_weakAt, _)) 48 rfl), tb_at 8 rfl rfl, tb_at 1037 rfl rfl⟩, ⟨rfl, by decide, by decide, by decide +kernel⟩, by decide, ⟨_, rfl, rfl⟩, by decide, rfl⟩
set_option maxRecDepth 20000 in
theorem cv_X7_201 : CV_ RX7 201 7 M_X7_links 0 := ⟨⟨tb_at 983 rfl rfl, tb_at 985 rfl rfl, (tb_sel (q := (yX7_links, _)) 40 rfl), tb_at 8 rfl rfl, tb_at 986 rfl rfl⟩, ⟨rfl, by decide, by decide, by decide +kernel⟩, by decide, ⟨_, rfl, rfl⟩, by decide, rfl⟩
set_option maxRecDepth 20000 in
theorem cv_X7_207 : CV_ RX7 207 7 M_X7_findPieces 0 := ⟨⟨tb_at 979 rfl rfl, tb_at 981 rfl rfl, (tb_sel (q := (yX7_findPieces, _)) 39 rfl), tb_at 8 rfl rfl, tb_at 982 rfl rfl⟩, ⟨rfl, by decide, by decide, by decide +kernel⟩, by decide, ⟨_, rfl, rfl⟩, by decide, rfl⟩
set_option maxRecDepth 20000 in
theorem cv_X7_210 : CV_ RX7 210 7 M_X7_pieceOfBrick 1 := ⟨⟨tb_at 998 rfl rfl, tb_at 1000 rfl rfl, (tb_sel (q := (yX7_pieceOfBrick, _)) 42 rfl), tb_at 8 rfl rfl, tb_at 1001 rfl rfl⟩, ⟨rfl, by decide, by decide, by decide +kernel⟩, by decide, ⟨_, rfl, rfl⟩, by decide, rfl⟩
set_option maxRecDepth 20000 in
theorem cv_X7_216 : CV_ RX7 216 7 M_X7_isSound 1 := ⟨⟨tb_at 1046 rfl rfl, tb_at 1048 rfl rfl, (tb_sel (q := (yX7_isSound, _)) 49 rfl), tb_at 8 rfl rfl, tb_at 1049 rfl rfl⟩, ⟨rfl, by decide, by decide, by decide +kernel⟩, by decide, ⟨_, rfl, rfl⟩, by decide, rfl⟩
set_option maxRecDepth 20000 in
theorem cv_X7_222 : CV_ RX7 222 7 M_X7_isSeam 2 := ⟨⟨tb_at 1065 rfl rfl, tb_at 1067 rfl rfl, (tb_sel (q := (yX7_isSeam, _)) 50 rfl), tb_at 8 rfl rfl, tb_at 1068 rfl rfl⟩, ⟨rfl, by decide, by decide, by decide +kernel⟩, by decide, ⟨_, rfl, rfl⟩, by decide, rfl⟩
set_option maxRecDepth 20000 in
theorem cv_X7_228 : CV_ RX7 228 7 M_X7_isOf 2 := ⟨⟨tb_at 1092 rfl rfl, tb_at 1094 rfl rfl, (tb_sel (q := (yX7_isOf, _)) 55 rfl), tb_at 8 rfl rfl, tb_at 1095 rfl rfl⟩, ⟨rfl, by decide, by decide, by decide +kernel⟩, by decide, ⟨_, rfl, rfl⟩, by decide, rfl⟩
set_option maxRecDepth 20000 in
theorem cv_X7_231 : CV_ RX7 231 7 M_X7_cost 2 := ⟨⟨tb_at 1096 rfl rfl, tb_at 1098 rfl rfl, (tb_sel (q := (yX7_cost, _)) 56 rfl), tb_at 8 rfl rfl, tb_at 1099 rfl rfl⟩, ⟨rfl, by decide, by decide, by decide +kernel⟩, by decide, ⟨_, rfl, rfl⟩, by decide, rfl⟩
set_option maxRecDepth 20000 in
theorem cv_X7_234 : CV_ RX7 234 7 M_X7_shape 3 := ⟨⟨tb_at 1081 rfl rfl, tb_at 1083 rfl rfl, (tb_sel (q := (yX7_shape, _)) 53 rfl), tb_at 8 rfl rfl, tb_at 1084 rfl rfl⟩, ⟨rfl, by decide, by decide, by decide +kernel⟩, by decide, ⟨_, rfl, rfl⟩, by decide, rfl⟩
set_option maxRecDepth 20000 in
theorem cv_X7_240 : CV_ RX7 240 7 M_X7_spares 1 := ⟨⟨tb_at 1088 rfl rfl, tb_at 1090 rfl rfl, (tb_sel (q := (yX7_spares, _)) 54 rfl), tb_at 8 rfl rfl, tb_at 1091 rfl rfl⟩, ⟨rfl, by decide, by decide, by decide +kernel⟩, by decide, ⟨_, rfl, rfl⟩, by decide, rfl⟩
set_option maxRecDepth 20000 in
theorem cv_X7_246 : CV_ RX7 246 7 M_X7_tries 4 := ⟨⟨tb_at 1103 rfl rfl, tb_at 1105 rfl rfl, (tb_sel (q := (yX7_tries, _)) 57 rfl), tb_at 8 rfl rfl, tb_at 1106 rfl rfl⟩, ⟨rfl, by decide, by decide, by decide +kernel⟩, by decide, ⟨_, rfl, rfl⟩, by decide, rfl⟩
set_option maxRecDepth 20000 in
theorem cv_X7_253 : CV_ RX7 253 7 M_X7_parted 2 := ⟨⟨tb_at 1107 rfl rfl, tb_at 1109 rfl rfl, (tb_sel (q := (yX7_parted, _)) 58 rfl), tb_at 8 rfl rfl, tb_at 1110 rfl rfl⟩, ⟨rfl, by decide, by decide, by decide +kernel⟩, by decide, ⟨_, rfl, rfl⟩, by decide, rfl⟩
set_option maxRecDepth 20000 in
theorem cv_X7_256 : CV_ RX7 256 7 M_X7_wrongCover 2 := ⟨⟨tb_at 1073 rfl rfl, tb_at 1075 rfl rfl, (tb_sel (q := (yX7_wrongCover, _)) 51 rfl), tb_at 8 rfl rfl, tb_at 1076 rfl rfl⟩, ⟨rfl, by decide, by decide, by decide +kernel⟩, by decide, ⟨_, rfl, rfl⟩, by decide, rfl⟩
set_option maxRecDepth 20000 in
theorem cv_X7_259 : CV_ RX7 259 7 M_X7_covers 0 := ⟨⟨tb_at 1077 rfl rfl, tb_at 1079 rfl rfl, (tb_sel (q := (yX7_covers, _)) 52 rfl), tb_at 8 rfl rfl, tb_at 1080 rfl rfl⟩, ⟨rfl, by decide, by decide, by decide +kernel⟩, by decide, ⟨_, rfl, rfl⟩, by decide, rfl⟩
set_option maxRecDepth 20000 in
theorem cv_X7_262 : CV_ RX7 262 7 M_X7_next 1 := ⟨⟨tb_at 1119 rfl rfl, tb_at 1121 rfl rfl, (tb_sel (q := (yX7_next, _)) 59 rfl), tb_at 8 rfl rfl, tb_at 1122 rfl rfl⟩, ⟨rfl, by decide, by decide, by decide +kernel⟩, by decide, ⟨_, rfl, rfl⟩, by decide, rfl⟩
set_option maxRecDepth 20000 in
theorem cv_X7_271 : CV_ RX7 271 7 M_X7_findLacking 0 := ⟨⟨tb_at 1135 rfl rfl, tb_at 1137 rfl rfl, (tb_sel (q := (yX7_findLacking, _)) 60 rfl), tb_at 8 rfl rfl, tb_at 1138 rfl rfl⟩, ⟨rfl, by decide, by decide, by decide +kernel⟩, by decide, ⟨_, rfl, rfl⟩, by decide, rfl⟩
set_option maxRecDepth 20000 in
theorem cv_X7_274 : CV_ RX7 274 7 M_X7_isAbove 2 := ⟨⟨tb_at 1159 rfl rfl, tb_at 1161 rfl rfl, (tb_sel (q := (yX7_isAbove, _)) 63 rfl), tb_at 8 rfl rfl, tb_at 1162 rfl rfl⟩, ⟨rfl, by decide, by decide, by decide +kernel⟩, by decide, ⟨_, rfl, rfl⟩, by decide, rfl⟩
set_option maxRecDepth 20000 in
theorem cv_X7_280 : CV_ RX7 280 7 M_X7_covered 2 := ⟨⟨tb_at 1155 rfl rfl, tb_at 1157 rfl rfl, (tb_sel (q := (yX7_covered, _)) 62 rfl), tb_at 8 rfl rfl, tb_at 1158 rfl rfl⟩, ⟨rfl, by decide, by decide, by decide +kernel⟩, by decide, ⟨_, rfl, rfl⟩, by decide, rfl⟩
set_option maxRecDepth 20000 in
theorem cv_X7_284 : CV_ RX7 284 7 M_X7_goes 3 := ⟨⟨tb_at 1151 rfl rfl, tb_at 1153 rfl rfl, (tb_sel (q := (yX7_goes, _)) 61 rfl), tb_at 8 rfl rfl, tb_at 1154 rfl rfl⟩, ⟨rfl, by decide, by decide, by decide +kernel⟩, by decide, ⟨_, rfl, rfl⟩, by decide, rfl⟩
set_option maxRecDepth 20000 in
theorem wk_X7_155 : Cond.constantLong RX7 155 (-1) ∈ Tb := tb_at 959 rfl rfl
set_option maxRecDepth 20000 in
theorem wk_X7_178 : Cond.constantLong RX7 178 (2) ∈ Tb := tb_at 1022 rfl rfl
set_option maxRecDepth 20000 in
theorem pf_X7_40 {X : CX} {cc : ByteArray} {d pc : Nat} {lv : List (Nat × Value)} {st : List Value} {h : Hp} {v : Int32} (hX : Ok_ X RX7 cc d) (hdg : decode cc pc = .ok (.putfield 40, 3)) (k : At_ X (pc + 3) lv st (sI_ h 459 v)) : At_ X pc lv (.int v :: .ref 7 :: st) h := at_putI hX (o := 7) (k := 11) (C := RX7) (T := TX7) (N := 34) (ty := .int) rfl (by decide) twX7 (tb_at 800 rfl rfl) tyX7 tyX7_ok nmX7 rfl (by decide +kernel) rfl rfl (by decide) rfl (by decide) (by decide) (by decide) rfl hdg k -- grip
set_option maxRecDepth 20000 in
theorem pf_X7_133 {X : CX} {cc : ByteArray} {d pc : Nat} {lv : List (Nat × Value)} {st : List Value} {h : Hp} {v : Int32} (hX : Ok_ X RX7 cc d) (hdg : decode cc pc = .ok (.putfield 133, 3)) (k : At_ X (pc + 3) lv st (sI_ h 458 v)) : At_ X pc lv (.int v :: .ref 7 :: st) h := at_putI hX (o := 7) (k := 10) (C := RX7) (T := TX7) (N := 34) (ty := .int) rfl (by decide) twX7 (tb_at 799 rfl rfl) tyX7 tyX7_ok nmX7 rfl (by decide +kernel) rfl rfl (by decide) rfl (by decide) (by decide) (by decide) rfl hdg k -- ever
set_option maxRecDepth 20000 in
theorem pf_X7_140 {X : CX} {cc : ByteArray} {d pc : Nat} {lv : List (Nat × Value)} {st : List Value} {h : Hp} {v : Int64} (hX : Ok_ X RX7 cc d) (hdg : decode cc pc = .ok (.putfield 140, 3)) (k : At_ X (pc + 3) lv st (sJ_ h 460 v)) : At_ X pc lv (.long v :: .ref 7 :: st) h := at_putJ hX (o := 7) (k := 12) (C := RX7) (T := TX7) (N := 34) (ty := .long) rfl (by decide) twX7 (tb_at 801 rfl rfl) tyX7 tyX7_ok nmX7 rfl (by decide +kernel) rfl rfl (by decide) rfl (by decide) (by decide) (by decide) rfl hdg k -- there
set_option maxRecDepth 20000 in
theorem pf_X7_204 {X : CX} {cc : ByteArray} {d pc : Nat} {lv : List (Nat × Value)} {st : List Value} {h : Hp} {v : Int32} (hX : Ok_ X RX7 cc d) (hdg : decode cc pc = .ok (.putfield 204, 3)) (k : At_ X (pc + 3) lv st (sI_ h 467 v)) : At_ X pc lv (.int v :: .ref 7 :: st) h := at_putI hX (o := 7) (k := 19) (C := RX7) (T := TX7) (N := 34) (ty := .int) rfl (by decide) twX7 (tb_at 808 rfl rfl) tyX7 tyX7_ok nmX7 rfl (by decide +kernel) rfl rfl (by decide) rfl (by decide) (by decide) (by decide) rfl hdg k -- pieceMany
set_option maxRecDepth 20000 in
theorem pf_X7_225 {X : CX} {cc : ByteArray} {d pc : Nat} {lv : List (Nat × Value)} {st : List Value} {h : Hp} {v : Int32} (hX : Ok_ X RX7 cc d) (hdg : decode cc pc = .ok (.putfield 225, 3)) (k : At_ X (pc + 3) lv st (sI_ h 472 v)) : At_ X pc lv (.int v :: .ref 7 :: st) h := at_putI hX (o := 7) (k := 24) (C := RX7) (T := TX7) (N := 34) (ty := .int) rfl (by decide) twX7 (tb_at 813 rfl rfl) tyX7 tyX7_ok nmX7 rfl (by decide +kernel) rfl rfl (by decide) rfl (by decide) (by decide) (by decide) rfl hdg k -- opens
set_option maxRecDepth 20000 in
theorem pf_X7_250 {X : CX} {cc : ByteArray} {d pc : Nat} {lv : List (Nat × Value)} {st : List Value} {h : Hp} {v : Int32} (hX : Ok_ X RX7 cc d) (hdg : decode cc pc = .ok (.putfield 250, 3)) (k : At_ X (pc + 3) lv st (sI_ h 473 v)) : At_ X pc lv (.int v :: .ref 7 :: st) h := at_putI hX (o := 7) (k := 25) (C := RX7) (T := TX7) (N := 34) (ty := .int) rfl (by decide) twX7 (tb_at 814 rfl rfl) tyX7 tyX7_ok nmX7 rfl (by decide +kernel) rfl rfl (by decide) rfl (by decide) (by decide) (by decide) rfl hdg k -- seamsAll
set_option maxRecDepth 20000 in
theorem pf_X7_277 {X : CX} {cc : ByteArray} {d pc : Nat} {lv : List (Nat × Value)} {st : List Value} {h : Hp} {v : Int32} (hX : Ok_ X RX7 cc d) (hdg : decode cc pc = .ok (.putfield 277, 3)) (k : At_ X (pc + 3) lv st (sI_ h 481 v)) : At_ X pc lv (.int v :: .ref 7 :: st) h := at_putI hX (o := 7) (k := 33) (C := RX7) (T := TX7) (N := 34) (ty := .int) rfl (by decide) twX7 (tb_at 822 rfl rfl) tyX7 tyX7_ok nmX7 rfl (by decide +kernel) rfl rfl (by decide) rfl (by decide) (by decide) (by decide) rfl hdg k -- many
