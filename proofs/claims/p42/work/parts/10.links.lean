/-! the methods by number, what the tables say of links (by program: wip/whole/emit1.py) -/
abbrev mX0_init : Nat := 0
abbrev mX0_layerCount : Nat := 1
abbrev mX0_isFull : Nat := 2
abbrev mX0_layerAt : Nat := 3
abbrev mX0_enabledCount : Nat := 4
abbrev mX0_enabledAtMost : Nat := 5
abbrev mX0_copyFrom : Nat := 6
abbrev mX0_copyLayersFrom : Nat := 7
abbrev mX0_removeLayers : Nat := 8
abbrev mX0_addFresh : Nat := 9
abbrev mX0_addCopyAbove : Nat := 10
abbrev mX0_takeOut : Nat := 11
abbrev mX0_shift : Nat := 12
abbrev mX0_nextLayer : Nat := 13
abbrev mX1_init : Nat := 14
abbrev mX1_push : Nat := 15
abbrev mX1_pop : Nat := 16
abbrev mX1_discardOldest : Nat := 17
abbrev mX2_allow : Nat := 18
abbrev mX2_lowestA : Nat := 19
abbrev mX2_highestA : Nat := 20
abbrev mX2_lowestB : Nat := 21
abbrev mX2_highestB : Nat := 22
abbrev mX2_entry : Nat := 23
abbrev mX3_init : Nat := 24
abbrev mX3_startAs : Nat := 25
abbrev mX3_copyFrom : Nat := 26
abbrev mX3_seesNeighbourhood : Nat := 27
abbrev mX3_reach : Nat := 28
abbrev mX4_init : Nat := 29
abbrev mX4_allows : Nat := 30
abbrev mX4_define : Nat := 31
abbrev mX4_startAnew : Nat := 32
abbrev mX4_copyFrom : Nat := 33
abbrev mX4_addDab : Nat := 34
abbrev mX4_weightAt : Nat := 35
abbrev mX4_rectangleWeightAt : Nat := 36
abbrev mX4_gradientWeightAt : Nat := 37
abbrev mX4_isDabbed : Nat := 38
abbrev mX5_blended : Nat := 39
abbrev mX6_init : Nat := 40
abbrev mX6_startAs : Nat := 41
abbrev mX6_contains : Nat := 42
abbrev mX6_at : Nat := 43
abbrev mX6_atNearest : Nat := 44
abbrev mX6_put : Nat := 45
abbrev mX6_copyFrom : Nat := 46
abbrev mX6_takeSizeOf : Nat := 47
abbrev mX6_hasSizeOf : Nat := 48
abbrev mX6_absoluteDifference : Nat := 49
abbrev mX6_differingPixels : Nat := 50
abbrev mX7_init : Nat := 51
abbrev mX7_renderStack : Nat := 52
abbrev mX7_render : Nat := 53
abbrev mX7_adjusted : Nat := 54
abbrev mX7_findExtremes : Nat := 55
abbrev mX7_gatherNeighbours : Nat := 56
abbrev mX7_average : Nat := 57
abbrev mX7_median : Nat := 58
abbrev mX7_sortNeighbours : Nat := 59
abbrev mX7_greatest : Nat := 60
abbrev mX7_smallest : Nat := 61
abbrev mX8_init : Nat := 62
abbrev mX9_init : Nat := 63
abbrev mX9_slotOf : Nat := 64
abbrev mX9_tileOf : Nat := 65
abbrev mX9_outputAt : Nat := 66
abbrev mX9_holds : Nat := 67
abbrev mX9_noteFound : Nat := 68
abbrev mX9_noteComputed : Nat := 69
abbrev mX9_use : Nat := 70
abbrev mX9_tilesOf : Nat := 71
abbrev mX9_oldestSlot : Nat := 72
abbrev mX9_dropSurplus : Nat := 73
abbrev mX9_removeAll : Nat := 74
abbrev mX9_removeFrom : Nat := 75
abbrev mX9_removeTouched : Nat := 76
abbrev mX9_removeLowest : Nat := 77
abbrev mX9_removeSlots : Nat := 78
abbrev mX9_remove : Nat := 79
abbrev mX10_init : Nat := 80
abbrev mX10_newImage : Nat := 81
abbrev mX10_setPixel : Nat := 82
abbrev mX10_fillRectangle : Nat := 83
abbrev mX10_size : Nat := 84
abbrev mX10_paint : Nat := 85
abbrev mX10_removeTilesThatSee : Nat := 86
abbrev mX10_addLayer : Nat := 87
abbrev mX10_setBlend : Nat := 88
abbrev mX10_setEnabled : Nat := 89
abbrev mX10_moveLayer : Nat := 90
abbrev mX10_duplicateLayer : Nat := 91
abbrev mX10_removeLayer : Nat := 92
abbrev mX10_flatten : Nat := 93
abbrev mX10_layer : Nat := 94
abbrev mX10_startChangeOf : Nat := 95
abbrev mX10_setMask : Nat := 96
abbrev mX10_setFeather : Nat := 97
abbrev mX10_invertMask : Nat := 98
abbrev mX10_dab : Nat := 99
abbrev mX10_pixel : Nat := 100
abbrev mX10_prefetch : Nat := 101
abbrev mX10_setCacheLimit : Nat := 102
abbrev mX10_setTileSize : Nat := 103
abbrev mX10_clearCache : Nat := 104
abbrev mX10_cachedTiles : Nat := 105
abbrev mX10_counter : Nat := 106
abbrev mX10_tileColumns : Nat := 107
abbrev mX10_tileRows : Nat := 108
abbrev mX10_requestTile : Nat := 109
abbrev mX10_requestInput : Nat := 110
abbrev mX10_pictureOf : Nat := 111
abbrev mX10_histogram : Nat := 112
abbrev mX10_sum : Nat := 113
abbrev mX10_effect : Nat := 114
abbrev mX10_strongestLayer : Nat := 115
abbrev mX10_exchangeDifference : Nat := 116
abbrev mX10_snapshotDifference : Nat := 117
abbrev mX10_hasOutput : Nat := 118
abbrev mX10_changeWithout : Nat := 119
abbrev mX10_pixelsThatDiffer : Nat := 120
abbrev mX10_undo : Nat := 121
abbrev mX10_save : Nat := 122
abbrev mX10_restore : Nat := 123
abbrev mX10_within : Nat := 124
abbrev mX10_clamped : Nat := 125
abbrev mX10_divided : Nat := 126
abbrev mJ9_floorDiv_7cf53 : Nat := 127
abbrev mJ9_abs_0f7a4 : Nat := 128
abbrev mJ9_max_7cf53 : Nat := 129
abbrev mJ9_min_7cf53 : Nat := 130
abbrev mL_more : Nat := 131
abbrev mL_cell : Nat := 132
abbrev mL_low : Nat := 133
abbrev mL_digest : Nat := 134
abbrev mL_isTold : Nat := 135
abbrev mL_edit : Nat := 136
abbrev mL_law : Nat := 137
abbrev zInf : Type := MethodName × ByteArray × Nat × Option FieldType × Nat × Nat
abbrev zI0 : zInf := (⟨"?", "?", "?"⟩, ⟨#[]⟩, 0, none, 0, 0)
abbrev zI_X0_init : zInf := (yX0_init, cX0_init, 2, none, 27, 539)
abbrev zI_X0_layerCount : zInf := (yX0_layerCount, cX0_layerCount, 1, (some FieldType.int), 0, 0)
abbrev zI_X0_isFull : zInf := (yX0_isFull, cX0_isFull, 1, (some FieldType.boolean), 0, 0)
abbrev zI_X0_layerAt : zInf := (yX0_layerAt, cX0_layerAt, 2, (some (FieldType.object "AdjustmentStack$Layer")), 0, 0)
abbrev zI_X0_enabledCount : zInf := (yX0_enabledCount, cX0_enabledCount, 4, (some FieldType.int), 0, 0)
abbrev zI_X0_enabledAtMost : zInf := (yX0_enabledAtMost, cX0_enabledAtMost, 4, (some FieldType.int), 0, 0)
abbrev zI_X0_copyFrom : zInf := (yX0_copyFrom, cX0_copyFrom, 2, none, 0, 0)
abbrev zI_X0_copyLayersFrom : zInf := (yX0_copyLayersFrom, cX0_copyLayersFrom, 5, none, 0, 0)
abbrev zI_X0_removeLayers : zInf := (yX0_removeLayers, cX0_removeLayers, 1, none, 0, 0)
abbrev zI_X0_addFresh : zInf := (yX0_addFresh, cX0_addFresh, 5, (some (FieldType.object "AdjustmentStack$Layer")), 0, 0)
abbrev zI_X0_addCopyAbove : zInf := (yX0_addCopyAbove, cX0_addCopyAbove, 4, none, 0, 0)
abbrev zI_X0_takeOut : zInf := (yX0_takeOut, cX0_takeOut, 2, none, 0, 0)
abbrev zI_X0_shift : zInf := (yX0_shift, cX0_shift, 5, none, 0, 0)
abbrev zI_X0_nextLayer : zInf := (yX0_nextLayer, cX0_nextLayer, 1, (some (FieldType.object "AdjustmentStack$Layer")), 0, 0)
abbrev zI_X1_init : zInf := (yX1_init, cX1_init, 2, none, 169, 3258)
abbrev zI_X1_push : zInf := (yX1_push, cX1_push, 3, none, 0, 0)
abbrev zI_X1_pop : zInf := (yX1_pop, cX1_pop, 3, none, 0, 0)
abbrev zI_X1_discardOldest : zInf := (yX1_discardOldest, cX1_discardOldest, 3, none, 0, 0)
abbrev zI_X2_allow : zInf := (yX2_allow, cX2_allow, 3, (some FieldType.boolean), 0, 0)
abbrev zI_X2_lowestA : zInf := (yX2_lowestA, cX2_lowestA, 1, (some FieldType.int), 0, 0)
abbrev zI_X2_highestA : zInf := (yX2_highestA, cX2_highestA, 1, (some FieldType.int), 0, 0)
abbrev zI_X2_lowestB : zInf := (yX2_lowestB, cX2_lowestB, 2, (some FieldType.int), 0, 0)
abbrev zI_X2_highestB : zInf := (yX2_highestB, cX2_highestB, 1, (some FieldType.int), 0, 0)
abbrev zI_X2_entry : zInf := (yX2_entry, cX2_entry, 2, (some FieldType.int), 0, 0)
abbrev zI_X3_init : zInf := (yX3_init, cX3_init, 1, none, 2, 27)
abbrev zI_X3_startAs : zInf := (yX3_startAs, cX3_startAs, 4, none, 0, 0)
abbrev zI_X3_copyFrom : zInf := (yX3_copyFrom, cX3_copyFrom, 2, none, 0, 0)
abbrev zI_X3_seesNeighbourhood : zInf := (yX3_seesNeighbourhood, cX3_seesNeighbourhood, 1, (some FieldType.boolean), 0, 0)
abbrev zI_X3_reach : zInf := (yX3_reach, cX3_reach, 1, (some FieldType.int), 0, 0)
abbrev zI_X4_init : zInf := (yX4_init, cX4_init, 1, none, 1, 18)
abbrev zI_X4_allows : zInf := (yX4_allows, cX4_allows, 5, (some FieldType.boolean), 0, 0)
abbrev zI_X4_define : zInf := (yX4_define, cX4_define, 6, none, 0, 0)
abbrev zI_X4_startAnew : zInf := (yX4_startAnew, cX4_startAnew, 1, none, 0, 0)
abbrev zI_X4_copyFrom : zInf := (yX4_copyFrom, cX4_copyFrom, 3, none, 0, 0)
abbrev zI_X4_addDab : zInf := (yX4_addDab, cX4_addDab, 5, none, 0, 0)
abbrev zI_X4_weightAt : zInf := (yX4_weightAt, cX4_weightAt, 5, (some FieldType.int), 0, 0)
abbrev zI_X4_rectangleWeightAt : zInf := (yX4_rectangleWeightAt, cX4_rectangleWeightAt, 7, (some FieldType.int), 0, 0)
abbrev zI_X4_gradientWeightAt : zInf := (yX4_gradientWeightAt, cX4_gradientWeightAt, 3, (some FieldType.int), 0, 0)
abbrev zI_X4_isDabbed : zInf := (yX4_isDabbed, cX4_isDabbed, 8, (some FieldType.boolean), 0, 0)
abbrev zI_X5_blended : zInf := (yX5_blended, cX5_blended, 3, (some FieldType.int), 0, 0)
abbrev zI_X6_init : zInf := (yX6_init, cX6_init, 1, none, 1, 256)
abbrev zI_X6_startAs : zInf := (yX6_startAs, cX6_startAs, 5, none, 0, 0)
abbrev zI_X6_contains : zInf := (yX6_contains, cX6_contains, 3, (some FieldType.boolean), 0, 0)
abbrev zI_X6_at : zInf := (yX6_at, cX6_at, 4, (some FieldType.int), 0, 0)
abbrev zI_X6_atNearest : zInf := (yX6_atNearest, cX6_atNearest, 3, (some FieldType.int), 0, 0)
abbrev zI_X6_put : zInf := (yX6_put, cX6_put, 5, none, 0, 0)
abbrev zI_X6_copyFrom : zInf := (yX6_copyFrom, cX6_copyFrom, 4, none, 0, 0)
abbrev zI_X6_takeSizeOf : zInf := (yX6_takeSizeOf, cX6_takeSizeOf, 2, none, 0, 0)
abbrev zI_X6_hasSizeOf : zInf := (yX6_hasSizeOf, cX6_hasSizeOf, 2, (some FieldType.boolean), 0, 0)
abbrev zI_X6_absoluteDifference : zInf := (yX6_absoluteDifference, cX6_absoluteDifference, 5, (some FieldType.int), 0, 0)
abbrev zI_X6_differingPixels : zInf := (yX6_differingPixels, cX6_differingPixels, 5, (some FieldType.int), 0, 0)
abbrev zI_X7_init : zInf := (yX7_init, cX7_init, 1, none, 3, 308)
abbrev zI_X7_renderStack : zInf := (yX7_renderStack, cX7_renderStack, 6, none, 0, 0)
abbrev zI_X7_render : zInf := (yX7_render, cX7_render, 12, none, 0, 0)
abbrev zI_X7_adjusted : zInf := (yX7_adjusted, cX7_adjusted, 8, (some FieldType.int), 0, 0)
abbrev zI_X7_findExtremes : zInf := (yX7_findExtremes, cX7_findExtremes, 5, none, 0, 0)
abbrev zI_X7_gatherNeighbours : zInf := (yX7_gatherNeighbours, cX7_gatherNeighbours, 9, none, 0, 0)
abbrev zI_X7_average : zInf := (yX7_average, cX7_average, 3, (some FieldType.int), 0, 0)
abbrev zI_X7_median : zInf := (yX7_median, cX7_median, 2, (some FieldType.int), 0, 0)
abbrev zI_X7_sortNeighbours : zInf := (yX7_sortNeighbours, cX7_sortNeighbours, 4, none, 0, 0)
abbrev zI_X7_greatest : zInf := (yX7_greatest, cX7_greatest, 3, (some FieldType.int), 0, 0)
abbrev zI_X7_smallest : zInf := (yX7_smallest, cX7_smallest, 3, (some FieldType.int), 0, 0)
abbrev zI_X8_init : zInf := (yX8_init, cX8_init, 1, none, 1, 160)
abbrev zI_X9_init : zInf := (yX9_init, cX9_init, 2, none, 18, 2592)
abbrev zI_X9_slotOf : zInf := (yX9_slotOf, cX9_slotOf, 3, (some FieldType.int), 0, 0)
abbrev zI_X9_tileOf : zInf := (yX9_tileOf, cX9_tileOf, 2, (some FieldType.int), 0, 0)
abbrev zI_X9_outputAt : zInf := (yX9_outputAt, cX9_outputAt, 2, (some (FieldType.object "AdjustmentStack$Picture")), 0, 0)
abbrev zI_X9_holds : zInf := (yX9_holds, cX9_holds, 5, (some FieldType.boolean), 0, 0)
abbrev zI_X9_noteFound : zInf := (yX9_noteFound, cX9_noteFound, 4, none, 0, 0)
abbrev zI_X9_noteComputed : zInf := (yX9_noteComputed, cX9_noteComputed, 4, none, 0, 0)
abbrev zI_X9_use : zInf := (yX9_use, cX9_use, 2, none, 0, 0)
abbrev zI_X9_tilesOf : zInf := (yX9_tilesOf, cX9_tilesOf, 5, (some FieldType.int), 0, 0)
abbrev zI_X9_oldestSlot : zInf := (yX9_oldestSlot, cX9_oldestSlot, 4, (some FieldType.int), 0, 0)
abbrev zI_X9_dropSurplus : zInf := (yX9_dropSurplus, cX9_dropSurplus, 3, (some FieldType.int), 0, 0)
abbrev zI_X9_removeAll : zInf := (yX9_removeAll, cX9_removeAll, 1, (some FieldType.int), 0, 0)
abbrev zI_X9_removeFrom : zInf := (yX9_removeFrom, cX9_removeFrom, 2, (some FieldType.int), 0, 0)
abbrev zI_X9_removeTouched : zInf := (yX9_removeTouched, cX9_removeTouched, 9, (some FieldType.int), 0, 0)
abbrev zI_X9_removeLowest : zInf := (yX9_removeLowest, cX9_removeLowest, 6, none, 0, 0)
abbrev zI_X9_removeSlots : zInf := (yX9_removeSlots, cX9_removeSlots, 5, (some FieldType.int), 0, 0)
abbrev zI_X9_remove : zInf := (yX9_remove, cX9_remove, 2, (some FieldType.int), 0, 0)
abbrev zI_X10_init : zInf := (yX10_init, cX10_init, 1, none, 256, 7945)
abbrev zI_X10_newImage : zInf := (yX10_newImage, cX10_newImage, 3, (some FieldType.int), 0, 0)
abbrev zI_X10_setPixel : zInf := (yX10_setPixel, cX10_setPixel, 4, (some FieldType.int), 0, 0)
abbrev zI_X10_fillRectangle : zInf := (yX10_fillRectangle, cX10_fillRectangle, 8, (some FieldType.int), 0, 0)
abbrev zI_X10_size : zInf := (yX10_size, cX10_size, 2, (some FieldType.int), 0, 0)
abbrev zI_X10_paint : zInf := (yX10_paint, cX10_paint, 8, (some FieldType.int), 0, 0)
abbrev zI_X10_removeTilesThatSee : zInf := (yX10_removeTilesThatSee, cX10_removeTilesThatSee, 9, (some FieldType.int), 0, 0)
abbrev zI_X10_addLayer : zInf := (yX10_addLayer, cX10_addLayer, 4, (some FieldType.int), 0, 0)
abbrev zI_X10_setBlend : zInf := (yX10_setBlend, cX10_setBlend, 6, (some FieldType.int), 0, 0)
abbrev zI_X10_setEnabled : zInf := (yX10_setEnabled, cX10_setEnabled, 5, (some FieldType.int), 0, 0)
abbrev zI_X10_moveLayer : zInf := (yX10_moveLayer, cX10_moveLayer, 4, (some FieldType.int), 0, 0)
abbrev zI_X10_duplicateLayer : zInf := (yX10_duplicateLayer, cX10_duplicateLayer, 2, (some FieldType.int), 0, 0)
abbrev zI_X10_removeLayer : zInf := (yX10_removeLayer, cX10_removeLayer, 2, (some FieldType.int), 0, 0)
abbrev zI_X10_flatten : zInf := (yX10_flatten, cX10_flatten, 3, (some FieldType.int), 0, 0)
abbrev zI_X10_layer : zInf := (yX10_layer, cX10_layer, 4, (some FieldType.int), 0, 0)
abbrev zI_X10_startChangeOf : zInf := (yX10_startChangeOf, cX10_startChangeOf, 2, none, 0, 0)
abbrev zI_X10_setMask : zInf := (yX10_setMask, cX10_setMask, 9, (some FieldType.int), 0, 0)
abbrev zI_X10_setFeather : zInf := (yX10_setFeather, cX10_setFeather, 5, (some FieldType.int), 0, 0)
abbrev zI_X10_invertMask : zInf := (yX10_invertMask, cX10_invertMask, 3, (some FieldType.int), 0, 0)
abbrev zI_X10_dab : zInf := (yX10_dab, cX10_dab, 6, (some FieldType.int), 0, 0)
abbrev zI_X10_pixel : zInf := (yX10_pixel, cX10_pixel, 5, (some FieldType.int), 0, 0)
abbrev zI_X10_prefetch : zInf := (yX10_prefetch, cX10_prefetch, 5, (some FieldType.int), 0, 0)
abbrev zI_X10_setCacheLimit : zInf := (yX10_setCacheLimit, cX10_setCacheLimit, 2, (some FieldType.int), 0, 0)
abbrev zI_X10_setTileSize : zInf := (yX10_setTileSize, cX10_setTileSize, 2, (some FieldType.int), 0, 0)
abbrev zI_X10_clearCache : zInf := (yX10_clearCache, cX10_clearCache, 1, (some FieldType.int), 0, 0)
abbrev zI_X10_cachedTiles : zInf := (yX10_cachedTiles, cX10_cachedTiles, 2, (some FieldType.int), 0, 0)
abbrev zI_X10_counter : zInf := (yX10_counter, cX10_counter, 2, (some FieldType.int), 0, 0)
abbrev zI_X10_tileColumns : zInf := (yX10_tileColumns, cX10_tileColumns, 1, (some FieldType.int), 0, 0)
abbrev zI_X10_tileRows : zInf := (yX10_tileRows, cX10_tileRows, 1, (some FieldType.int), 0, 0)
abbrev zI_X10_requestTile : zInf := (yX10_requestTile, cX10_requestTile, 9, none, 0, 0)
abbrev zI_X10_requestInput : zInf := (yX10_requestInput, cX10_requestInput, 12, none, 0, 0)
abbrev zI_X10_pictureOf : zInf := (yX10_pictureOf, cX10_pictureOf, 3, (some (FieldType.object "AdjustmentStack$Picture")), 0, 0)
abbrev zI_X10_histogram : zInf := (yX10_histogram, cX10_histogram, 7, (some FieldType.int), 0, 0)
abbrev zI_X10_sum : zInf := (yX10_sum, cX10_sum, 5, (some FieldType.int), 0, 0)
abbrev zI_X10_effect : zInf := (yX10_effect, cX10_effect, 2, (some FieldType.int), 0, 0)
abbrev zI_X10_strongestLayer : zInf := (yX10_strongestLayer, cX10_strongestLayer, 5, (some FieldType.int), 0, 0)
abbrev zI_X10_exchangeDifference : zInf := (yX10_exchangeDifference, cX10_exchangeDifference, 2, (some FieldType.int), 0, 0)
abbrev zI_X10_snapshotDifference : zInf := (yX10_snapshotDifference, cX10_snapshotDifference, 3, (some FieldType.int), 0, 0)
abbrev zI_X10_hasOutput : zInf := (yX10_hasOutput, cX10_hasOutput, 2, (some FieldType.boolean), 0, 0)
abbrev zI_X10_changeWithout : zInf := (yX10_changeWithout, cX10_changeWithout, 3, (some FieldType.int), 0, 0)
abbrev zI_X10_pixelsThatDiffer : zInf := (yX10_pixelsThatDiffer, cX10_pixelsThatDiffer, 2, (some FieldType.int), 0, 0)
abbrev zI_X10_undo : zInf := (yX10_undo, cX10_undo, 1, (some FieldType.int), 0, 0)
abbrev zI_X10_save : zInf := (yX10_save, cX10_save, 3, (some FieldType.int), 28, 542)
abbrev zI_X10_restore : zInf := (yX10_restore, cX10_restore, 3, (some FieldType.int), 0, 0)
abbrev zI_X10_within : zInf := (yX10_within, cX10_within, 3, (some FieldType.boolean), 0, 0)
abbrev zI_X10_clamped : zInf := (yX10_clamped, cX10_clamped, 1, (some FieldType.int), 0, 0)
abbrev zI_X10_divided : zInf := (yX10_divided, cX10_divided, 2, (some FieldType.int), 0, 0)
abbrev zI_J9_floorDiv_7cf53 : zInf := (yJ9_floorDiv_7cf53, cJ9_floorDiv_7cf53, 3, (some FieldType.int), 0, 0)
abbrev zI_J9_abs_0f7a4 : zInf := (yJ9_abs_0f7a4, cJ9_abs_0f7a4, 1, (some FieldType.int), 0, 0)
abbrev zI_J9_max_7cf53 : zInf := (yJ9_max_7cf53, cJ9_max_7cf53, 2, (some FieldType.int), 0, 0)
abbrev zI_J9_min_7cf53 : zInf := (yJ9_min_7cf53, cJ9_min_7cf53, 2, (some FieldType.int), 0, 0)
abbrev zI_L_more : zInf := (yL_more, cL_more, 2, (some FieldType.int), 0, 0)
abbrev zI_L_cell : zInf := (yL_cell, cL_cell, 2, (some FieldType.int), 0, 0)
abbrev zI_L_low : zInf := (yL_low, cL_low, 2, (some FieldType.int), 0, 0)
abbrev zI_L_digest : zInf := (yL_digest, cL_digest, 5, (some FieldType.long), 0, 0)
abbrev zI_L_isTold : zInf := (yL_isTold, cL_isTold, 6, (some FieldType.boolean), 0, 0)
abbrev zI_L_edit : zInf := (yL_edit, cL_edit, 5, (some FieldType.int), 0, 0)
abbrev zI_L_law : zInf := (yL_law, cL_law, 13, (some FieldType.boolean), 600000, 7302250)
def zMi (y : Nat) : zInf := cond (Nat.blt y 69) (cond (Nat.blt y 34) (cond (Nat.blt y 17) (cond (Nat.blt y 8) (cond (Nat.blt y 4) (cond (Nat.blt y 2) (cond (Nat.blt y 1) (cond (Nat.beq y 0) zI_X0_init zI0) (cond (Nat.beq y 1) zI_X0_layerCount zI0)) (cond (Nat.blt y 3) (cond (Nat.beq y 2) zI_X0_isFull zI0) (cond (Nat.beq y 3) zI_X0_layerAt zI0))) (cond (Nat.blt y 6) (cond (Nat.blt y 5) (cond (Nat.beq y 4) zI_X0_enabledCount zI0) (cond (Nat.beq y 5) zI_X0_enabledAtMost zI0)) (cond (Nat.blt y 7) (cond (Nat.beq y 6) zI_X0_copyFrom zI0) (cond (Nat.beq y 7) zI_X0_copyLayersFrom zI0)))) (cond (Nat.blt y 12) (cond (Nat.blt y 10) (cond (Nat.blt y 9) (cond (Nat.beq y 8) zI_X0_removeLayers zI0) (cond (Nat.beq y 9) zI_X0_addFresh zI0)) (cond (Nat.blt y 11) (cond (Nat.beq y 10) zI_X0_addCopyAbove zI0) (cond (Nat.beq y 11) zI_X0_takeOut zI0))) (cond (Nat.blt y 14) (cond (Nat.blt y 13) (cond (Nat.beq y 12) zI_X0_shift zI0) (cond (Nat.beq y 13) zI_X0_nextLayer zI0)) (cond (Nat.blt y 15) (cond (Nat.beq y 14) zI_X1_init zI0) (cond (Nat.blt y 16) (cond (Nat.beq y 15) zI_X1_push zI0) (cond (Nat.beq y 16) zI_X1_pop zI0)))))) (cond (Nat.blt y 25) (cond (Nat.blt y 21) (cond (Nat.blt y 19) (cond (Nat.blt y 18) (cond (Nat.beq y 17) zI_X1_discardOldest zI0) (cond (Nat.beq y 18) zI_X2_allow zI0)) (cond (Nat.blt y 20) (cond (Nat.beq y 19) zI_X2_lowestA zI0) (cond (Nat.beq y 20) zI_X2_highestA zI0))) (cond (Nat.blt y 23) (cond (Nat.blt y 22) (cond (Nat.beq y 21) zI_X2_lowestB zI0) (cond (Nat.beq y 22) zI_X2_highestB zI0)) (cond (Nat.blt y 24) (cond (Nat.beq y 23) zI_X2_entry zI0) (cond (Nat.beq y 24) zI_X3_init zI0)))) (cond (Nat.blt y 29) (cond (Nat.blt y 27) (cond (Nat.blt y 26) (cond (Nat.beq y 25) zI_X3_startAs zI0) (cond (Nat.beq y 26) zI_X3_copyFrom zI0)) (cond (Nat.blt y 28) (cond (Nat.beq y 27) zI_X3_seesNeighbourhood zI0) (cond (Nat.beq y 28) zI_X3_reach zI0))) (cond (Nat.blt y 31) (cond (Nat.blt y 30) (cond (Nat.beq y 29) zI_X4_init zI0) (cond (Nat.beq y 30) zI_X4_allows zI0)) (cond (Nat.blt y 32) (cond (Nat.beq y 31) zI_X4_define zI0) (cond (Nat.blt y 33) (cond (Nat.beq y 32) zI_X4_startAnew zI0) (cond (Nat.beq y 33) zI_X4_copyFrom zI0))))))) (cond (Nat.blt y 51) (cond (Nat.blt y 42) (cond (Nat.blt y 38) (cond (Nat.blt y 36) (cond (Nat.blt y 35) (cond (Nat.beq y 34) zI_X4_addDab zI0) (cond (Nat.beq y 35) zI_X4_weightAt zI0)) (cond (Nat.blt y 37) (cond (Nat.beq y 36) zI_X4_rectangleWeightAt zI0) (cond (Nat.beq y 37) zI_X4_gradientWeightAt zI0))) (cond (Nat.blt y 40) (cond (Nat.blt y 39) (cond (Nat.beq y 38) zI_X4_isDabbed zI0) (cond (Nat.beq y 39) zI_X5_blended zI0)) (cond (Nat.blt y 41) (cond (Nat.beq y 40) zI_X6_init zI0) (cond (Nat.beq y 41) zI_X6_startAs zI0)))) (cond (Nat.blt y 46) (cond (Nat.blt y 44) (cond (Nat.blt y 43) (cond (Nat.beq y 42) zI_X6_contains zI0) (cond (Nat.beq y 43) zI_X6_at zI0)) (cond (Nat.blt y 45) (cond (Nat.beq y 44) zI_X6_atNearest zI0) (cond (Nat.beq y 45) zI_X6_put zI0))) (cond (Nat.blt y 48) (cond (Nat.blt y 47) (cond (Nat.beq y 46) zI_X6_copyFrom zI0) (cond (Nat.beq y 47) zI_X6_takeSizeOf zI0)) (cond (Nat.blt y 49) (cond (Nat.beq y 48) zI_X6_hasSizeOf zI0) (cond (Nat.blt y 50) (cond (Nat.beq y 49) zI_X6_absoluteDifference zI0) (cond (Nat.beq y 50) zI_X6_differingPixels zI0)))))) (cond (Nat.blt y 60) (cond (Nat.blt y 55) (cond (Nat.blt y 53) (cond (Nat.blt y 52) (cond (Nat.beq y 51) zI_X7_init zI0) (cond (Nat.beq y 52) zI_X7_renderStack zI0)) (cond (Nat.blt y 54) (cond (Nat.beq y 53) zI_X7_render zI0) (cond (Nat.beq y 54) zI_X7_adjusted zI0))) (cond (Nat.blt y 57) (cond (Nat.blt y 56) (cond (Nat.beq y 55) zI_X7_findExtremes zI0) (cond (Nat.beq y 56) zI_X7_gatherNeighbours zI0)) (cond (Nat.blt y 58) (cond (Nat.beq y 57) zI_X7_average zI0) (cond (Nat.blt y 59) (cond (Nat.beq y 58) zI_X7_median zI0) (cond (Nat.beq y 59) zI_X7_sortNeighbours zI0))))) (cond (Nat.blt y 64) (cond (Nat.blt y 62) (cond (Nat.blt y 61) (cond (Nat.beq y 60) zI_X7_greatest zI0) (cond (Nat.beq y 61) zI_X7_smallest zI0)) (cond (Nat.blt y 63) (cond (Nat.beq y 62) zI_X8_init zI0) (cond (Nat.beq y 63) zI_X9_init zI0))) (cond (Nat.blt y 66) (cond (Nat.blt y 65) (cond (Nat.beq y 64) zI_X9_slotOf zI0) (cond (Nat.beq y 65) zI_X9_tileOf zI0)) (cond (Nat.blt y 67) (cond (Nat.beq y 66) zI_X9_outputAt zI0) (cond (Nat.blt y 68) (cond (Nat.beq y 67) zI_X9_holds zI0) (cond (Nat.beq y 68) zI_X9_noteFound zI0)))))))) (cond (Nat.blt y 103) (cond (Nat.blt y 86) (cond (Nat.blt y 77) (cond (Nat.blt y 73) (cond (Nat.blt y 71) (cond (Nat.blt y 70) (cond (Nat.beq y 69) zI_X9_noteComputed zI0) (cond (Nat.beq y 70) zI_X9_use zI0)) (cond (Nat.blt y 72) (cond (Nat.beq y 71) zI_X9_tilesOf zI0) (cond (Nat.beq y 72) zI_X9_oldestSlot zI0))) (cond (Nat.blt y 75) (cond (Nat.blt y 74) (cond (Nat.beq y 73) zI_X9_dropSurplus zI0) (cond (Nat.beq y 74) zI_X9_removeAll zI0)) (cond (Nat.blt y 76) (cond (Nat.beq y 75) zI_X9_removeFrom zI0) (cond (Nat.beq y 76) zI_X9_removeTouched zI0)))) (cond (Nat.blt y 81) (cond (Nat.blt y 79) (cond (Nat.blt y 78) (cond (Nat.beq y 77) zI_X9_removeLowest zI0) (cond (Nat.beq y 78) zI_X9_removeSlots zI0)) (cond (Nat.blt y 80) (cond (Nat.beq y 79) zI_X9_remove zI0) (cond (Nat.beq y 80) zI_X10_init zI0))) (cond (Nat.blt y 83) (cond (Nat.blt y 82) (cond (Nat.beq y 81) zI_X10_newImage zI0) (cond (Nat.beq y 82) zI_X10_setPixel zI0)) (cond (Nat.blt y 84) (cond (Nat.beq y 83) zI_X10_fillRectangle zI0) (cond (Nat.blt y 85) (cond (Nat.beq y 84) zI_X10_size zI0) (cond (Nat.beq y 85) zI_X10_paint zI0)))))) (cond (Nat.blt y 94) (cond (Nat.blt y 90) (cond (Nat.blt y 88) (cond (Nat.blt y 87) (cond (Nat.beq y 86) zI_X10_removeTilesThatSee zI0) (cond (Nat.beq y 87) zI_X10_addLayer zI0)) (cond (Nat.blt y 89) (cond (Nat.beq y 88) zI_X10_setBlend zI0) (cond (Nat.beq y 89) zI_X10_setEnabled zI0))) (cond (Nat.blt y 92) (cond (Nat.blt y 91) (cond (Nat.beq y 90) zI_X10_moveLayer zI0) (cond (Nat.beq y 91) zI_X10_duplicateLayer zI0)) (cond (Nat.blt y 93) (cond (Nat.beq y 92) zI_X10_removeLayer zI0) (cond (Nat.beq y 93) zI_X10_flatten zI0)))) (cond (Nat.blt y 98) (cond (Nat.blt y 96) (cond (Nat.blt y 95) (cond (Nat.beq y 94) zI_X10_layer zI0) (cond (Nat.beq y 95) zI_X10_startChangeOf zI0)) (cond (Nat.blt y 97) (cond (Nat.beq y 96) zI_X10_setMask zI0) (cond (Nat.beq y 97) zI_X10_setFeather zI0))) (cond (Nat.blt y 100) (cond (Nat.blt y 99) (cond (Nat.beq y 98) zI_X10_invertMask zI0) (cond (Nat.beq y 99) zI_X10_dab zI0)) (cond (Nat.blt y 101) (cond (Nat.beq y 100) zI_X10_pixel zI0) (cond (Nat.blt y 102) (cond (Nat.beq y 101) zI_X10_prefetch zI0) (cond (Nat.beq y 102) zI_X10_setCacheLimit zI0))))))) (cond (Nat.blt y 120) (cond (Nat.blt y 111) (cond (Nat.blt y 107) (cond (Nat.blt y 105) (cond (Nat.blt y 104) (cond (Nat.beq y 103) zI_X10_setTileSize zI0) (cond (Nat.beq y 104) zI_X10_clearCache zI0)) (cond (Nat.blt y 106) (cond (Nat.beq y 105) zI_X10_cachedTiles zI0) (cond (Nat.beq y 106) zI_X10_counter zI0))) (cond (Nat.blt y 109) (cond (Nat.blt y 108) (cond (Nat.beq y 107) zI_X10_tileColumns zI0) (cond (Nat.beq y 108) zI_X10_tileRows zI0)) (cond (Nat.blt y 110) (cond (Nat.beq y 109) zI_X10_requestTile zI0) (cond (Nat.beq y 110) zI_X10_requestInput zI0)))) (cond (Nat.blt y 115) (cond (Nat.blt y 113) (cond (Nat.blt y 112) (cond (Nat.beq y 111) zI_X10_pictureOf zI0) (cond (Nat.beq y 112) zI_X10_histogram zI0)) (cond (Nat.blt y 114) (cond (Nat.beq y 113) zI_X10_sum zI0) (cond (Nat.beq y 114) zI_X10_effect zI0))) (cond (Nat.blt y 117) (cond (Nat.blt y 116) (cond (Nat.beq y 115) zI_X10_strongestLayer zI0) (cond (Nat.beq y 116) zI_X10_exchangeDifference zI0)) (cond (Nat.blt y 118) (cond (Nat.beq y 117) zI_X10_snapshotDifference zI0) (cond (Nat.blt y 119) (cond (Nat.beq y 118) zI_X10_hasOutput zI0) (cond (Nat.beq y 119) zI_X10_changeWithout zI0)))))) (cond (Nat.blt y 129) (cond (Nat.blt y 124) (cond (Nat.blt y 122) (cond (Nat.blt y 121) (cond (Nat.beq y 120) zI_X10_pixelsThatDiffer zI0) (cond (Nat.beq y 121) zI_X10_undo zI0)) (cond (Nat.blt y 123) (cond (Nat.beq y 122) zI_X10_save zI0) (cond (Nat.beq y 123) zI_X10_restore zI0))) (cond (Nat.blt y 126) (cond (Nat.blt y 125) (cond (Nat.beq y 124) zI_X10_within zI0) (cond (Nat.beq y 125) zI_X10_clamped zI0)) (cond (Nat.blt y 127) (cond (Nat.beq y 126) zI_X10_divided zI0) (cond (Nat.blt y 128) (cond (Nat.beq y 127) zI_J9_floorDiv_7cf53 zI0) (cond (Nat.beq y 128) zI_J9_abs_0f7a4 zI0))))) (cond (Nat.blt y 133) (cond (Nat.blt y 131) (cond (Nat.blt y 130) (cond (Nat.beq y 129) zI_J9_max_7cf53 zI0) (cond (Nat.beq y 130) zI_J9_min_7cf53 zI0)) (cond (Nat.blt y 132) (cond (Nat.beq y 131) zI_L_more zI0) (cond (Nat.beq y 132) zI_L_cell zI0))) (cond (Nat.blt y 135) (cond (Nat.blt y 134) (cond (Nat.beq y 133) zI_L_low zI0) (cond (Nat.beq y 134) zI_L_digest zI0)) (cond (Nat.blt y 136) (cond (Nat.beq y 135) zI_L_isTold zI0) (cond (Nat.blt y 137) (cond (Nat.beq y 136) zI_L_edit zI0) (cond (Nat.beq y 137) zI_L_law zI0))))))))
theorem k_0 : Cond.selects RX1 yX1_discardOldest yX1_discardOldest ∈ lw_tbl := List.mem_of_getElem? (i := 0) (by decide +kernel)
theorem k_1 : Cond.selects RX0 yX0_nextLayer yX0_nextLayer ∈ lw_tbl := List.mem_of_getElem? (i := 1) (by decide +kernel)
theorem k_2 : Cond.selects RX9 yX9_removeSlots yX9_removeSlots ∈ lw_tbl := List.mem_of_getElem? (i := 2) (by decide +kernel)
theorem k_3 : Cond.selects RX9 yX9_remove yX9_remove ∈ lw_tbl := List.mem_of_getElem? (i := 3) (by decide +kernel)
theorem k_4 : Cond.selects RX10 yX10_paint yX10_paint ∈ lw_tbl := List.mem_of_getElem? (i := 4) (by decide +kernel)
theorem k_5 : Cond.selects RX10 yX10_removeTilesThatSee yX10_removeTilesThatSee ∈ lw_tbl := List.mem_of_getElem? (i := 5) (by decide +kernel)
theorem k_6 : Cond.selects RX10 yX10_tileColumns yX10_tileColumns ∈ lw_tbl := List.mem_of_getElem? (i := 6) (by decide +kernel)
theorem k_7 : Cond.selects RX10 yX10_tileRows yX10_tileRows ∈ lw_tbl := List.mem_of_getElem? (i := 7) (by decide +kernel)
theorem k_8 : Cond.selects RX10 yX10_startChangeOf yX10_startChangeOf ∈ lw_tbl := List.mem_of_getElem? (i := 8) (by decide +kernel)
theorem k_9 : Cond.selects RX10 yX10_requestTile yX10_requestTile ∈ lw_tbl := List.mem_of_getElem? (i := 9) (by decide +kernel)
theorem k_10 : Cond.selects RX9 yX9_use yX9_use ∈ lw_tbl := List.mem_of_getElem? (i := 10) (by decide +kernel)
theorem k_11 : Cond.selects RX10 yX10_requestInput yX10_requestInput ∈ lw_tbl := List.mem_of_getElem? (i := 11) (by decide +kernel)
theorem k_12 : Cond.selects RX10 yX10_pictureOf yX10_pictureOf ∈ lw_tbl := List.mem_of_getElem? (i := 12) (by decide +kernel)
theorem k_13 : Cond.selects RX7 yX7_findExtremes yX7_findExtremes ∈ lw_tbl := List.mem_of_getElem? (i := 13) (by decide +kernel)
theorem k_14 : Cond.selects RX7 yX7_adjusted yX7_adjusted ∈ lw_tbl := List.mem_of_getElem? (i := 14) (by decide +kernel)
theorem k_15 : Cond.selects RX7 yX7_gatherNeighbours yX7_gatherNeighbours ∈ lw_tbl := List.mem_of_getElem? (i := 15) (by decide +kernel)
theorem k_16 : Cond.selects RX7 yX7_average yX7_average ∈ lw_tbl := List.mem_of_getElem? (i := 16) (by decide +kernel)
theorem k_17 : Cond.selects RX7 yX7_median yX7_median ∈ lw_tbl := List.mem_of_getElem? (i := 17) (by decide +kernel)
theorem k_18 : Cond.selects RX7 yX7_sortNeighbours yX7_sortNeighbours ∈ lw_tbl := List.mem_of_getElem? (i := 18) (by decide +kernel)
theorem k_19 : Cond.selects RX7 yX7_greatest yX7_greatest ∈ lw_tbl := List.mem_of_getElem? (i := 19) (by decide +kernel)
theorem k_20 : Cond.selects RX7 yX7_smallest yX7_smallest ∈ lw_tbl := List.mem_of_getElem? (i := 20) (by decide +kernel)
theorem k_21 : Cond.selects RX4 yX4_rectangleWeightAt yX4_rectangleWeightAt ∈ lw_tbl := List.mem_of_getElem? (i := 21) (by decide +kernel)
theorem k_22 : Cond.selects RX4 yX4_gradientWeightAt yX4_gradientWeightAt ∈ lw_tbl := List.mem_of_getElem? (i := 22) (by decide +kernel)
theorem k_23 : Cond.selects RX4 yX4_isDabbed yX4_isDabbed ∈ lw_tbl := List.mem_of_getElem? (i := 23) (by decide +kernel)
theorem k_24 : Cond.selects RX10 yX10_changeWithout yX10_changeWithout ∈ lw_tbl := List.mem_of_getElem? (i := 24) (by decide +kernel)
theorem k_25 : Cond.selects RX10 yX10_pixelsThatDiffer yX10_pixelsThatDiffer ∈ lw_tbl := List.mem_of_getElem? (i := 25) (by decide +kernel)
theorem k_26 : Cond.selects RX10 yX10_hasOutput yX10_hasOutput ∈ lw_tbl := List.mem_of_getElem? (i := 26) (by decide +kernel)
theorem k_27 : Cond.initialized RL ∈ lw_tbl := List.mem_of_getElem? (i := 27) (by decide +kernel)
theorem k_28 : Cond.initialized RX10 ∈ lw_tbl := List.mem_of_getElem? (i := 28) (by decide +kernel)
theorem k_29 : Cond.initialized RX0 ∈ lw_tbl := List.mem_of_getElem? (i := 29) (by decide +kernel)
theorem k_30 : Cond.initialized RX6 ∈ lw_tbl := List.mem_of_getElem? (i := 30) (by decide +kernel)
theorem k_31 : Cond.initialized RX3 ∈ lw_tbl := List.mem_of_getElem? (i := 31) (by decide +kernel)
theorem k_32 : Cond.initialized RX4 ∈ lw_tbl := List.mem_of_getElem? (i := 32) (by decide +kernel)
theorem k_33 : Cond.initialized RX1 ∈ lw_tbl := List.mem_of_getElem? (i := 33) (by decide +kernel)
theorem k_34 : Cond.initialized RX8 ∈ lw_tbl := List.mem_of_getElem? (i := 34) (by decide +kernel)
theorem k_35 : Cond.initialized RX9 ∈ lw_tbl := List.mem_of_getElem? (i := 35) (by decide +kernel)
theorem k_36 : Cond.initialized RX7 ∈ lw_tbl := List.mem_of_getElem? (i := 36) (by decide +kernel)
theorem k_37 : Cond.initialized RJ9 ∈ lw_tbl := List.mem_of_getElem? (i := 37) (by decide +kernel)
theorem k_38 : Cond.initialized RX2 ∈ lw_tbl := List.mem_of_getElem? (i := 38) (by decide +kernel)
theorem k_39 : Cond.initialized RX5 ∈ lw_tbl := List.mem_of_getElem? (i := 39) (by decide +kernel)
theorem k_40 : Cond.classLink RL 9 RX10 ∈ lw_tbl := List.mem_of_getElem? (i := 40) (by decide +kernel)
theorem k_41 : Cond.instantiable RX10 9 ∈ lw_tbl := List.mem_of_getElem? (i := 41) (by decide +kernel)
theorem k_42 : Cond.methodLink RL 86 yX10_init ∈ lw_tbl := List.mem_of_getElem? (i := 42) (by decide +kernel)
theorem k_43 : Cond.instanceMethod yX10_init ∈ lw_tbl := List.mem_of_getElem? (i := 43) (by decide +kernel)
theorem k_44 : Cond.code yX10_init cX10_init 1 none ∈ lw_tbl := List.mem_of_getElem? (i := 44) (by decide +kernel)
theorem k_45 : Cond.methodLink RX10 1 Lib.objectInit ∈ lw_tbl := List.mem_of_getElem? (i := 45) (by decide +kernel)
theorem k_46 : Cond.instanceMethod Lib.objectInit ∈ lw_tbl := List.mem_of_getElem? (i := 46) (by decide +kernel)
theorem k_47 : Cond.code Lib.objectInit ⟨#[0xb1]⟩ 1 none ∈ lw_tbl := List.mem_of_getElem? (i := 47) (by decide +kernel)
theorem k_48 : Cond.classLink RX10 7 RX0 ∈ lw_tbl := List.mem_of_getElem? (i := 48) (by decide +kernel)
theorem k_49 : Cond.instantiable RX0 3 ∈ lw_tbl := List.mem_of_getElem? (i := 49) (by decide +kernel)
theorem k_50 : Cond.methodLink RX10 9 yX0_init ∈ lw_tbl := List.mem_of_getElem? (i := 50) (by decide +kernel)
theorem k_51 : Cond.instanceMethod yX0_init ∈ lw_tbl := List.mem_of_getElem? (i := 51) (by decide +kernel)
theorem k_52 : Cond.code yX0_init cX0_init 2 none ∈ lw_tbl := List.mem_of_getElem? (i := 52) (by decide +kernel)
theorem k_53 : Cond.methodLink RX0 3 Lib.objectInit ∈ lw_tbl := List.mem_of_getElem? (i := 53) (by decide +kernel)
theorem k_54 : Cond.classLink RX0 9 RX6 ∈ lw_tbl := List.mem_of_getElem? (i := 54) (by decide +kernel)
theorem k_55 : Cond.instantiable RX6 3 ∈ lw_tbl := List.mem_of_getElem? (i := 55) (by decide +kernel)
theorem k_56 : Cond.methodLinkNest RX0 11 yX6_init RX10 ∈ lw_tbl := List.mem_of_getElem? (i := 56) (by decide +kernel)
theorem k_57 : Cond.instanceMethod yX6_init ∈ lw_tbl := List.mem_of_getElem? (i := 57) (by decide +kernel)
theorem k_58 : Cond.code yX6_init cX6_init 1 none ∈ lw_tbl := List.mem_of_getElem? (i := 58) (by decide +kernel)
theorem k_59 : Cond.methodLink RX6 3 Lib.objectInit ∈ lw_tbl := List.mem_of_getElem? (i := 59) (by decide +kernel)
theorem k_60 : Cond.fieldLink RX6 9 RX6 (TX6 0).2.1 (TX6 0).2.2.1 ∈ lw_tbl := List.mem_of_getElem? (i := 60) (by decide +kernel)
theorem k_61 : Cond.fieldLink RX6 15 RX6 (TX6 1).2.1 (TX6 1).2.2.1 ∈ lw_tbl := List.mem_of_getElem? (i := 61) (by decide +kernel)
theorem k_62 : Cond.fieldLinkNest RX7 62 RX6 (TX6 1).2.1 (TX6 1).2.2.1 RX10 ∈ lw_tbl := List.mem_of_getElem? (i := 62) (by decide +kernel)
theorem k_63 : Cond.fieldLinkNest RX10 88 RX6 (TX6 1).2.1 (TX6 1).2.2.1 RX10 ∈ lw_tbl := List.mem_of_getElem? (i := 63) (by decide +kernel)
theorem k_64 : Cond.fieldLink RX6 19 RX6 (TX6 2).2.1 (TX6 2).2.2.1 ∈ lw_tbl := List.mem_of_getElem? (i := 64) (by decide +kernel)
theorem k_65 : Cond.fieldLinkNest RX7 59 RX6 (TX6 2).2.1 (TX6 2).2.2.1 RX10 ∈ lw_tbl := List.mem_of_getElem? (i := 65) (by decide +kernel)
theorem k_66 : Cond.fieldLinkNest RX10 92 RX6 (TX6 2).2.1 (TX6 2).2.2.1 RX10 ∈ lw_tbl := List.mem_of_getElem? (i := 66) (by decide +kernel)
theorem k_74 : Cond.arrayClass .int ∈ lw_tbl := List.mem_of_getElem? (i := 74) (by decide +kernel)
theorem k_75 : Cond.classLink RX0 18 RX3 ∈ lw_tbl := List.mem_of_getElem? (i := 75) (by decide +kernel)
theorem k_76 : Cond.arrayOver (.object RX3) ∈ lw_tbl := List.mem_of_getElem? (i := 76) (by decide +kernel)
theorem k_77 : Cond.instantiable RX3 7 ∈ lw_tbl := List.mem_of_getElem? (i := 77) (by decide +kernel)
theorem k_78 : Cond.methodLinkNest RX0 24 yX3_init RX10 ∈ lw_tbl := List.mem_of_getElem? (i := 78) (by decide +kernel)
theorem k_79 : Cond.instanceMethod yX3_init ∈ lw_tbl := List.mem_of_getElem? (i := 79) (by decide +kernel)
theorem k_80 : Cond.code yX3_init cX3_init 1 none ∈ lw_tbl := List.mem_of_getElem? (i := 80) (by decide +kernel)
theorem k_81 : Cond.methodLink RX3 3 Lib.objectInit ∈ lw_tbl := List.mem_of_getElem? (i := 81) (by decide +kernel)
theorem k_82 : Cond.classLink RX3 9 RX4 ∈ lw_tbl := List.mem_of_getElem? (i := 82) (by decide +kernel)
theorem k_83 : Cond.instantiable RX4 9 ∈ lw_tbl := List.mem_of_getElem? (i := 83) (by decide +kernel)
theorem k_84 : Cond.methodLinkNest RX3 11 yX4_init RX10 ∈ lw_tbl := List.mem_of_getElem? (i := 84) (by decide +kernel)
theorem k_85 : Cond.instanceMethod yX4_init ∈ lw_tbl := List.mem_of_getElem? (i := 85) (by decide +kernel)
theorem k_86 : Cond.code yX4_init cX4_init 1 none ∈ lw_tbl := List.mem_of_getElem? (i := 86) (by decide +kernel)
theorem k_87 : Cond.methodLink RX4 3 Lib.objectInit ∈ lw_tbl := List.mem_of_getElem? (i := 87) (by decide +kernel)
theorem k_88 : Cond.fieldLink RX4 19 RX4 (TX4 0).2.1 (TX4 0).2.2.1 ∈ lw_tbl := List.mem_of_getElem? (i := 88) (by decide +kernel)
theorem k_89 : Cond.fieldLinkNest RX10 202 RX4 (TX4 0).2.1 (TX4 0).2.2.1 RX10 ∈ lw_tbl := List.mem_of_getElem? (i := 89) (by decide +kernel)
theorem k_90 : Cond.fieldLink RX4 23 RX4 (TX4 1).2.1 (TX4 1).2.2.1 ∈ lw_tbl := List.mem_of_getElem? (i := 90) (by decide +kernel)
theorem k_91 : Cond.fieldLink RX4 26 RX4 (TX4 2).2.1 (TX4 2).2.2.1 ∈ lw_tbl := List.mem_of_getElem? (i := 91) (by decide +kernel)
theorem k_92 : Cond.fieldLink RX4 29 RX4 (TX4 3).2.1 (TX4 3).2.2.1 ∈ lw_tbl := List.mem_of_getElem? (i := 92) (by decide +kernel)
theorem k_93 : Cond.fieldLink RX4 32 RX4 (TX4 4).2.1 (TX4 4).2.2.1 ∈ lw_tbl := List.mem_of_getElem? (i := 93) (by decide +kernel)
theorem k_94 : Cond.fieldLink RX4 39 RX4 (TX4 5).2.1 (TX4 5).2.2.1 ∈ lw_tbl := List.mem_of_getElem? (i := 94) (by decide +kernel)
theorem k_95 : Cond.fieldLinkNest RX10 220 RX4 (TX4 5).2.1 (TX4 5).2.2.1 RX10 ∈ lw_tbl := List.mem_of_getElem? (i := 95) (by decide +kernel)
theorem k_96 : Cond.fieldLink RX4 42 RX4 (TX4 6).2.1 (TX4 6).2.2.1 ∈ lw_tbl := List.mem_of_getElem? (i := 96) (by decide +kernel)
theorem k_97 : Cond.fieldLinkNest RX10 223 RX4 (TX4 6).2.1 (TX4 6).2.2.1 RX10 ∈ lw_tbl := List.mem_of_getElem? (i := 97) (by decide +kernel)
theorem k_98 : Cond.fieldLink RX4 46 RX4 (TX4 7).2.1 (TX4 7).2.2.1 ∈ lw_tbl := List.mem_of_getElem? (i := 98) (by decide +kernel)
theorem k_99 : Cond.fieldLinkNest RX10 205 RX4 (TX4 7).2.1 (TX4 7).2.2.1 RX10 ∈ lw_tbl := List.mem_of_getElem? (i := 99) (by decide +kernel)
theorem k_100 : Cond.fieldLink RX4 11 RX4 (TX4 8).2.1 (TX4 8).2.2.1 ∈ lw_tbl := List.mem_of_getElem? (i := 100) (by decide +kernel)
theorem k_120 : Cond.fieldLink RX3 18 RX3 (TX3 0).2.1 (TX3 0).2.2.1 ∈ lw_tbl := List.mem_of_getElem? (i := 120) (by decide +kernel)
theorem k_121 : Cond.fieldLinkNest RX7 52 RX3 (TX3 0).2.1 (TX3 0).2.2.1 RX10 ∈ lw_tbl := List.mem_of_getElem? (i := 121) (by decide +kernel)
theorem k_122 : Cond.fieldLinkNest RX10 156 RX3 (TX3 0).2.1 (TX3 0).2.2.1 RX10 ∈ lw_tbl := List.mem_of_getElem? (i := 122) (by decide +kernel)
theorem k_123 : Cond.fieldLink RX3 22 RX3 (TX3 1).2.1 (TX3 1).2.2.1 ∈ lw_tbl := List.mem_of_getElem? (i := 123) (by decide +kernel)
theorem k_124 : Cond.fieldLinkNest RX7 101 RX3 (TX3 1).2.1 (TX3 1).2.2.1 RX10 ∈ lw_tbl := List.mem_of_getElem? (i := 124) (by decide +kernel)
theorem k_125 : Cond.fieldLinkNest RX10 159 RX3 (TX3 1).2.1 (TX3 1).2.2.1 RX10 ∈ lw_tbl := List.mem_of_getElem? (i := 125) (by decide +kernel)
theorem k_126 : Cond.fieldLink RX3 25 RX3 (TX3 2).2.1 (TX3 2).2.2.1 ∈ lw_tbl := List.mem_of_getElem? (i := 126) (by decide +kernel)
theorem k_127 : Cond.fieldLinkNest RX7 104 RX3 (TX3 2).2.1 (TX3 2).2.2.1 RX10 ∈ lw_tbl := List.mem_of_getElem? (i := 127) (by decide +kernel)
theorem k_128 : Cond.fieldLinkNest RX10 166 RX3 (TX3 2).2.1 (TX3 2).2.2.1 RX10 ∈ lw_tbl := List.mem_of_getElem? (i := 128) (by decide +kernel)
theorem k_129 : Cond.fieldLink RX3 30 RX3 (TX3 3).2.1 (TX3 3).2.2.1 ∈ lw_tbl := List.mem_of_getElem? (i := 129) (by decide +kernel)
theorem k_130 : Cond.fieldLinkNest RX7 69 RX3 (TX3 3).2.1 (TX3 3).2.2.1 RX10 ∈ lw_tbl := List.mem_of_getElem? (i := 130) (by decide +kernel)
theorem k_131 : Cond.fieldLinkNest RX10 172 RX3 (TX3 3).2.1 (TX3 3).2.2.1 RX10 ∈ lw_tbl := List.mem_of_getElem? (i := 131) (by decide +kernel)
theorem k_132 : Cond.fieldLink RX3 33 RX3 (TX3 4).2.1 (TX3 4).2.2.1 ∈ lw_tbl := List.mem_of_getElem? (i := 132) (by decide +kernel)
theorem k_133 : Cond.fieldLinkNest RX7 91 RX3 (TX3 4).2.1 (TX3 4).2.2.1 RX10 ∈ lw_tbl := List.mem_of_getElem? (i := 133) (by decide +kernel)
theorem k_134 : Cond.fieldLinkNest RX10 169 RX3 (TX3 4).2.1 (TX3 4).2.2.1 RX10 ∈ lw_tbl := List.mem_of_getElem? (i := 134) (by decide +kernel)
theorem k_135 : Cond.fieldLink RX3 36 RX3 (TX3 5).2.1 (TX3 5).2.2.1 ∈ lw_tbl := List.mem_of_getElem? (i := 135) (by decide +kernel)
theorem k_136 : Cond.fieldLinkNest RX7 39 RX3 (TX3 5).2.1 (TX3 5).2.2.1 RX10 ∈ lw_tbl := List.mem_of_getElem? (i := 136) (by decide +kernel)
theorem k_137 : Cond.fieldLinkNest RX0 33 RX3 (TX3 5).2.1 (TX3 5).2.2.1 RX10 ∈ lw_tbl := List.mem_of_getElem? (i := 137) (by decide +kernel)
theorem k_138 : Cond.fieldLinkNest RX10 122 RX3 (TX3 5).2.1 (TX3 5).2.2.1 RX10 ∈ lw_tbl := List.mem_of_getElem? (i := 138) (by decide +kernel)
theorem k_139 : Cond.fieldLink RX3 12 RX3 (TX3 6).2.1 (TX3 6).2.2.1 ∈ lw_tbl := List.mem_of_getElem? (i := 139) (by decide +kernel)
theorem k_140 : Cond.fieldLinkNest RX7 82 RX3 (TX3 6).2.1 (TX3 6).2.2.1 RX10 ∈ lw_tbl := List.mem_of_getElem? (i := 140) (by decide +kernel)
theorem k_141 : Cond.fieldLinkNest RX10 198 RX3 (TX3 6).2.1 (TX3 6).2.2.1 RX10 ∈ lw_tbl := List.mem_of_getElem? (i := 141) (by decide +kernel)
theorem k_157 : Cond.fieldLink RX0 12 RX0 (TX0 0).2.1 (TX0 0).2.2.1 ∈ lw_tbl := List.mem_of_getElem? (i := 157) (by decide +kernel)
theorem k_158 : Cond.fieldLinkNest RX10 61 RX0 (TX0 0).2.1 (TX0 0).2.2.1 RX10 ∈ lw_tbl := List.mem_of_getElem? (i := 158) (by decide +kernel)
theorem k_159 : Cond.fieldLinkNest RX7 22 RX0 (TX0 0).2.1 (TX0 0).2.2.1 RX10 ∈ lw_tbl := List.mem_of_getElem? (i := 159) (by decide +kernel)
theorem k_160 : Cond.fieldLink RX0 20 RX0 (TX0 1).2.1 (TX0 1).2.2.1 ∈ lw_tbl := List.mem_of_getElem? (i := 160) (by decide +kernel)
theorem k_161 : Cond.fieldLink RX0 25 RX0 (TX0 2).2.1 (TX0 2).2.2.1 ∈ lw_tbl := List.mem_of_getElem? (i := 161) (by decide +kernel)
theorem k_169 : Cond.classLink RX10 19 RX1 ∈ lw_tbl := List.mem_of_getElem? (i := 169) (by decide +kernel)
theorem k_170 : Cond.instantiable RX1 2 ∈ lw_tbl := List.mem_of_getElem? (i := 170) (by decide +kernel)
theorem k_171 : Cond.methodLink RX10 21 yX1_init ∈ lw_tbl := List.mem_of_getElem? (i := 171) (by decide +kernel)
theorem k_172 : Cond.instanceMethod yX1_init ∈ lw_tbl := List.mem_of_getElem? (i := 172) (by decide +kernel)
theorem k_173 : Cond.code yX1_init cX1_init 2 none ∈ lw_tbl := List.mem_of_getElem? (i := 173) (by decide +kernel)
theorem k_174 : Cond.methodLink RX1 3 Lib.objectInit ∈ lw_tbl := List.mem_of_getElem? (i := 174) (by decide +kernel)
theorem k_175 : Cond.classLink RX1 9 RX0 ∈ lw_tbl := List.mem_of_getElem? (i := 175) (by decide +kernel)
theorem k_176 : Cond.arrayOver (.object RX0) ∈ lw_tbl := List.mem_of_getElem? (i := 176) (by decide +kernel)
theorem k_177 : Cond.methodLink RX1 17 yX0_init ∈ lw_tbl := List.mem_of_getElem? (i := 177) (by decide +kernel)
theorem k_178 : Cond.fieldLink RX1 11 RX1 (TX1 0).2.1 (TX1 0).2.2.1 ∈ lw_tbl := List.mem_of_getElem? (i := 178) (by decide +kernel)
theorem k_179 : Cond.fieldLink RX1 18 RX1 (TX1 1).2.1 (TX1 1).2.2.1 ∈ lw_tbl := List.mem_of_getElem? (i := 179) (by decide +kernel)
theorem k_180 : Cond.fieldLinkNest RX10 332 RX1 (TX1 1).2.1 (TX1 1).2.2.1 RX10 ∈ lw_tbl := List.mem_of_getElem? (i := 180) (by decide +kernel)
theorem k_186 : Cond.classLink RX10 30 RX8 ∈ lw_tbl := List.mem_of_getElem? (i := 186) (by decide +kernel)
theorem k_187 : Cond.instantiable RX8 7 ∈ lw_tbl := List.mem_of_getElem? (i := 187) (by decide +kernel)
theorem k_188 : Cond.methodLinkNest RX10 32 yX8_init RX10 ∈ lw_tbl := List.mem_of_getElem? (i := 188) (by decide +kernel)
theorem k_189 : Cond.instanceMethod yX8_init ∈ lw_tbl := List.mem_of_getElem? (i := 189) (by decide +kernel)
theorem k_190 : Cond.code yX8_init cX8_init 1 none ∈ lw_tbl := List.mem_of_getElem? (i := 190) (by decide +kernel)
theorem k_191 : Cond.methodLink RX8 3 Lib.objectInit ∈ lw_tbl := List.mem_of_getElem? (i := 191) (by decide +kernel)
theorem k_192 : Cond.fieldLink RX8 9 RX8 (TX8 0).2.1 (TX8 0).2.2.1 ∈ lw_tbl := List.mem_of_getElem? (i := 192) (by decide +kernel)
theorem k_208 : Cond.arrayClass .char ∈ lw_tbl := List.mem_of_getElem? (i := 208) (by decide +kernel)
theorem k_209 : Cond.classLink RX10 37 RX9 ∈ lw_tbl := List.mem_of_getElem? (i := 209) (by decide +kernel)
theorem k_210 : Cond.instantiable RX9 9 ∈ lw_tbl := List.mem_of_getElem? (i := 210) (by decide +kernel)
theorem k_211 : Cond.methodLink RX10 39 yX9_init ∈ lw_tbl := List.mem_of_getElem? (i := 211) (by decide +kernel)
theorem k_212 : Cond.instanceMethod yX9_init ∈ lw_tbl := List.mem_of_getElem? (i := 212) (by decide +kernel)
theorem k_213 : Cond.code yX9_init cX9_init 2 none ∈ lw_tbl := List.mem_of_getElem? (i := 213) (by decide +kernel)
theorem k_214 : Cond.methodLink RX9 5 Lib.objectInit ∈ lw_tbl := List.mem_of_getElem? (i := 214) (by decide +kernel)
theorem k_215 : Cond.classLink RX9 11 RX6 ∈ lw_tbl := List.mem_of_getElem? (i := 215) (by decide +kernel)
theorem k_216 : Cond.arrayOver (.object RX6) ∈ lw_tbl := List.mem_of_getElem? (i := 216) (by decide +kernel)
theorem k_217 : Cond.methodLinkNest RX9 28 yX6_init RX10 ∈ lw_tbl := List.mem_of_getElem? (i := 217) (by decide +kernel)
theorem k_218 : Cond.fieldLink RX9 13 RX9 (TX9 0).2.1 (TX9 0).2.2.1 ∈ lw_tbl := List.mem_of_getElem? (i := 218) (by decide +kernel)
theorem k_219 : Cond.fieldLink RX9 17 RX9 (TX9 1).2.1 (TX9 1).2.2.1 ∈ lw_tbl := List.mem_of_getElem? (i := 219) (by decide +kernel)
theorem k_220 : Cond.fieldLink RX9 21 RX9 (TX9 2).2.1 (TX9 2).2.2.1 ∈ lw_tbl := List.mem_of_getElem? (i := 220) (by decide +kernel)
theorem k_221 : Cond.fieldLinkNest RX10 98 RX9 (TX9 2).2.1 (TX9 2).2.2.1 RX10 ∈ lw_tbl := List.mem_of_getElem? (i := 221) (by decide +kernel)
theorem k_222 : Cond.fieldLink RX9 25 RX9 (TX9 3).2.1 (TX9 3).2.2.1 ∈ lw_tbl := List.mem_of_getElem? (i := 222) (by decide +kernel)
theorem k_223 : Cond.fieldLinkNest RX10 107 RX9 (TX9 3).2.1 (TX9 3).2.2.1 RX10 ∈ lw_tbl := List.mem_of_getElem? (i := 223) (by decide +kernel)
theorem k_224 : Cond.fieldLink RX9 47 RX9 (TX9 4).2.1 (TX9 4).2.2.1 ∈ lw_tbl := List.mem_of_getElem? (i := 224) (by decide +kernel)
theorem k_225 : Cond.fieldLink RX9 50 RX9 (TX9 5).2.1 (TX9 5).2.2.1 ∈ lw_tbl := List.mem_of_getElem? (i := 225) (by decide +kernel)
theorem k_226 : Cond.fieldLink RX9 44 RX9 (TX9 6).2.1 (TX9 6).2.2.1 ∈ lw_tbl := List.mem_of_getElem? (i := 226) (by decide +kernel)
theorem k_227 : Cond.fieldLinkNest RX10 269 RX9 (TX9 6).2.1 (TX9 6).2.2.1 RX10 ∈ lw_tbl := List.mem_of_getElem? (i := 227) (by decide +kernel)
theorem k_228 : Cond.fieldLink RX9 37 RX9 (TX9 7).2.1 (TX9 7).2.2.1 ∈ lw_tbl := List.mem_of_getElem? (i := 228) (by decide +kernel)
theorem k_229 : Cond.fieldLinkNest RX10 278 RX9 (TX9 7).2.1 (TX9 7).2.2.1 RX10 ∈ lw_tbl := List.mem_of_getElem? (i := 229) (by decide +kernel)
theorem k_230 : Cond.fieldLink RX9 66 RX9 (TX9 8).2.1 (TX9 8).2.2.1 ∈ lw_tbl := List.mem_of_getElem? (i := 230) (by decide +kernel)
theorem k_231 : Cond.fieldLinkNest RX10 281 RX9 (TX9 8).2.1 (TX9 8).2.2.1 RX10 ∈ lw_tbl := List.mem_of_getElem? (i := 231) (by decide +kernel)
theorem k_251 : Cond.classLink RX10 44 RX7 ∈ lw_tbl := List.mem_of_getElem? (i := 251) (by decide +kernel)
theorem k_252 : Cond.instantiable RX7 5 ∈ lw_tbl := List.mem_of_getElem? (i := 252) (by decide +kernel)
theorem k_253 : Cond.methodLinkNest RX10 46 yX7_init RX10 ∈ lw_tbl := List.mem_of_getElem? (i := 253) (by decide +kernel)
theorem k_254 : Cond.instanceMethod yX7_init ∈ lw_tbl := List.mem_of_getElem? (i := 254) (by decide +kernel)
theorem k_255 : Cond.code yX7_init cX7_init 1 none ∈ lw_tbl := List.mem_of_getElem? (i := 255) (by decide +kernel)
theorem k_256 : Cond.methodLink RX7 3 Lib.objectInit ∈ lw_tbl := List.mem_of_getElem? (i := 256) (by decide +kernel)
theorem k_257 : Cond.classLink RX7 9 RX6 ∈ lw_tbl := List.mem_of_getElem? (i := 257) (by decide +kernel)
theorem k_258 : Cond.methodLinkNest RX7 11 yX6_init RX10 ∈ lw_tbl := List.mem_of_getElem? (i := 258) (by decide +kernel)
theorem k_259 : Cond.fieldLink RX7 12 RX7 (TX7 0).2.1 (TX7 0).2.2.1 ∈ lw_tbl := List.mem_of_getElem? (i := 259) (by decide +kernel)
theorem k_260 : Cond.fieldLink RX7 18 RX7 (TX7 1).2.1 (TX7 1).2.2.1 ∈ lw_tbl := List.mem_of_getElem? (i := 260) (by decide +kernel)
theorem k_261 : Cond.fieldLink RX7 148 RX7 (TX7 2).2.1 (TX7 2).2.2.1 ∈ lw_tbl := List.mem_of_getElem? (i := 261) (by decide +kernel)
theorem k_262 : Cond.fieldLink RX7 137 RX7 (TX7 3).2.1 (TX7 3).2.2.1 ∈ lw_tbl := List.mem_of_getElem? (i := 262) (by decide +kernel)
theorem k_263 : Cond.fieldLink RX7 134 RX7 (TX7 4).2.1 (TX7 4).2.2.1 ∈ lw_tbl := List.mem_of_getElem? (i := 263) (by decide +kernel)
theorem k_275 : Cond.classLink RX10 51 RX6 ∈ lw_tbl := List.mem_of_getElem? (i := 275) (by decide +kernel)
theorem k_276 : Cond.methodLinkNest RX10 53 yX6_init RX10 ∈ lw_tbl := List.mem_of_getElem? (i := 276) (by decide +kernel)
theorem k_277 : Cond.methodLink RX10 64 yX6_startAs ∈ lw_tbl := List.mem_of_getElem? (i := 277) (by decide +kernel)
theorem k_278 : Cond.instanceMethod yX6_startAs ∈ lw_tbl := List.mem_of_getElem? (i := 278) (by decide +kernel)
theorem k_279 : Cond.selects RX6 yX6_startAs yX6_startAs ∈ lw_tbl := List.mem_of_getElem? (i := 279) (by decide +kernel)
theorem k_280 : Cond.code yX6_startAs cX6_startAs 5 none ∈ lw_tbl := List.mem_of_getElem? (i := 280) (by decide +kernel)
theorem k_281 : Cond.methodLink RX6 22 yX6_put ∈ lw_tbl := List.mem_of_getElem? (i := 281) (by decide +kernel)
theorem k_282 : Cond.instanceMethod yX6_put ∈ lw_tbl := List.mem_of_getElem? (i := 282) (by decide +kernel)
theorem k_283 : Cond.selects RX6 yX6_put yX6_put ∈ lw_tbl := List.mem_of_getElem? (i := 283) (by decide +kernel)
theorem k_284 : Cond.code yX6_put cX6_put 5 none ∈ lw_tbl := List.mem_of_getElem? (i := 284) (by decide +kernel)
theorem k_285 : Cond.fieldLink RX10 10 RX10 (TX10 0).2.1 (TX10 0).2.2.1 ∈ lw_tbl := List.mem_of_getElem? (i := 285) (by decide +kernel)
theorem k_286 : Cond.fieldLink RX10 16 RX10 (TX10 1).2.1 (TX10 1).2.2.1 ∈ lw_tbl := List.mem_of_getElem? (i := 286) (by decide +kernel)
theorem k_287 : Cond.fieldLink RX10 22 RX10 (TX10 2).2.1 (TX10 2).2.2.1 ∈ lw_tbl := List.mem_of_getElem? (i := 287) (by decide +kernel)
theorem k_288 : Cond.fieldLink RX10 26 RX10 (TX10 3).2.1 (TX10 3).2.2.1 ∈ lw_tbl := List.mem_of_getElem? (i := 288) (by decide +kernel)
theorem k_289 : Cond.fieldLink RX10 33 RX10 (TX10 4).2.1 (TX10 4).2.2.1 ∈ lw_tbl := List.mem_of_getElem? (i := 289) (by decide +kernel)
theorem k_290 : Cond.fieldLink RX10 40 RX10 (TX10 5).2.1 (TX10 5).2.2.1 ∈ lw_tbl := List.mem_of_getElem? (i := 290) (by decide +kernel)
theorem k_291 : Cond.fieldLink RX10 47 RX10 (TX10 6).2.1 (TX10 6).2.2.1 ∈ lw_tbl := List.mem_of_getElem? (i := 291) (by decide +kernel)
theorem k_292 : Cond.fieldLink RX10 54 RX10 (TX10 7).2.1 (TX10 7).2.2.1 ∈ lw_tbl := List.mem_of_getElem? (i := 292) (by decide +kernel)
theorem k_293 : Cond.fieldLink RX10 58 RX10 (TX10 8).2.1 (TX10 8).2.2.1 ∈ lw_tbl := List.mem_of_getElem? (i := 293) (by decide +kernel)
theorem k_313 : Cond.methodLink RL 91 yX10_newImage ∈ lw_tbl := List.mem_of_getElem? (i := 313) (by decide +kernel)
theorem k_314 : Cond.instanceMethod yX10_newImage ∈ lw_tbl := List.mem_of_getElem? (i := 314) (by decide +kernel)
theorem k_315 : Cond.selects RX10 yX10_newImage yX10_newImage ∈ lw_tbl := List.mem_of_getElem? (i := 315) (by decide +kernel)
theorem k_316 : Cond.code yX10_newImage cX10_newImage 3 (some FieldType.int) ∈ lw_tbl := List.mem_of_getElem? (i := 316) (by decide +kernel)
theorem k_317 : Cond.methodLink RX10 68 yX10_within ∈ lw_tbl := List.mem_of_getElem? (i := 317) (by decide +kernel)
theorem k_318 : Cond.static yX10_within ∈ lw_tbl := List.mem_of_getElem? (i := 318) (by decide +kernel)
theorem k_319 : Cond.code yX10_within cX10_within 3 (some FieldType.boolean) ∈ lw_tbl := List.mem_of_getElem? (i := 319) (by decide +kernel)
theorem k_320 : Cond.methodLink RX10 72 yX1_push ∈ lw_tbl := List.mem_of_getElem? (i := 320) (by decide +kernel)
theorem k_321 : Cond.instanceMethod yX1_push ∈ lw_tbl := List.mem_of_getElem? (i := 321) (by decide +kernel)
theorem k_322 : Cond.selects RX1 yX1_push yX1_push ∈ lw_tbl := List.mem_of_getElem? (i := 322) (by decide +kernel)
theorem k_323 : Cond.code yX1_push cX1_push 3 none ∈ lw_tbl := List.mem_of_getElem? (i := 323) (by decide +kernel)
theorem k_324 : Cond.methodLink RX1 22 yX1_discardOldest ∈ lw_tbl := List.mem_of_getElem? (i := 324) (by decide +kernel)
theorem k_326 : Cond.instanceMethod yX1_discardOldest ∈ lw_tbl := List.mem_of_getElem? (i := 326) (by decide +kernel)
theorem k_327 : Cond.code yX1_discardOldest cX1_discardOldest 3 none ∈ lw_tbl := List.mem_of_getElem? (i := 327) (by decide +kernel)
theorem k_328 : Cond.methodLink RX1 25 yX0_copyFrom ∈ lw_tbl := List.mem_of_getElem? (i := 328) (by decide +kernel)
theorem k_329 : Cond.instanceMethod yX0_copyFrom ∈ lw_tbl := List.mem_of_getElem? (i := 329) (by decide +kernel)
theorem k_330 : Cond.selects RX0 yX0_copyFrom yX0_copyFrom ∈ lw_tbl := List.mem_of_getElem? (i := 330) (by decide +kernel)
theorem k_331 : Cond.code yX0_copyFrom cX0_copyFrom 2 none ∈ lw_tbl := List.mem_of_getElem? (i := 331) (by decide +kernel)
theorem k_332 : Cond.methodLink RX0 37 yX6_copyFrom ∈ lw_tbl := List.mem_of_getElem? (i := 332) (by decide +kernel)
theorem k_333 : Cond.instanceMethod yX6_copyFrom ∈ lw_tbl := List.mem_of_getElem? (i := 333) (by decide +kernel)
theorem k_334 : Cond.selects RX6 yX6_copyFrom yX6_copyFrom ∈ lw_tbl := List.mem_of_getElem? (i := 334) (by decide +kernel)
theorem k_335 : Cond.code yX6_copyFrom cX6_copyFrom 4 none ∈ lw_tbl := List.mem_of_getElem? (i := 335) (by decide +kernel)
theorem k_336 : Cond.methodLink RX6 38 yX6_takeSizeOf ∈ lw_tbl := List.mem_of_getElem? (i := 336) (by decide +kernel)
theorem k_337 : Cond.instanceMethod yX6_takeSizeOf ∈ lw_tbl := List.mem_of_getElem? (i := 337) (by decide +kernel)
theorem k_338 : Cond.selects RX6 yX6_takeSizeOf yX6_takeSizeOf ∈ lw_tbl := List.mem_of_getElem? (i := 338) (by decide +kernel)
theorem k_339 : Cond.code yX6_takeSizeOf cX6_takeSizeOf 2 none ∈ lw_tbl := List.mem_of_getElem? (i := 339) (by decide +kernel)
theorem k_340 : Cond.methodLink RX6 35 yX6_at ∈ lw_tbl := List.mem_of_getElem? (i := 340) (by decide +kernel)
theorem k_341 : Cond.instanceMethod yX6_at ∈ lw_tbl := List.mem_of_getElem? (i := 341) (by decide +kernel)
theorem k_342 : Cond.selects RX6 yX6_at yX6_at ∈ lw_tbl := List.mem_of_getElem? (i := 342) (by decide +kernel)
theorem k_343 : Cond.code yX6_at cX6_at 4 (some FieldType.int) ∈ lw_tbl := List.mem_of_getElem? (i := 343) (by decide +kernel)
theorem k_344 : Cond.methodLink RX0 41 yX0_copyLayersFrom ∈ lw_tbl := List.mem_of_getElem? (i := 344) (by decide +kernel)
theorem k_345 : Cond.instanceMethod yX0_copyLayersFrom ∈ lw_tbl := List.mem_of_getElem? (i := 345) (by decide +kernel)
theorem k_346 : Cond.selects RX0 yX0_copyLayersFrom yX0_copyLayersFrom ∈ lw_tbl := List.mem_of_getElem? (i := 346) (by decide +kernel)
theorem k_347 : Cond.code yX0_copyLayersFrom cX0_copyLayersFrom 5 none ∈ lw_tbl := List.mem_of_getElem? (i := 347) (by decide +kernel)
theorem k_348 : Cond.methodLink RX0 45 yX0_removeLayers ∈ lw_tbl := List.mem_of_getElem? (i := 348) (by decide +kernel)
theorem k_349 : Cond.instanceMethod yX0_removeLayers ∈ lw_tbl := List.mem_of_getElem? (i := 349) (by decide +kernel)
theorem k_350 : Cond.selects RX0 yX0_removeLayers yX0_removeLayers ∈ lw_tbl := List.mem_of_getElem? (i := 350) (by decide +kernel)
theorem k_351 : Cond.code yX0_removeLayers cX0_removeLayers 1 none ∈ lw_tbl := List.mem_of_getElem? (i := 351) (by decide +kernel)
theorem k_352 : Cond.methodLink RX0 29 yX0_layerAt ∈ lw_tbl := List.mem_of_getElem? (i := 352) (by decide +kernel)
theorem k_353 : Cond.instanceMethod yX0_layerAt ∈ lw_tbl := List.mem_of_getElem? (i := 353) (by decide +kernel)
theorem k_354 : Cond.selects RX0 yX0_layerAt yX0_layerAt ∈ lw_tbl := List.mem_of_getElem? (i := 354) (by decide +kernel)
theorem k_355 : Cond.code yX0_layerAt cX0_layerAt 2 (some (FieldType.object "AdjustmentStack$Layer")) ∈ lw_tbl := List.mem_of_getElem? (i := 355) (by decide +kernel)
theorem k_356 : Cond.methodLink RX0 48 yX0_nextLayer ∈ lw_tbl := List.mem_of_getElem? (i := 356) (by decide +kernel)
theorem k_358 : Cond.instanceMethod yX0_nextLayer ∈ lw_tbl := List.mem_of_getElem? (i := 358) (by decide +kernel)
theorem k_359 : Cond.code yX0_nextLayer cX0_nextLayer 1 (some (FieldType.object "AdjustmentStack$Layer")) ∈ lw_tbl := List.mem_of_getElem? (i := 359) (by decide +kernel)
theorem k_360 : Cond.methodLink RX0 63 yX0_isFull ∈ lw_tbl := List.mem_of_getElem? (i := 360) (by decide +kernel)
theorem k_361 : Cond.instanceMethod yX0_isFull ∈ lw_tbl := List.mem_of_getElem? (i := 361) (by decide +kernel)
theorem k_362 : Cond.selects RX0 yX0_isFull yX0_isFull ∈ lw_tbl := List.mem_of_getElem? (i := 362) (by decide +kernel)
theorem k_363 : Cond.code yX0_isFull cX0_isFull 1 (some FieldType.boolean) ∈ lw_tbl := List.mem_of_getElem? (i := 363) (by decide +kernel)
theorem k_364 : Cond.methodLink RX0 52 yX3_copyFrom ∈ lw_tbl := List.mem_of_getElem? (i := 364) (by decide +kernel)
theorem k_365 : Cond.instanceMethod yX3_copyFrom ∈ lw_tbl := List.mem_of_getElem? (i := 365) (by decide +kernel)
theorem k_366 : Cond.selects RX3 yX3_copyFrom yX3_copyFrom ∈ lw_tbl := List.mem_of_getElem? (i := 366) (by decide +kernel)
theorem k_367 : Cond.code yX3_copyFrom cX3_copyFrom 2 none ∈ lw_tbl := List.mem_of_getElem? (i := 367) (by decide +kernel)
theorem k_368 : Cond.methodLink RX3 43 yX4_copyFrom ∈ lw_tbl := List.mem_of_getElem? (i := 368) (by decide +kernel)
theorem k_369 : Cond.instanceMethod yX4_copyFrom ∈ lw_tbl := List.mem_of_getElem? (i := 369) (by decide +kernel)
theorem k_370 : Cond.selects RX4 yX4_copyFrom yX4_copyFrom ∈ lw_tbl := List.mem_of_getElem? (i := 370) (by decide +kernel)
theorem k_371 : Cond.code yX4_copyFrom cX4_copyFrom 3 none ∈ lw_tbl := List.mem_of_getElem? (i := 371) (by decide +kernel)
theorem k_372 : Cond.methodLink RX4 35 yX4_define ∈ lw_tbl := List.mem_of_getElem? (i := 372) (by decide +kernel)
theorem k_373 : Cond.instanceMethod yX4_define ∈ lw_tbl := List.mem_of_getElem? (i := 373) (by decide +kernel)
theorem k_374 : Cond.selects RX4 yX4_define yX4_define ∈ lw_tbl := List.mem_of_getElem? (i := 374) (by decide +kernel)
theorem k_375 : Cond.code yX4_define cX4_define 6 none ∈ lw_tbl := List.mem_of_getElem? (i := 375) (by decide +kernel)
theorem k_376 : Cond.methodLink RX10 76 yX9_removeAll ∈ lw_tbl := List.mem_of_getElem? (i := 376) (by decide +kernel)
theorem k_377 : Cond.instanceMethod yX9_removeAll ∈ lw_tbl := List.mem_of_getElem? (i := 377) (by decide +kernel)
theorem k_378 : Cond.selects RX9 yX9_removeAll yX9_removeAll ∈ lw_tbl := List.mem_of_getElem? (i := 378) (by decide +kernel)
theorem k_379 : Cond.code yX9_removeAll cX9_removeAll 1 (some FieldType.int) ∈ lw_tbl := List.mem_of_getElem? (i := 379) (by decide +kernel)
theorem k_380 : Cond.methodLink RX9 69 yX9_removeFrom ∈ lw_tbl := List.mem_of_getElem? (i := 380) (by decide +kernel)
theorem k_381 : Cond.instanceMethod yX9_removeFrom ∈ lw_tbl := List.mem_of_getElem? (i := 381) (by decide +kernel)
theorem k_382 : Cond.selects RX9 yX9_removeFrom yX9_removeFrom ∈ lw_tbl := List.mem_of_getElem? (i := 382) (by decide +kernel)
theorem k_383 : Cond.code yX9_removeFrom cX9_removeFrom 2 (some FieldType.int) ∈ lw_tbl := List.mem_of_getElem? (i := 383) (by decide +kernel)
theorem k_384 : Cond.methodLink RX9 72 yX9_removeSlots ∈ lw_tbl := List.mem_of_getElem? (i := 384) (by decide +kernel)
theorem k_386 : Cond.instanceMethod yX9_removeSlots ∈ lw_tbl := List.mem_of_getElem? (i := 386) (by decide +kernel)
theorem k_387 : Cond.code yX9_removeSlots cX9_removeSlots 5 (some FieldType.int) ∈ lw_tbl := List.mem_of_getElem? (i := 387) (by decide +kernel)
theorem k_388 : Cond.methodLink RX9 53 yJ9_max_7cf53 ∈ lw_tbl := List.mem_of_getElem? (i := 388) (by decide +kernel)
theorem k_389 : Cond.static yJ9_max_7cf53 ∈ lw_tbl := List.mem_of_getElem? (i := 389) (by decide +kernel)
theorem k_390 : Cond.code yJ9_max_7cf53 cJ9_max_7cf53 2 (some FieldType.int) ∈ lw_tbl := List.mem_of_getElem? (i := 390) (by decide +kernel)
theorem k_391 : Cond.methodLink RX9 62 yX9_remove ∈ lw_tbl := List.mem_of_getElem? (i := 391) (by decide +kernel)
theorem k_393 : Cond.instanceMethod yX9_remove ∈ lw_tbl := List.mem_of_getElem? (i := 393) (by decide +kernel)
theorem k_394 : Cond.code yX9_remove cX9_remove 2 (some FieldType.int) ∈ lw_tbl := List.mem_of_getElem? (i := 394) (by decide +kernel)
theorem k_395 : Cond.methodLink RL 44 yX10_setPixel ∈ lw_tbl := List.mem_of_getElem? (i := 395) (by decide +kernel)
theorem k_396 : Cond.instanceMethod yX10_setPixel ∈ lw_tbl := List.mem_of_getElem? (i := 396) (by decide +kernel)
theorem k_397 : Cond.selects RX10 yX10_setPixel yX10_setPixel ∈ lw_tbl := List.mem_of_getElem? (i := 397) (by decide +kernel)
theorem k_398 : Cond.code yX10_setPixel cX10_setPixel 4 (some FieldType.int) ∈ lw_tbl := List.mem_of_getElem? (i := 398) (by decide +kernel)
theorem k_399 : Cond.methodLink RX10 80 yX6_contains ∈ lw_tbl := List.mem_of_getElem? (i := 399) (by decide +kernel)
theorem k_400 : Cond.instanceMethod yX6_contains ∈ lw_tbl := List.mem_of_getElem? (i := 400) (by decide +kernel)
theorem k_401 : Cond.selects RX6 yX6_contains yX6_contains ∈ lw_tbl := List.mem_of_getElem? (i := 401) (by decide +kernel)
theorem k_402 : Cond.code yX6_contains cX6_contains 3 (some FieldType.boolean) ∈ lw_tbl := List.mem_of_getElem? (i := 402) (by decide +kernel)
theorem k_403 : Cond.methodLink RX10 84 yX10_paint ∈ lw_tbl := List.mem_of_getElem? (i := 403) (by decide +kernel)
theorem k_405 : Cond.instanceMethod yX10_paint ∈ lw_tbl := List.mem_of_getElem? (i := 405) (by decide +kernel)
theorem k_406 : Cond.code yX10_paint cX10_paint 8 (some FieldType.int) ∈ lw_tbl := List.mem_of_getElem? (i := 406) (by decide +kernel)
theorem k_407 : Cond.methodLink RX10 110 yX6_put ∈ lw_tbl := List.mem_of_getElem? (i := 407) (by decide +kernel)
theorem k_408 : Cond.methodLink RX10 114 yX10_removeTilesThatSee ∈ lw_tbl := List.mem_of_getElem? (i := 408) (by decide +kernel)
theorem k_410 : Cond.instanceMethod yX10_removeTilesThatSee ∈ lw_tbl := List.mem_of_getElem? (i := 410) (by decide +kernel)
theorem k_411 : Cond.code yX10_removeTilesThatSee cX10_removeTilesThatSee 9 (some FieldType.int) ∈ lw_tbl := List.mem_of_getElem? (i := 411) (by decide +kernel)
theorem k_412 : Cond.methodLink RX10 95 yX0_layerCount ∈ lw_tbl := List.mem_of_getElem? (i := 412) (by decide +kernel)
theorem k_413 : Cond.instanceMethod yX0_layerCount ∈ lw_tbl := List.mem_of_getElem? (i := 413) (by decide +kernel)
theorem k_414 : Cond.selects RX0 yX0_layerCount yX0_layerCount ∈ lw_tbl := List.mem_of_getElem? (i := 414) (by decide +kernel)
theorem k_415 : Cond.code yX0_layerCount cX0_layerCount 1 (some FieldType.int) ∈ lw_tbl := List.mem_of_getElem? (i := 415) (by decide +kernel)
theorem k_416 : Cond.methodLink RX10 118 yX0_layerAt ∈ lw_tbl := List.mem_of_getElem? (i := 416) (by decide +kernel)
theorem k_417 : Cond.methodLink RX10 128 yX3_reach ∈ lw_tbl := List.mem_of_getElem? (i := 417) (by decide +kernel)
theorem k_418 : Cond.instanceMethod yX3_reach ∈ lw_tbl := List.mem_of_getElem? (i := 418) (by decide +kernel)
theorem k_419 : Cond.selects RX3 yX3_reach yX3_reach ∈ lw_tbl := List.mem_of_getElem? (i := 419) (by decide +kernel)
theorem k_420 : Cond.code yX3_reach cX3_reach 1 (some FieldType.int) ∈ lw_tbl := List.mem_of_getElem? (i := 420) (by decide +kernel)
theorem k_421 : Cond.methodLink RX3 51 yX3_seesNeighbourhood ∈ lw_tbl := List.mem_of_getElem? (i := 421) (by decide +kernel)
theorem k_422 : Cond.instanceMethod yX3_seesNeighbourhood ∈ lw_tbl := List.mem_of_getElem? (i := 422) (by decide +kernel)
theorem k_423 : Cond.selects RX3 yX3_seesNeighbourhood yX3_seesNeighbourhood ∈ lw_tbl := List.mem_of_getElem? (i := 423) (by decide +kernel)
theorem k_424 : Cond.code yX3_seesNeighbourhood cX3_seesNeighbourhood 1 (some FieldType.boolean) ∈ lw_tbl := List.mem_of_getElem? (i := 424) (by decide +kernel)
theorem k_425 : Cond.methodLinkNest RX3 47 yX10_within RX10 ∈ lw_tbl := List.mem_of_getElem? (i := 425) (by decide +kernel)
theorem k_426 : Cond.methodLink RX3 55 yJ9_abs_0f7a4 ∈ lw_tbl := List.mem_of_getElem? (i := 426) (by decide +kernel)
theorem k_427 : Cond.static yJ9_abs_0f7a4 ∈ lw_tbl := List.mem_of_getElem? (i := 427) (by decide +kernel)
theorem k_428 : Cond.code yJ9_abs_0f7a4 cJ9_abs_0f7a4 1 (some FieldType.int) ∈ lw_tbl := List.mem_of_getElem? (i := 428) (by decide +kernel)
theorem k_429 : Cond.methodLink RX3 61 yJ9_max_7cf53 ∈ lw_tbl := List.mem_of_getElem? (i := 429) (by decide +kernel)
theorem k_430 : Cond.methodLink RX10 131 yJ9_max_7cf53 ∈ lw_tbl := List.mem_of_getElem? (i := 430) (by decide +kernel)
theorem k_431 : Cond.methodLink RX10 137 yJ9_min_7cf53 ∈ lw_tbl := List.mem_of_getElem? (i := 431) (by decide +kernel)
theorem k_432 : Cond.static yJ9_min_7cf53 ∈ lw_tbl := List.mem_of_getElem? (i := 432) (by decide +kernel)
theorem k_433 : Cond.code yJ9_min_7cf53 cJ9_min_7cf53 2 (some FieldType.int) ∈ lw_tbl := List.mem_of_getElem? (i := 433) (by decide +kernel)
theorem k_434 : Cond.methodLink RX10 140 yX9_removeTouched ∈ lw_tbl := List.mem_of_getElem? (i := 434) (by decide +kernel)
theorem k_435 : Cond.instanceMethod yX9_removeTouched ∈ lw_tbl := List.mem_of_getElem? (i := 435) (by decide +kernel)
theorem k_436 : Cond.selects RX9 yX9_removeTouched yX9_removeTouched ∈ lw_tbl := List.mem_of_getElem? (i := 436) (by decide +kernel)
theorem k_437 : Cond.code yX9_removeTouched cX9_removeTouched 9 (some FieldType.int) ∈ lw_tbl := List.mem_of_getElem? (i := 437) (by decide +kernel)
theorem k_438 : Cond.methodLink RX9 75 yX9_tileOf ∈ lw_tbl := List.mem_of_getElem? (i := 438) (by decide +kernel)
theorem k_439 : Cond.instanceMethod yX9_tileOf ∈ lw_tbl := List.mem_of_getElem? (i := 439) (by decide +kernel)
theorem k_440 : Cond.selects RX9 yX9_tileOf yX9_tileOf ∈ lw_tbl := List.mem_of_getElem? (i := 440) (by decide +kernel)
theorem k_441 : Cond.code yX9_tileOf cX9_tileOf 2 (some FieldType.int) ∈ lw_tbl := List.mem_of_getElem? (i := 441) (by decide +kernel)
theorem k_442 : Cond.methodLinkNest RX9 29 yX10_divided RX10 ∈ lw_tbl := List.mem_of_getElem? (i := 442) (by decide +kernel)
theorem k_443 : Cond.static yX10_divided ∈ lw_tbl := List.mem_of_getElem? (i := 443) (by decide +kernel)
theorem k_444 : Cond.code yX10_divided cX10_divided 2 (some FieldType.int) ∈ lw_tbl := List.mem_of_getElem? (i := 444) (by decide +kernel)
theorem k_445 : Cond.methodLink RX10 338 yJ9_floorDiv_7cf53 ∈ lw_tbl := List.mem_of_getElem? (i := 445) (by decide +kernel)
theorem k_446 : Cond.static yJ9_floorDiv_7cf53 ∈ lw_tbl := List.mem_of_getElem? (i := 446) (by decide +kernel)
theorem k_447 : Cond.code yJ9_floorDiv_7cf53 cJ9_floorDiv_7cf53 3 (some FieldType.int) ∈ lw_tbl := List.mem_of_getElem? (i := 447) (by decide +kernel)
theorem k_448 : Cond.methodLink RX9 33 yX9_slotOf ∈ lw_tbl := List.mem_of_getElem? (i := 448) (by decide +kernel)
theorem k_449 : Cond.static yX9_slotOf ∈ lw_tbl := List.mem_of_getElem? (i := 449) (by decide +kernel)
theorem k_450 : Cond.code yX9_slotOf cX9_slotOf 3 (some FieldType.int) ∈ lw_tbl := List.mem_of_getElem? (i := 450) (by decide +kernel)
theorem k_451 : Cond.methodLink RL 8 yX10_size ∈ lw_tbl := List.mem_of_getElem? (i := 451) (by decide +kernel)
theorem k_452 : Cond.instanceMethod yX10_size ∈ lw_tbl := List.mem_of_getElem? (i := 452) (by decide +kernel)
theorem k_453 : Cond.selects RX10 yX10_size yX10_size ∈ lw_tbl := List.mem_of_getElem? (i := 453) (by decide +kernel)
theorem k_454 : Cond.code yX10_size cX10_size 2 (some FieldType.int) ∈ lw_tbl := List.mem_of_getElem? (i := 454) (by decide +kernel)
theorem k_455 : Cond.methodLink RX10 101 yX10_tileColumns ∈ lw_tbl := List.mem_of_getElem? (i := 455) (by decide +kernel)
theorem k_457 : Cond.instanceMethod yX10_tileColumns ∈ lw_tbl := List.mem_of_getElem? (i := 457) (by decide +kernel)
theorem k_458 : Cond.code yX10_tileColumns cX10_tileColumns 1 (some FieldType.int) ∈ lw_tbl := List.mem_of_getElem? (i := 458) (by decide +kernel)
theorem k_459 : Cond.methodLink RX10 253 yX9_tileOf ∈ lw_tbl := List.mem_of_getElem? (i := 459) (by decide +kernel)
theorem k_460 : Cond.methodLink RX10 104 yX10_tileRows ∈ lw_tbl := List.mem_of_getElem? (i := 460) (by decide +kernel)
theorem k_462 : Cond.instanceMethod yX10_tileRows ∈ lw_tbl := List.mem_of_getElem? (i := 462) (by decide +kernel)
theorem k_463 : Cond.code yX10_tileRows cX10_tileRows 1 (some FieldType.int) ∈ lw_tbl := List.mem_of_getElem? (i := 463) (by decide +kernel)
theorem k_464 : Cond.methodLink RL 80 yX10_addLayer ∈ lw_tbl := List.mem_of_getElem? (i := 464) (by decide +kernel)
theorem k_465 : Cond.instanceMethod yX10_addLayer ∈ lw_tbl := List.mem_of_getElem? (i := 465) (by decide +kernel)
theorem k_466 : Cond.selects RX10 yX10_addLayer yX10_addLayer ∈ lw_tbl := List.mem_of_getElem? (i := 466) (by decide +kernel)
theorem k_467 : Cond.code yX10_addLayer cX10_addLayer 4 (some FieldType.int) ∈ lw_tbl := List.mem_of_getElem? (i := 467) (by decide +kernel)
theorem k_468 : Cond.methodLink RX10 143 yX2_allow ∈ lw_tbl := List.mem_of_getElem? (i := 468) (by decide +kernel)
theorem k_469 : Cond.static yX2_allow ∈ lw_tbl := List.mem_of_getElem? (i := 469) (by decide +kernel)
theorem k_470 : Cond.code yX2_allow cX2_allow 3 (some FieldType.boolean) ∈ lw_tbl := List.mem_of_getElem? (i := 470) (by decide +kernel)
theorem k_471 : Cond.methodLinkNest RX2 11 yX10_within RX10 ∈ lw_tbl := List.mem_of_getElem? (i := 471) (by decide +kernel)
theorem k_472 : Cond.methodLink RX2 15 yX2_lowestA ∈ lw_tbl := List.mem_of_getElem? (i := 472) (by decide +kernel)
theorem k_473 : Cond.static yX2_lowestA ∈ lw_tbl := List.mem_of_getElem? (i := 473) (by decide +kernel)
theorem k_474 : Cond.code yX2_lowestA cX2_lowestA 1 (some FieldType.int) ∈ lw_tbl := List.mem_of_getElem? (i := 474) (by decide +kernel)
theorem k_475 : Cond.fieldLink RX2 37 RX2 (zStN 1) "[I" ∈ lw_tbl := List.mem_of_getElem? (i := 475) (by decide +kernel)
theorem k_477 : Cond.methodLink RX2 33 yX2_entry ∈ lw_tbl := List.mem_of_getElem? (i := 477) (by decide +kernel)
theorem k_478 : Cond.static yX2_entry ∈ lw_tbl := List.mem_of_getElem? (i := 478) (by decide +kernel)
theorem k_479 : Cond.code yX2_entry cX2_entry 2 (some FieldType.int) ∈ lw_tbl := List.mem_of_getElem? (i := 479) (by decide +kernel)
theorem k_480 : Cond.methodLink RX2 19 yX2_highestA ∈ lw_tbl := List.mem_of_getElem? (i := 480) (by decide +kernel)
theorem k_481 : Cond.static yX2_highestA ∈ lw_tbl := List.mem_of_getElem? (i := 481) (by decide +kernel)
theorem k_482 : Cond.code yX2_highestA cX2_highestA 1 (some FieldType.int) ∈ lw_tbl := List.mem_of_getElem? (i := 482) (by decide +kernel)
theorem k_483 : Cond.fieldLink RX2 40 RX2 (zStN 2) "[I" ∈ lw_tbl := List.mem_of_getElem? (i := 483) (by decide +kernel)
theorem k_485 : Cond.methodLink RX2 22 yX2_lowestB ∈ lw_tbl := List.mem_of_getElem? (i := 485) (by decide +kernel)
theorem k_486 : Cond.static yX2_lowestB ∈ lw_tbl := List.mem_of_getElem? (i := 486) (by decide +kernel)
theorem k_487 : Cond.code yX2_lowestB cX2_lowestB 2 (some FieldType.int) ∈ lw_tbl := List.mem_of_getElem? (i := 487) (by decide +kernel)
theorem k_488 : Cond.fieldLink RX2 43 RX2 (zStN 3) "[I" ∈ lw_tbl := List.mem_of_getElem? (i := 488) (by decide +kernel)
theorem k_490 : Cond.methodLink RX2 26 yX2_highestB ∈ lw_tbl := List.mem_of_getElem? (i := 490) (by decide +kernel)
theorem k_491 : Cond.static yX2_highestB ∈ lw_tbl := List.mem_of_getElem? (i := 491) (by decide +kernel)
theorem k_492 : Cond.code yX2_highestB cX2_highestB 1 (some FieldType.int) ∈ lw_tbl := List.mem_of_getElem? (i := 492) (by decide +kernel)
theorem k_493 : Cond.fieldLink RX2 46 RX2 (zStN 4) "[I" ∈ lw_tbl := List.mem_of_getElem? (i := 493) (by decide +kernel)
theorem k_495 : Cond.methodLink RX10 148 yX0_isFull ∈ lw_tbl := List.mem_of_getElem? (i := 495) (by decide +kernel)
theorem k_496 : Cond.methodLink RX10 152 yX0_addFresh ∈ lw_tbl := List.mem_of_getElem? (i := 496) (by decide +kernel)
theorem k_497 : Cond.instanceMethod yX0_addFresh ∈ lw_tbl := List.mem_of_getElem? (i := 497) (by decide +kernel)
theorem k_498 : Cond.selects RX0 yX0_addFresh yX0_addFresh ∈ lw_tbl := List.mem_of_getElem? (i := 498) (by decide +kernel)
theorem k_499 : Cond.code yX0_addFresh cX0_addFresh 5 (some (FieldType.object "AdjustmentStack$Layer")) ∈ lw_tbl := List.mem_of_getElem? (i := 499) (by decide +kernel)
theorem k_500 : Cond.methodLink RX0 55 yX3_startAs ∈ lw_tbl := List.mem_of_getElem? (i := 500) (by decide +kernel)
theorem k_501 : Cond.instanceMethod yX3_startAs ∈ lw_tbl := List.mem_of_getElem? (i := 501) (by decide +kernel)
theorem k_502 : Cond.selects RX3 yX3_startAs yX3_startAs ∈ lw_tbl := List.mem_of_getElem? (i := 502) (by decide +kernel)
theorem k_503 : Cond.code yX3_startAs cX3_startAs 4 none ∈ lw_tbl := List.mem_of_getElem? (i := 503) (by decide +kernel)
theorem k_504 : Cond.methodLink RX3 40 yX4_startAnew ∈ lw_tbl := List.mem_of_getElem? (i := 504) (by decide +kernel)
theorem k_505 : Cond.instanceMethod yX4_startAnew ∈ lw_tbl := List.mem_of_getElem? (i := 505) (by decide +kernel)
theorem k_506 : Cond.selects RX4 yX4_startAnew yX4_startAnew ∈ lw_tbl := List.mem_of_getElem? (i := 506) (by decide +kernel)
theorem k_507 : Cond.code yX4_startAnew cX4_startAnew 1 none ∈ lw_tbl := List.mem_of_getElem? (i := 507) (by decide +kernel)
theorem k_508 : Cond.methodLink RL 74 yX10_duplicateLayer ∈ lw_tbl := List.mem_of_getElem? (i := 508) (by decide +kernel)
theorem k_509 : Cond.instanceMethod yX10_duplicateLayer ∈ lw_tbl := List.mem_of_getElem? (i := 509) (by decide +kernel)
theorem k_510 : Cond.selects RX10 yX10_duplicateLayer yX10_duplicateLayer ∈ lw_tbl := List.mem_of_getElem? (i := 510) (by decide +kernel)
theorem k_511 : Cond.code yX10_duplicateLayer cX10_duplicateLayer 2 (some FieldType.int) ∈ lw_tbl := List.mem_of_getElem? (i := 511) (by decide +kernel)
theorem k_512 : Cond.methodLink RX10 162 yX10_startChangeOf ∈ lw_tbl := List.mem_of_getElem? (i := 512) (by decide +kernel)
theorem k_514 : Cond.instanceMethod yX10_startChangeOf ∈ lw_tbl := List.mem_of_getElem? (i := 514) (by decide +kernel)
theorem k_515 : Cond.code yX10_startChangeOf cX10_startChangeOf 2 none ∈ lw_tbl := List.mem_of_getElem? (i := 515) (by decide +kernel)
theorem k_516 : Cond.methodLink RX10 208 yX9_removeFrom ∈ lw_tbl := List.mem_of_getElem? (i := 516) (by decide +kernel)
theorem k_517 : Cond.methodLink RX10 181 yX0_addCopyAbove ∈ lw_tbl := List.mem_of_getElem? (i := 517) (by decide +kernel)
theorem k_518 : Cond.instanceMethod yX0_addCopyAbove ∈ lw_tbl := List.mem_of_getElem? (i := 518) (by decide +kernel)
theorem k_519 : Cond.selects RX0 yX0_addCopyAbove yX0_addCopyAbove ∈ lw_tbl := List.mem_of_getElem? (i := 519) (by decide +kernel)
theorem k_520 : Cond.code yX0_addCopyAbove cX0_addCopyAbove 4 none ∈ lw_tbl := List.mem_of_getElem? (i := 520) (by decide +kernel)
theorem k_521 : Cond.methodLink RX0 59 yX0_shift ∈ lw_tbl := List.mem_of_getElem? (i := 521) (by decide +kernel)
theorem k_522 : Cond.instanceMethod yX0_shift ∈ lw_tbl := List.mem_of_getElem? (i := 522) (by decide +kernel)
theorem k_523 : Cond.selects RX0 yX0_shift yX0_shift ∈ lw_tbl := List.mem_of_getElem? (i := 523) (by decide +kernel)
theorem k_524 : Cond.code yX0_shift cX0_shift 5 none ∈ lw_tbl := List.mem_of_getElem? (i := 524) (by decide +kernel)
theorem k_525 : Cond.methodLink RL 23 yX10_layer ∈ lw_tbl := List.mem_of_getElem? (i := 525) (by decide +kernel)
theorem k_526 : Cond.instanceMethod yX10_layer ∈ lw_tbl := List.mem_of_getElem? (i := 526) (by decide +kernel)
theorem k_527 : Cond.selects RX10 yX10_layer yX10_layer ∈ lw_tbl := List.mem_of_getElem? (i := 527) (by decide +kernel)
theorem k_528 : Cond.code yX10_layer cX10_layer 4 (some FieldType.int) ∈ lw_tbl := List.mem_of_getElem? (i := 528) (by decide +kernel)
theorem k_529 : Cond.methodLink RL 64 yX10_dab ∈ lw_tbl := List.mem_of_getElem? (i := 529) (by decide +kernel)
theorem k_530 : Cond.instanceMethod yX10_dab ∈ lw_tbl := List.mem_of_getElem? (i := 530) (by decide +kernel)
theorem k_531 : Cond.selects RX10 yX10_dab yX10_dab ∈ lw_tbl := List.mem_of_getElem? (i := 531) (by decide +kernel)
theorem k_532 : Cond.code yX10_dab cX10_dab 6 (some FieldType.int) ∈ lw_tbl := List.mem_of_getElem? (i := 532) (by decide +kernel)
theorem k_533 : Cond.methodLink RX10 216 yX4_define ∈ lw_tbl := List.mem_of_getElem? (i := 533) (by decide +kernel)
theorem k_534 : Cond.methodLink RX10 226 yX4_addDab ∈ lw_tbl := List.mem_of_getElem? (i := 534) (by decide +kernel)
theorem k_535 : Cond.instanceMethod yX4_addDab ∈ lw_tbl := List.mem_of_getElem? (i := 535) (by decide +kernel)
theorem k_536 : Cond.selects RX4 yX4_addDab yX4_addDab ∈ lw_tbl := List.mem_of_getElem? (i := 536) (by decide +kernel)
theorem k_537 : Cond.code yX4_addDab cX4_addDab 5 none ∈ lw_tbl := List.mem_of_getElem? (i := 537) (by decide +kernel)
theorem k_538 : Cond.methodLink RL 131 yX10_prefetch ∈ lw_tbl := List.mem_of_getElem? (i := 538) (by decide +kernel)
theorem k_539 : Cond.instanceMethod yX10_prefetch ∈ lw_tbl := List.mem_of_getElem? (i := 539) (by decide +kernel)
theorem k_540 : Cond.selects RX10 yX10_prefetch yX10_prefetch ∈ lw_tbl := List.mem_of_getElem? (i := 540) (by decide +kernel)
theorem k_541 : Cond.code yX10_prefetch cX10_prefetch 5 (some FieldType.int) ∈ lw_tbl := List.mem_of_getElem? (i := 541) (by decide +kernel)
theorem k_542 : Cond.methodLink RX10 256 yX10_requestTile ∈ lw_tbl := List.mem_of_getElem? (i := 542) (by decide +kernel)
theorem k_544 : Cond.instanceMethod yX10_requestTile ∈ lw_tbl := List.mem_of_getElem? (i := 544) (by decide +kernel)
theorem k_545 : Cond.code yX10_requestTile cX10_requestTile 9 none ∈ lw_tbl := List.mem_of_getElem? (i := 545) (by decide +kernel)
theorem k_546 : Cond.methodLink RX10 259 yX0_enabledAtMost ∈ lw_tbl := List.mem_of_getElem? (i := 546) (by decide +kernel)
theorem k_547 : Cond.instanceMethod yX0_enabledAtMost ∈ lw_tbl := List.mem_of_getElem? (i := 547) (by decide +kernel)
theorem k_548 : Cond.selects RX0 yX0_enabledAtMost yX0_enabledAtMost ∈ lw_tbl := List.mem_of_getElem? (i := 548) (by decide +kernel)
theorem k_549 : Cond.code yX0_enabledAtMost cX0_enabledAtMost 4 (some FieldType.int) ∈ lw_tbl := List.mem_of_getElem? (i := 549) (by decide +kernel)
theorem k_550 : Cond.methodLink RX10 272 yX9_holds ∈ lw_tbl := List.mem_of_getElem? (i := 550) (by decide +kernel)
theorem k_551 : Cond.instanceMethod yX9_holds ∈ lw_tbl := List.mem_of_getElem? (i := 551) (by decide +kernel)
theorem k_552 : Cond.selects RX9 yX9_holds yX9_holds ∈ lw_tbl := List.mem_of_getElem? (i := 552) (by decide +kernel)
theorem k_553 : Cond.code yX9_holds cX9_holds 5 (some FieldType.boolean) ∈ lw_tbl := List.mem_of_getElem? (i := 553) (by decide +kernel)
theorem k_554 : Cond.methodLink RX10 296 yX9_noteFound ∈ lw_tbl := List.mem_of_getElem? (i := 554) (by decide +kernel)
theorem k_555 : Cond.instanceMethod yX9_noteFound ∈ lw_tbl := List.mem_of_getElem? (i := 555) (by decide +kernel)
theorem k_556 : Cond.selects RX9 yX9_noteFound yX9_noteFound ∈ lw_tbl := List.mem_of_getElem? (i := 556) (by decide +kernel)
theorem k_557 : Cond.code yX9_noteFound cX9_noteFound 4 none ∈ lw_tbl := List.mem_of_getElem? (i := 557) (by decide +kernel)
theorem k_558 : Cond.methodLink RX9 40 yX9_use ∈ lw_tbl := List.mem_of_getElem? (i := 558) (by decide +kernel)
theorem k_560 : Cond.instanceMethod yX9_use ∈ lw_tbl := List.mem_of_getElem? (i := 560) (by decide +kernel)
theorem k_561 : Cond.code yX9_use cX9_use 2 none ∈ lw_tbl := List.mem_of_getElem? (i := 561) (by decide +kernel)
theorem k_562 : Cond.methodLink RX10 299 yX10_requestInput ∈ lw_tbl := List.mem_of_getElem? (i := 562) (by decide +kernel)
theorem k_564 : Cond.instanceMethod yX10_requestInput ∈ lw_tbl := List.mem_of_getElem? (i := 564) (by decide +kernel)
theorem k_565 : Cond.code yX10_requestInput cX10_requestInput 12 none ∈ lw_tbl := List.mem_of_getElem? (i := 565) (by decide +kernel)
theorem k_566 : Cond.methodLink RX10 303 yX9_outputAt ∈ lw_tbl := List.mem_of_getElem? (i := 566) (by decide +kernel)
theorem k_567 : Cond.instanceMethod yX9_outputAt ∈ lw_tbl := List.mem_of_getElem? (i := 567) (by decide +kernel)
theorem k_568 : Cond.selects RX9 yX9_outputAt yX9_outputAt ∈ lw_tbl := List.mem_of_getElem? (i := 568) (by decide +kernel)
theorem k_569 : Cond.code yX9_outputAt cX9_outputAt 2 (some (FieldType.object "AdjustmentStack$Picture")) ∈ lw_tbl := List.mem_of_getElem? (i := 569) (by decide +kernel)
theorem k_570 : Cond.methodLink RX10 262 yX10_pictureOf ∈ lw_tbl := List.mem_of_getElem? (i := 570) (by decide +kernel)
theorem k_572 : Cond.instanceMethod yX10_pictureOf ∈ lw_tbl := List.mem_of_getElem? (i := 572) (by decide +kernel)
theorem k_573 : Cond.code yX10_pictureOf cX10_pictureOf 3 (some (FieldType.object "AdjustmentStack$Picture")) ∈ lw_tbl := List.mem_of_getElem? (i := 573) (by decide +kernel)
theorem k_574 : Cond.methodLink RX10 306 yX7_render ∈ lw_tbl := List.mem_of_getElem? (i := 574) (by decide +kernel)
theorem k_575 : Cond.instanceMethod yX7_render ∈ lw_tbl := List.mem_of_getElem? (i := 575) (by decide +kernel)
theorem k_576 : Cond.selects RX7 yX7_render yX7_render ∈ lw_tbl := List.mem_of_getElem? (i := 576) (by decide +kernel)
theorem k_577 : Cond.code yX7_render cX7_render 12 none ∈ lw_tbl := List.mem_of_getElem? (i := 577) (by decide +kernel)
theorem k_578 : Cond.methodLink RX7 49 yX6_takeSizeOf ∈ lw_tbl := List.mem_of_getElem? (i := 578) (by decide +kernel)
theorem k_579 : Cond.methodLink RX7 56 yX7_findExtremes ∈ lw_tbl := List.mem_of_getElem? (i := 579) (by decide +kernel)
theorem k_581 : Cond.instanceMethod yX7_findExtremes ∈ lw_tbl := List.mem_of_getElem? (i := 581) (by decide +kernel)
theorem k_582 : Cond.code yX7_findExtremes cX7_findExtremes 5 none ∈ lw_tbl := List.mem_of_getElem? (i := 582) (by decide +kernel)
theorem k_583 : Cond.methodLink RX7 65 yX6_at ∈ lw_tbl := List.mem_of_getElem? (i := 583) (by decide +kernel)
theorem k_584 : Cond.methodLink RX7 140 yJ9_min_7cf53 ∈ lw_tbl := List.mem_of_getElem? (i := 584) (by decide +kernel)
theorem k_585 : Cond.methodLink RX7 145 yJ9_max_7cf53 ∈ lw_tbl := List.mem_of_getElem? (i := 585) (by decide +kernel)
theorem k_586 : Cond.methodLink RX7 72 yX7_adjusted ∈ lw_tbl := List.mem_of_getElem? (i := 586) (by decide +kernel)
theorem k_588 : Cond.instanceMethod yX7_adjusted ∈ lw_tbl := List.mem_of_getElem? (i := 588) (by decide +kernel)
theorem k_589 : Cond.code yX7_adjusted cX7_adjusted 8 (some FieldType.int) ∈ lw_tbl := List.mem_of_getElem? (i := 589) (by decide +kernel)
theorem k_590 : Cond.methodLink RX7 107 yX3_seesNeighbourhood ∈ lw_tbl := List.mem_of_getElem? (i := 590) (by decide +kernel)
theorem k_591 : Cond.methodLink RX7 111 yX7_gatherNeighbours ∈ lw_tbl := List.mem_of_getElem? (i := 591) (by decide +kernel)
theorem k_593 : Cond.instanceMethod yX7_gatherNeighbours ∈ lw_tbl := List.mem_of_getElem? (i := 593) (by decide +kernel)
theorem k_594 : Cond.code yX7_gatherNeighbours cX7_gatherNeighbours 9 none ∈ lw_tbl := List.mem_of_getElem? (i := 594) (by decide +kernel)
theorem k_595 : Cond.methodLinkNest RX7 94 yX10_divided RX10 ∈ lw_tbl := List.mem_of_getElem? (i := 595) (by decide +kernel)
theorem k_596 : Cond.methodLinkNest RX7 115 yX10_clamped RX10 ∈ lw_tbl := List.mem_of_getElem? (i := 596) (by decide +kernel)
theorem k_597 : Cond.static yX10_clamped ∈ lw_tbl := List.mem_of_getElem? (i := 597) (by decide +kernel)
theorem k_598 : Cond.code yX10_clamped cX10_clamped 1 (some FieldType.int) ∈ lw_tbl := List.mem_of_getElem? (i := 598) (by decide +kernel)
theorem k_599 : Cond.methodLink RX7 119 yX7_average ∈ lw_tbl := List.mem_of_getElem? (i := 599) (by decide +kernel)
theorem k_601 : Cond.instanceMethod yX7_average ∈ lw_tbl := List.mem_of_getElem? (i := 601) (by decide +kernel)
theorem k_602 : Cond.code yX7_average cX7_average 3 (some FieldType.int) ∈ lw_tbl := List.mem_of_getElem? (i := 602) (by decide +kernel)
theorem k_603 : Cond.methodLink RX7 122 yX7_median ∈ lw_tbl := List.mem_of_getElem? (i := 603) (by decide +kernel)
theorem k_605 : Cond.instanceMethod yX7_median ∈ lw_tbl := List.mem_of_getElem? (i := 605) (by decide +kernel)
theorem k_606 : Cond.code yX7_median cX7_median 2 (some FieldType.int) ∈ lw_tbl := List.mem_of_getElem? (i := 606) (by decide +kernel)
theorem k_607 : Cond.methodLink RX7 151 yX7_sortNeighbours ∈ lw_tbl := List.mem_of_getElem? (i := 607) (by decide +kernel)
theorem k_609 : Cond.instanceMethod yX7_sortNeighbours ∈ lw_tbl := List.mem_of_getElem? (i := 609) (by decide +kernel)
theorem k_610 : Cond.code yX7_sortNeighbours cX7_sortNeighbours 4 none ∈ lw_tbl := List.mem_of_getElem? (i := 610) (by decide +kernel)
theorem k_611 : Cond.methodLink RX7 125 yX7_greatest ∈ lw_tbl := List.mem_of_getElem? (i := 611) (by decide +kernel)
theorem k_613 : Cond.instanceMethod yX7_greatest ∈ lw_tbl := List.mem_of_getElem? (i := 613) (by decide +kernel)
theorem k_614 : Cond.code yX7_greatest cX7_greatest 3 (some FieldType.int) ∈ lw_tbl := List.mem_of_getElem? (i := 614) (by decide +kernel)
theorem k_615 : Cond.methodLink RX7 128 yX7_smallest ∈ lw_tbl := List.mem_of_getElem? (i := 615) (by decide +kernel)
theorem k_617 : Cond.instanceMethod yX7_smallest ∈ lw_tbl := List.mem_of_getElem? (i := 617) (by decide +kernel)
theorem k_618 : Cond.code yX7_smallest cX7_smallest 3 (some FieldType.int) ∈ lw_tbl := List.mem_of_getElem? (i := 618) (by decide +kernel)
theorem k_619 : Cond.methodLink RX7 131 yX6_atNearest ∈ lw_tbl := List.mem_of_getElem? (i := 619) (by decide +kernel)
theorem k_620 : Cond.instanceMethod yX6_atNearest ∈ lw_tbl := List.mem_of_getElem? (i := 620) (by decide +kernel)
theorem k_621 : Cond.selects RX6 yX6_atNearest yX6_atNearest ∈ lw_tbl := List.mem_of_getElem? (i := 621) (by decide +kernel)
theorem k_622 : Cond.code yX6_atNearest cX6_atNearest 3 (some FieldType.int) ∈ lw_tbl := List.mem_of_getElem? (i := 622) (by decide +kernel)
theorem k_623 : Cond.methodLink RX6 26 yJ9_min_7cf53 ∈ lw_tbl := List.mem_of_getElem? (i := 623) (by decide +kernel)
theorem k_624 : Cond.methodLink RX6 32 yJ9_max_7cf53 ∈ lw_tbl := List.mem_of_getElem? (i := 624) (by decide +kernel)
theorem k_625 : Cond.methodLink RX7 76 yX5_blended ∈ lw_tbl := List.mem_of_getElem? (i := 625) (by decide +kernel)
theorem k_626 : Cond.static yX5_blended ∈ lw_tbl := List.mem_of_getElem? (i := 626) (by decide +kernel)
theorem k_627 : Cond.code yX5_blended cX5_blended 3 (some FieldType.int) ∈ lw_tbl := List.mem_of_getElem? (i := 627) (by decide +kernel)
theorem k_628 : Cond.methodLinkNest RX5 9 yX10_divided RX10 ∈ lw_tbl := List.mem_of_getElem? (i := 628) (by decide +kernel)
theorem k_629 : Cond.methodLink RX5 13 yJ9_max_7cf53 ∈ lw_tbl := List.mem_of_getElem? (i := 629) (by decide +kernel)
theorem k_630 : Cond.methodLink RX5 18 yJ9_min_7cf53 ∈ lw_tbl := List.mem_of_getElem? (i := 630) (by decide +kernel)
theorem k_631 : Cond.methodLink RX5 21 yJ9_abs_0f7a4 ∈ lw_tbl := List.mem_of_getElem? (i := 631) (by decide +kernel)
theorem k_632 : Cond.methodLinkNest RX5 25 yX10_clamped RX10 ∈ lw_tbl := List.mem_of_getElem? (i := 632) (by decide +kernel)
theorem k_633 : Cond.methodLink RX7 86 yX4_weightAt ∈ lw_tbl := List.mem_of_getElem? (i := 633) (by decide +kernel)
theorem k_634 : Cond.instanceMethod yX4_weightAt ∈ lw_tbl := List.mem_of_getElem? (i := 634) (by decide +kernel)
theorem k_635 : Cond.selects RX4 yX4_weightAt yX4_weightAt ∈ lw_tbl := List.mem_of_getElem? (i := 635) (by decide +kernel)
theorem k_636 : Cond.code yX4_weightAt cX4_weightAt 5 (some FieldType.int) ∈ lw_tbl := List.mem_of_getElem? (i := 636) (by decide +kernel)
theorem k_637 : Cond.methodLink RX4 49 yX4_rectangleWeightAt ∈ lw_tbl := List.mem_of_getElem? (i := 637) (by decide +kernel)
theorem k_639 : Cond.instanceMethod yX4_rectangleWeightAt ∈ lw_tbl := List.mem_of_getElem? (i := 639) (by decide +kernel)
theorem k_640 : Cond.code yX4_rectangleWeightAt cX4_rectangleWeightAt 7 (some FieldType.int) ∈ lw_tbl := List.mem_of_getElem? (i := 640) (by decide +kernel)
theorem k_641 : Cond.methodLink RX4 61 yJ9_max_7cf53 ∈ lw_tbl := List.mem_of_getElem? (i := 641) (by decide +kernel)
theorem k_642 : Cond.methodLink RX4 53 yX4_gradientWeightAt ∈ lw_tbl := List.mem_of_getElem? (i := 642) (by decide +kernel)
theorem k_644 : Cond.instanceMethod yX4_gradientWeightAt ∈ lw_tbl := List.mem_of_getElem? (i := 644) (by decide +kernel)
theorem k_645 : Cond.code yX4_gradientWeightAt cX4_gradientWeightAt 3 (some FieldType.int) ∈ lw_tbl := List.mem_of_getElem? (i := 645) (by decide +kernel)
theorem k_646 : Cond.methodLink RX4 57 yX4_isDabbed ∈ lw_tbl := List.mem_of_getElem? (i := 646) (by decide +kernel)
theorem k_648 : Cond.instanceMethod yX4_isDabbed ∈ lw_tbl := List.mem_of_getElem? (i := 648) (by decide +kernel)
theorem k_649 : Cond.code yX4_isDabbed cX4_isDabbed 8 (some FieldType.boolean) ∈ lw_tbl := List.mem_of_getElem? (i := 649) (by decide +kernel)
theorem k_650 : Cond.methodLink RX7 97 yX6_put ∈ lw_tbl := List.mem_of_getElem? (i := 650) (by decide +kernel)
theorem k_651 : Cond.methodLink RX10 310 yX9_noteComputed ∈ lw_tbl := List.mem_of_getElem? (i := 651) (by decide +kernel)
theorem k_652 : Cond.instanceMethod yX9_noteComputed ∈ lw_tbl := List.mem_of_getElem? (i := 652) (by decide +kernel)
theorem k_653 : Cond.selects RX9 yX9_noteComputed yX9_noteComputed ∈ lw_tbl := List.mem_of_getElem? (i := 653) (by decide +kernel)
theorem k_654 : Cond.code yX9_noteComputed cX9_noteComputed 4 none ∈ lw_tbl := List.mem_of_getElem? (i := 654) (by decide +kernel)
theorem k_655 : Cond.methodLink RX10 266 yX9_dropSurplus ∈ lw_tbl := List.mem_of_getElem? (i := 655) (by decide +kernel)
theorem k_656 : Cond.instanceMethod yX9_dropSurplus ∈ lw_tbl := List.mem_of_getElem? (i := 656) (by decide +kernel)
theorem k_657 : Cond.selects RX9 yX9_dropSurplus yX9_dropSurplus ∈ lw_tbl := List.mem_of_getElem? (i := 657) (by decide +kernel)
theorem k_658 : Cond.code yX9_dropSurplus cX9_dropSurplus 3 (some FieldType.int) ∈ lw_tbl := List.mem_of_getElem? (i := 658) (by decide +kernel)
theorem k_659 : Cond.methodLink RX9 58 yX9_oldestSlot ∈ lw_tbl := List.mem_of_getElem? (i := 659) (by decide +kernel)
theorem k_660 : Cond.instanceMethod yX9_oldestSlot ∈ lw_tbl := List.mem_of_getElem? (i := 660) (by decide +kernel)
theorem k_661 : Cond.selects RX9 yX9_oldestSlot yX9_oldestSlot ∈ lw_tbl := List.mem_of_getElem? (i := 661) (by decide +kernel)
theorem k_662 : Cond.code yX9_oldestSlot cX9_oldestSlot 4 (some FieldType.int) ∈ lw_tbl := List.mem_of_getElem? (i := 662) (by decide +kernel)
theorem k_663 : Cond.methodLink RL 97 yX10_setCacheLimit ∈ lw_tbl := List.mem_of_getElem? (i := 663) (by decide +kernel)
theorem k_664 : Cond.instanceMethod yX10_setCacheLimit ∈ lw_tbl := List.mem_of_getElem? (i := 664) (by decide +kernel)
theorem k_665 : Cond.selects RX10 yX10_setCacheLimit yX10_setCacheLimit ∈ lw_tbl := List.mem_of_getElem? (i := 665) (by decide +kernel)
theorem k_666 : Cond.code yX10_setCacheLimit cX10_setCacheLimit 2 (some FieldType.int) ∈ lw_tbl := List.mem_of_getElem? (i := 666) (by decide +kernel)
theorem k_667 : Cond.methodLink RL 94 yX10_setTileSize ∈ lw_tbl := List.mem_of_getElem? (i := 667) (by decide +kernel)
theorem k_668 : Cond.instanceMethod yX10_setTileSize ∈ lw_tbl := List.mem_of_getElem? (i := 668) (by decide +kernel)
theorem k_669 : Cond.selects RX10 yX10_setTileSize yX10_setTileSize ∈ lw_tbl := List.mem_of_getElem? (i := 669) (by decide +kernel)
theorem k_670 : Cond.code yX10_setTileSize cX10_setTileSize 2 (some FieldType.int) ∈ lw_tbl := List.mem_of_getElem? (i := 670) (by decide +kernel)
theorem k_671 : Cond.methodLink RL 128 yX10_clearCache ∈ lw_tbl := List.mem_of_getElem? (i := 671) (by decide +kernel)
theorem k_672 : Cond.instanceMethod yX10_clearCache ∈ lw_tbl := List.mem_of_getElem? (i := 672) (by decide +kernel)
theorem k_673 : Cond.selects RX10 yX10_clearCache yX10_clearCache ∈ lw_tbl := List.mem_of_getElem? (i := 673) (by decide +kernel)
theorem k_674 : Cond.code yX10_clearCache cX10_clearCache 1 (some FieldType.int) ∈ lw_tbl := List.mem_of_getElem? (i := 674) (by decide +kernel)
theorem k_675 : Cond.methodLink RL 122 yX10_effect ∈ lw_tbl := List.mem_of_getElem? (i := 675) (by decide +kernel)
theorem k_676 : Cond.instanceMethod yX10_effect ∈ lw_tbl := List.mem_of_getElem? (i := 676) (by decide +kernel)
theorem k_677 : Cond.selects RX10 yX10_effect yX10_effect ∈ lw_tbl := List.mem_of_getElem? (i := 677) (by decide +kernel)
theorem k_678 : Cond.code yX10_effect cX10_effect 2 (some FieldType.int) ∈ lw_tbl := List.mem_of_getElem? (i := 678) (by decide +kernel)
theorem k_679 : Cond.methodLink RX10 187 yX7_renderStack ∈ lw_tbl := List.mem_of_getElem? (i := 679) (by decide +kernel)
theorem k_680 : Cond.instanceMethod yX7_renderStack ∈ lw_tbl := List.mem_of_getElem? (i := 680) (by decide +kernel)
theorem k_681 : Cond.selects RX7 yX7_renderStack yX7_renderStack ∈ lw_tbl := List.mem_of_getElem? (i := 681) (by decide +kernel)
theorem k_682 : Cond.code yX7_renderStack cX7_renderStack 6 none ∈ lw_tbl := List.mem_of_getElem? (i := 682) (by decide +kernel)
theorem k_683 : Cond.methodLink RX7 27 yX6_copyFrom ∈ lw_tbl := List.mem_of_getElem? (i := 683) (by decide +kernel)
theorem k_684 : Cond.methodLink RX7 31 yX0_layerCount ∈ lw_tbl := List.mem_of_getElem? (i := 684) (by decide +kernel)
theorem k_685 : Cond.methodLink RX7 35 yX0_layerAt ∈ lw_tbl := List.mem_of_getElem? (i := 685) (by decide +kernel)
theorem k_686 : Cond.methodLink RX7 45 yX7_render ∈ lw_tbl := List.mem_of_getElem? (i := 686) (by decide +kernel)
theorem k_687 : Cond.methodLink RX10 313 yX10_changeWithout ∈ lw_tbl := List.mem_of_getElem? (i := 687) (by decide +kernel)
theorem k_689 : Cond.instanceMethod yX10_changeWithout ∈ lw_tbl := List.mem_of_getElem? (i := 689) (by decide +kernel)
theorem k_690 : Cond.code yX10_changeWithout cX10_changeWithout 3 (some FieldType.int) ∈ lw_tbl := List.mem_of_getElem? (i := 690) (by decide +kernel)
theorem k_691 : Cond.methodLink RX10 316 yX0_copyFrom ∈ lw_tbl := List.mem_of_getElem? (i := 691) (by decide +kernel)
theorem k_692 : Cond.methodLink RX10 325 yX6_absoluteDifference ∈ lw_tbl := List.mem_of_getElem? (i := 692) (by decide +kernel)
theorem k_693 : Cond.instanceMethod yX6_absoluteDifference ∈ lw_tbl := List.mem_of_getElem? (i := 693) (by decide +kernel)
theorem k_694 : Cond.selects RX6 yX6_absoluteDifference yX6_absoluteDifference ∈ lw_tbl := List.mem_of_getElem? (i := 694) (by decide +kernel)
theorem k_695 : Cond.code yX6_absoluteDifference cX6_absoluteDifference 5 (some FieldType.int) ∈ lw_tbl := List.mem_of_getElem? (i := 695) (by decide +kernel)
theorem k_696 : Cond.methodLink RX6 42 yJ9_abs_0f7a4 ∈ lw_tbl := List.mem_of_getElem? (i := 696) (by decide +kernel)
theorem k_697 : Cond.methodLink RL 119 yX10_strongestLayer ∈ lw_tbl := List.mem_of_getElem? (i := 697) (by decide +kernel)
theorem k_698 : Cond.instanceMethod yX10_strongestLayer ∈ lw_tbl := List.mem_of_getElem? (i := 698) (by decide +kernel)
theorem k_699 : Cond.selects RX10 yX10_strongestLayer yX10_strongestLayer ∈ lw_tbl := List.mem_of_getElem? (i := 699) (by decide +kernel)
theorem k_700 : Cond.code yX10_strongestLayer cX10_strongestLayer 5 (some FieldType.int) ∈ lw_tbl := List.mem_of_getElem? (i := 700) (by decide +kernel)
theorem k_701 : Cond.methodLink RL 125 yX10_exchangeDifference ∈ lw_tbl := List.mem_of_getElem? (i := 701) (by decide +kernel)
theorem k_702 : Cond.instanceMethod yX10_exchangeDifference ∈ lw_tbl := List.mem_of_getElem? (i := 702) (by decide +kernel)
theorem k_703 : Cond.selects RX10 yX10_exchangeDifference yX10_exchangeDifference ∈ lw_tbl := List.mem_of_getElem? (i := 703) (by decide +kernel)
theorem k_704 : Cond.code yX10_exchangeDifference cX10_exchangeDifference 2 (some FieldType.int) ∈ lw_tbl := List.mem_of_getElem? (i := 704) (by decide +kernel)
theorem k_705 : Cond.methodLink RX10 178 yX0_shift ∈ lw_tbl := List.mem_of_getElem? (i := 705) (by decide +kernel)
theorem k_706 : Cond.methodLink RX10 318 yX10_pixelsThatDiffer ∈ lw_tbl := List.mem_of_getElem? (i := 706) (by decide +kernel)
theorem k_708 : Cond.instanceMethod yX10_pixelsThatDiffer ∈ lw_tbl := List.mem_of_getElem? (i := 708) (by decide +kernel)
theorem k_709 : Cond.code yX10_pixelsThatDiffer cX10_pixelsThatDiffer 2 (some FieldType.int) ∈ lw_tbl := List.mem_of_getElem? (i := 709) (by decide +kernel)
theorem k_710 : Cond.methodLink RX10 329 yX6_differingPixels ∈ lw_tbl := List.mem_of_getElem? (i := 710) (by decide +kernel)
theorem k_711 : Cond.instanceMethod yX6_differingPixels ∈ lw_tbl := List.mem_of_getElem? (i := 711) (by decide +kernel)
theorem k_712 : Cond.selects RX6 yX6_differingPixels yX6_differingPixels ∈ lw_tbl := List.mem_of_getElem? (i := 712) (by decide +kernel)
theorem k_713 : Cond.code yX6_differingPixels cX6_differingPixels 5 (some FieldType.int) ∈ lw_tbl := List.mem_of_getElem? (i := 713) (by decide +kernel)
theorem k_714 : Cond.methodLink RL 137 yX10_snapshotDifference ∈ lw_tbl := List.mem_of_getElem? (i := 714) (by decide +kernel)
theorem k_715 : Cond.instanceMethod yX10_snapshotDifference ∈ lw_tbl := List.mem_of_getElem? (i := 715) (by decide +kernel)
theorem k_716 : Cond.selects RX10 yX10_snapshotDifference yX10_snapshotDifference ∈ lw_tbl := List.mem_of_getElem? (i := 716) (by decide +kernel)
theorem k_717 : Cond.code yX10_snapshotDifference cX10_snapshotDifference 3 (some FieldType.int) ∈ lw_tbl := List.mem_of_getElem? (i := 717) (by decide +kernel)
theorem k_718 : Cond.methodLink RX10 321 yX6_hasSizeOf ∈ lw_tbl := List.mem_of_getElem? (i := 718) (by decide +kernel)
theorem k_719 : Cond.instanceMethod yX6_hasSizeOf ∈ lw_tbl := List.mem_of_getElem? (i := 719) (by decide +kernel)
theorem k_720 : Cond.selects RX6 yX6_hasSizeOf yX6_hasSizeOf ∈ lw_tbl := List.mem_of_getElem? (i := 720) (by decide +kernel)
theorem k_721 : Cond.code yX6_hasSizeOf cX6_hasSizeOf 2 (some FieldType.boolean) ∈ lw_tbl := List.mem_of_getElem? (i := 721) (by decide +kernel)
theorem k_722 : Cond.methodLink RL 115 yX10_undo ∈ lw_tbl := List.mem_of_getElem? (i := 722) (by decide +kernel)
theorem k_723 : Cond.instanceMethod yX10_undo ∈ lw_tbl := List.mem_of_getElem? (i := 723) (by decide +kernel)
theorem k_724 : Cond.selects RX10 yX10_undo yX10_undo ∈ lw_tbl := List.mem_of_getElem? (i := 724) (by decide +kernel)
theorem k_725 : Cond.code yX10_undo cX10_undo 1 (some FieldType.int) ∈ lw_tbl := List.mem_of_getElem? (i := 725) (by decide +kernel)
theorem k_726 : Cond.methodLink RX10 335 yX1_pop ∈ lw_tbl := List.mem_of_getElem? (i := 726) (by decide +kernel)
theorem k_727 : Cond.instanceMethod yX1_pop ∈ lw_tbl := List.mem_of_getElem? (i := 727) (by decide +kernel)
theorem k_728 : Cond.selects RX1 yX1_pop yX1_pop ∈ lw_tbl := List.mem_of_getElem? (i := 728) (by decide +kernel)
theorem k_729 : Cond.code yX1_pop cX1_pop 3 none ∈ lw_tbl := List.mem_of_getElem? (i := 729) (by decide +kernel)
theorem k_730 : Cond.methodLink RL 100 yX10_save ∈ lw_tbl := List.mem_of_getElem? (i := 730) (by decide +kernel)
theorem k_731 : Cond.instanceMethod yX10_save ∈ lw_tbl := List.mem_of_getElem? (i := 731) (by decide +kernel)
theorem k_732 : Cond.selects RX10 yX10_save yX10_save ∈ lw_tbl := List.mem_of_getElem? (i := 732) (by decide +kernel)
theorem k_733 : Cond.code yX10_save cX10_save 3 (some FieldType.int) ∈ lw_tbl := List.mem_of_getElem? (i := 733) (by decide +kernel)
theorem k_734 : Cond.methodLink RL 134 yX10_restore ∈ lw_tbl := List.mem_of_getElem? (i := 734) (by decide +kernel)
theorem k_735 : Cond.instanceMethod yX10_restore ∈ lw_tbl := List.mem_of_getElem? (i := 735) (by decide +kernel)
theorem k_736 : Cond.selects RX10 yX10_restore yX10_restore ∈ lw_tbl := List.mem_of_getElem? (i := 736) (by decide +kernel)
theorem k_737 : Cond.code yX10_restore cX10_restore 3 (some FieldType.int) ∈ lw_tbl := List.mem_of_getElem? (i := 737) (by decide +kernel)
theorem k_738 : Cond.methodLink RL 87 yL_cell ∈ lw_tbl := List.mem_of_getElem? (i := 738) (by decide +kernel)
theorem k_739 : Cond.static yL_cell ∈ lw_tbl := List.mem_of_getElem? (i := 739) (by decide +kernel)
theorem k_740 : Cond.code yL_cell cL_cell 2 (some FieldType.int) ∈ lw_tbl := List.mem_of_getElem? (i := 740) (by decide +kernel)
theorem k_741 : Cond.methodLink RL 41 yL_low ∈ lw_tbl := List.mem_of_getElem? (i := 741) (by decide +kernel)
theorem k_742 : Cond.static yL_low ∈ lw_tbl := List.mem_of_getElem? (i := 742) (by decide +kernel)
theorem k_743 : Cond.code yL_low cL_low 2 (some FieldType.int) ∈ lw_tbl := List.mem_of_getElem? (i := 743) (by decide +kernel)
theorem k_744 : Cond.constant RL 7 2147483647 ∈ lw_tbl := List.mem_of_getElem? (i := 744) (by decide +kernel)
theorem k_745 : Cond.methodLink RL 103 yL_digest ∈ lw_tbl := List.mem_of_getElem? (i := 745) (by decide +kernel)
theorem k_746 : Cond.static yL_digest ∈ lw_tbl := List.mem_of_getElem? (i := 746) (by decide +kernel)
theorem k_747 : Cond.code yL_digest cL_digest 5 (some FieldType.long) ∈ lw_tbl := List.mem_of_getElem? (i := 747) (by decide +kernel)
theorem k_748 : Cond.constantLong RL 14 31 ∈ lw_tbl := List.mem_of_getElem? (i := 748) (by decide +kernel)
theorem k_749 : Cond.methodLink RL 16 yX10_sum ∈ lw_tbl := List.mem_of_getElem? (i := 749) (by decide +kernel)
theorem k_750 : Cond.instanceMethod yX10_sum ∈ lw_tbl := List.mem_of_getElem? (i := 750) (by decide +kernel)
theorem k_751 : Cond.selects RX10 yX10_sum yX10_sum ∈ lw_tbl := List.mem_of_getElem? (i := 751) (by decide +kernel)
theorem k_752 : Cond.code yX10_sum cX10_sum 5 (some FieldType.int) ∈ lw_tbl := List.mem_of_getElem? (i := 752) (by decide +kernel)
theorem k_753 : Cond.methodLink RX10 249 yX10_hasOutput ∈ lw_tbl := List.mem_of_getElem? (i := 753) (by decide +kernel)
theorem k_755 : Cond.instanceMethod yX10_hasOutput ∈ lw_tbl := List.mem_of_getElem? (i := 755) (by decide +kernel)
theorem k_756 : Cond.code yX10_hasOutput cX10_hasOutput 2 (some FieldType.boolean) ∈ lw_tbl := List.mem_of_getElem? (i := 756) (by decide +kernel)
theorem k_757 : Cond.methodLink RX10 229 yX6_at ∈ lw_tbl := List.mem_of_getElem? (i := 757) (by decide +kernel)
theorem k_758 : Cond.methodLink RL 19 yX10_histogram ∈ lw_tbl := List.mem_of_getElem? (i := 758) (by decide +kernel)
theorem k_759 : Cond.instanceMethod yX10_histogram ∈ lw_tbl := List.mem_of_getElem? (i := 759) (by decide +kernel)
theorem k_760 : Cond.selects RX10 yX10_histogram yX10_histogram ∈ lw_tbl := List.mem_of_getElem? (i := 760) (by decide +kernel)
theorem k_761 : Cond.code yX10_histogram cX10_histogram 7 (some FieldType.int) ∈ lw_tbl := List.mem_of_getElem? (i := 761) (by decide +kernel)
theorem k_762 : Cond.methodLink RL 111 yL_isTold ∈ lw_tbl := List.mem_of_getElem? (i := 762) (by decide +kernel)
theorem k_763 : Cond.static yL_isTold ∈ lw_tbl := List.mem_of_getElem? (i := 763) (by decide +kernel)
theorem k_764 : Cond.code yL_isTold cL_isTold 6 (some FieldType.boolean) ∈ lw_tbl := List.mem_of_getElem? (i := 764) (by decide +kernel)
theorem k_765 : Cond.methodLink RL 27 yX10_pixel ∈ lw_tbl := List.mem_of_getElem? (i := 765) (by decide +kernel)
theorem k_766 : Cond.instanceMethod yX10_pixel ∈ lw_tbl := List.mem_of_getElem? (i := 766) (by decide +kernel)
theorem k_767 : Cond.selects RX10 yX10_pixel yX10_pixel ∈ lw_tbl := List.mem_of_getElem? (i := 767) (by decide +kernel)
theorem k_768 : Cond.code yX10_pixel cX10_pixel 5 (some FieldType.int) ∈ lw_tbl := List.mem_of_getElem? (i := 768) (by decide +kernel)
theorem k_769 : Cond.methodLink RL 30 yX10_cachedTiles ∈ lw_tbl := List.mem_of_getElem? (i := 769) (by decide +kernel)
theorem k_770 : Cond.instanceMethod yX10_cachedTiles ∈ lw_tbl := List.mem_of_getElem? (i := 770) (by decide +kernel)
theorem k_771 : Cond.selects RX10 yX10_cachedTiles yX10_cachedTiles ∈ lw_tbl := List.mem_of_getElem? (i := 771) (by decide +kernel)
theorem k_772 : Cond.code yX10_cachedTiles cX10_cachedTiles 2 (some FieldType.int) ∈ lw_tbl := List.mem_of_getElem? (i := 772) (by decide +kernel)
theorem k_773 : Cond.methodLink RX10 275 yX9_tilesOf ∈ lw_tbl := List.mem_of_getElem? (i := 773) (by decide +kernel)
theorem k_774 : Cond.instanceMethod yX9_tilesOf ∈ lw_tbl := List.mem_of_getElem? (i := 774) (by decide +kernel)
theorem k_775 : Cond.selects RX9 yX9_tilesOf yX9_tilesOf ∈ lw_tbl := List.mem_of_getElem? (i := 775) (by decide +kernel)
theorem k_776 : Cond.code yX9_tilesOf cX9_tilesOf 5 (some FieldType.int) ∈ lw_tbl := List.mem_of_getElem? (i := 776) (by decide +kernel)
theorem k_777 : Cond.methodLink RL 33 yX10_counter ∈ lw_tbl := List.mem_of_getElem? (i := 777) (by decide +kernel)
theorem k_778 : Cond.instanceMethod yX10_counter ∈ lw_tbl := List.mem_of_getElem? (i := 778) (by decide +kernel)
theorem k_779 : Cond.selects RX10 yX10_counter yX10_counter ∈ lw_tbl := List.mem_of_getElem? (i := 779) (by decide +kernel)
theorem k_780 : Cond.code yX10_counter cX10_counter 2 (some FieldType.int) ∈ lw_tbl := List.mem_of_getElem? (i := 780) (by decide +kernel)
theorem k_781 : Cond.methodLink RL 107 yL_edit ∈ lw_tbl := List.mem_of_getElem? (i := 781) (by decide +kernel)
theorem k_782 : Cond.static yL_edit ∈ lw_tbl := List.mem_of_getElem? (i := 782) (by decide +kernel)
theorem k_783 : Cond.code yL_edit cL_edit 5 (some FieldType.int) ∈ lw_tbl := List.mem_of_getElem? (i := 783) (by decide +kernel)
theorem k_784 : Cond.methodLink RL 36 yL_more ∈ lw_tbl := List.mem_of_getElem? (i := 784) (by decide +kernel)
theorem k_785 : Cond.static yL_more ∈ lw_tbl := List.mem_of_getElem? (i := 785) (by decide +kernel)
theorem k_786 : Cond.code yL_more cL_more 2 (some FieldType.int) ∈ lw_tbl := List.mem_of_getElem? (i := 786) (by decide +kernel)
theorem k_787 : Cond.methodLink RL 47 yX10_fillRectangle ∈ lw_tbl := List.mem_of_getElem? (i := 787) (by decide +kernel)
theorem k_788 : Cond.instanceMethod yX10_fillRectangle ∈ lw_tbl := List.mem_of_getElem? (i := 788) (by decide +kernel)
theorem k_789 : Cond.selects RX10 yX10_fillRectangle yX10_fillRectangle ∈ lw_tbl := List.mem_of_getElem? (i := 789) (by decide +kernel)
theorem k_790 : Cond.code yX10_fillRectangle cX10_fillRectangle 8 (some FieldType.int) ∈ lw_tbl := List.mem_of_getElem? (i := 790) (by decide +kernel)
theorem k_791 : Cond.methodLink RL 51 yX10_setBlend ∈ lw_tbl := List.mem_of_getElem? (i := 791) (by decide +kernel)
theorem k_792 : Cond.instanceMethod yX10_setBlend ∈ lw_tbl := List.mem_of_getElem? (i := 792) (by decide +kernel)
theorem k_793 : Cond.selects RX10 yX10_setBlend yX10_setBlend ∈ lw_tbl := List.mem_of_getElem? (i := 793) (by decide +kernel)
theorem k_794 : Cond.code yX10_setBlend cX10_setBlend 6 (some FieldType.int) ∈ lw_tbl := List.mem_of_getElem? (i := 794) (by decide +kernel)
theorem k_795 : Cond.methodLink RL 54 yX10_setEnabled ∈ lw_tbl := List.mem_of_getElem? (i := 795) (by decide +kernel)
theorem k_796 : Cond.instanceMethod yX10_setEnabled ∈ lw_tbl := List.mem_of_getElem? (i := 796) (by decide +kernel)
theorem k_797 : Cond.selects RX10 yX10_setEnabled yX10_setEnabled ∈ lw_tbl := List.mem_of_getElem? (i := 797) (by decide +kernel)
theorem k_798 : Cond.code yX10_setEnabled cX10_setEnabled 5 (some FieldType.int) ∈ lw_tbl := List.mem_of_getElem? (i := 798) (by decide +kernel)
theorem k_799 : Cond.methodLink RX10 175 yX0_enabledCount ∈ lw_tbl := List.mem_of_getElem? (i := 799) (by decide +kernel)
theorem k_800 : Cond.instanceMethod yX0_enabledCount ∈ lw_tbl := List.mem_of_getElem? (i := 800) (by decide +kernel)
theorem k_801 : Cond.selects RX0 yX0_enabledCount yX0_enabledCount ∈ lw_tbl := List.mem_of_getElem? (i := 801) (by decide +kernel)
theorem k_802 : Cond.code yX0_enabledCount cX0_enabledCount 4 (some FieldType.int) ∈ lw_tbl := List.mem_of_getElem? (i := 802) (by decide +kernel)
theorem k_803 : Cond.methodLink RL 57 yX10_setMask ∈ lw_tbl := List.mem_of_getElem? (i := 803) (by decide +kernel)
theorem k_804 : Cond.instanceMethod yX10_setMask ∈ lw_tbl := List.mem_of_getElem? (i := 804) (by decide +kernel)
theorem k_805 : Cond.selects RX10 yX10_setMask yX10_setMask ∈ lw_tbl := List.mem_of_getElem? (i := 805) (by decide +kernel)
theorem k_806 : Cond.code yX10_setMask cX10_setMask 9 (some FieldType.int) ∈ lw_tbl := List.mem_of_getElem? (i := 806) (by decide +kernel)
theorem k_807 : Cond.methodLink RX10 212 yX4_allows ∈ lw_tbl := List.mem_of_getElem? (i := 807) (by decide +kernel)
theorem k_808 : Cond.static yX4_allows ∈ lw_tbl := List.mem_of_getElem? (i := 808) (by decide +kernel)
theorem k_809 : Cond.code yX4_allows cX4_allows 5 (some FieldType.boolean) ∈ lw_tbl := List.mem_of_getElem? (i := 809) (by decide +kernel)
theorem k_810 : Cond.methodLinkNest RX4 15 yX10_within RX10 ∈ lw_tbl := List.mem_of_getElem? (i := 810) (by decide +kernel)
theorem k_811 : Cond.methodLink RL 61 yX10_invertMask ∈ lw_tbl := List.mem_of_getElem? (i := 811) (by decide +kernel)
theorem k_812 : Cond.instanceMethod yX10_invertMask ∈ lw_tbl := List.mem_of_getElem? (i := 812) (by decide +kernel)
theorem k_813 : Cond.selects RX10 yX10_invertMask yX10_invertMask ∈ lw_tbl := List.mem_of_getElem? (i := 813) (by decide +kernel)
theorem k_814 : Cond.code yX10_invertMask cX10_invertMask 3 (some FieldType.int) ∈ lw_tbl := List.mem_of_getElem? (i := 814) (by decide +kernel)
theorem k_815 : Cond.methodLink RL 68 yX10_setFeather ∈ lw_tbl := List.mem_of_getElem? (i := 815) (by decide +kernel)
theorem k_816 : Cond.instanceMethod yX10_setFeather ∈ lw_tbl := List.mem_of_getElem? (i := 816) (by decide +kernel)
theorem k_817 : Cond.selects RX10 yX10_setFeather yX10_setFeather ∈ lw_tbl := List.mem_of_getElem? (i := 817) (by decide +kernel)
theorem k_818 : Cond.code yX10_setFeather cX10_setFeather 5 (some FieldType.int) ∈ lw_tbl := List.mem_of_getElem? (i := 818) (by decide +kernel)
theorem k_819 : Cond.methodLink RL 71 yX10_moveLayer ∈ lw_tbl := List.mem_of_getElem? (i := 819) (by decide +kernel)
theorem k_820 : Cond.instanceMethod yX10_moveLayer ∈ lw_tbl := List.mem_of_getElem? (i := 820) (by decide +kernel)
theorem k_821 : Cond.selects RX10 yX10_moveLayer yX10_moveLayer ∈ lw_tbl := List.mem_of_getElem? (i := 821) (by decide +kernel)
theorem k_822 : Cond.code yX10_moveLayer cX10_moveLayer 4 (some FieldType.int) ∈ lw_tbl := List.mem_of_getElem? (i := 822) (by decide +kernel)
theorem k_823 : Cond.methodLink RL 77 yX10_removeLayer ∈ lw_tbl := List.mem_of_getElem? (i := 823) (by decide +kernel)
theorem k_824 : Cond.instanceMethod yX10_removeLayer ∈ lw_tbl := List.mem_of_getElem? (i := 824) (by decide +kernel)
theorem k_825 : Cond.selects RX10 yX10_removeLayer yX10_removeLayer ∈ lw_tbl := List.mem_of_getElem? (i := 825) (by decide +kernel)
theorem k_826 : Cond.code yX10_removeLayer cX10_removeLayer 2 (some FieldType.int) ∈ lw_tbl := List.mem_of_getElem? (i := 826) (by decide +kernel)
theorem k_827 : Cond.methodLink RX10 184 yX0_takeOut ∈ lw_tbl := List.mem_of_getElem? (i := 827) (by decide +kernel)
theorem k_828 : Cond.instanceMethod yX0_takeOut ∈ lw_tbl := List.mem_of_getElem? (i := 828) (by decide +kernel)
theorem k_829 : Cond.selects RX0 yX0_takeOut yX0_takeOut ∈ lw_tbl := List.mem_of_getElem? (i := 829) (by decide +kernel)
theorem k_830 : Cond.code yX0_takeOut cX0_takeOut 2 none ∈ lw_tbl := List.mem_of_getElem? (i := 830) (by decide +kernel)
theorem k_831 : Cond.methodLink RL 83 yX10_flatten ∈ lw_tbl := List.mem_of_getElem? (i := 831) (by decide +kernel)
theorem k_832 : Cond.instanceMethod yX10_flatten ∈ lw_tbl := List.mem_of_getElem? (i := 832) (by decide +kernel)
theorem k_833 : Cond.selects RX10 yX10_flatten yX10_flatten ∈ lw_tbl := List.mem_of_getElem? (i := 833) (by decide +kernel)
theorem k_834 : Cond.code yX10_flatten cX10_flatten 3 (some FieldType.int) ∈ lw_tbl := List.mem_of_getElem? (i := 834) (by decide +kernel)
theorem k_835 : Cond.methodLink RX10 191 yX6_copyFrom ∈ lw_tbl := List.mem_of_getElem? (i := 835) (by decide +kernel)
theorem k_836 : Cond.methodLink RX10 195 yX9_removeLowest ∈ lw_tbl := List.mem_of_getElem? (i := 836) (by decide +kernel)
theorem k_837 : Cond.instanceMethod yX9_removeLowest ∈ lw_tbl := List.mem_of_getElem? (i := 837) (by decide +kernel)
theorem k_838 : Cond.selects RX9 yX9_removeLowest yX9_removeLowest ∈ lw_tbl := List.mem_of_getElem? (i := 838) (by decide +kernel)
theorem k_839 : Cond.code yX9_removeLowest cX9_removeLowest 6 none ∈ lw_tbl := List.mem_of_getElem? (i := 839) (by decide +kernel)
theorem k_840 : Cond.methodLink RX9 78 yX6_copyFrom ∈ lw_tbl := List.mem_of_getElem? (i := 840) (by decide +kernel)
theorem ykX0_init : zYok yX0_init 0 := by unfold zYok; decide +kernel
theorem ykX0_layerCount : zYok yX0_layerCount 0 := by unfold zYok; decide +kernel
theorem ykX0_isFull : zYok yX0_isFull 0 := by unfold zYok; decide +kernel
theorem ykX0_layerAt : zYok yX0_layerAt 1 := by unfold zYok; decide +kernel
theorem ykX0_enabledCount : zYok yX0_enabledCount 0 := by unfold zYok; decide +kernel
theorem ykX0_enabledAtMost : zYok yX0_enabledAtMost 1 := by unfold zYok; decide +kernel
theorem ykX0_copyFrom : zYok yX0_copyFrom 1 := by unfold zYok; decide +kernel
theorem ykX0_copyLayersFrom : zYok yX0_copyLayersFrom 1 := by unfold zYok; decide +kernel
theorem ykX0_removeLayers : zYok yX0_removeLayers 0 := by unfold zYok; decide +kernel
theorem ykX0_addFresh : zYok yX0_addFresh 3 := by unfold zYok; decide +kernel
theorem ykX0_addCopyAbove : zYok yX0_addCopyAbove 1 := by unfold zYok; decide +kernel
theorem ykX0_takeOut : zYok yX0_takeOut 1 := by unfold zYok; decide +kernel
theorem ykX0_shift : zYok yX0_shift 2 := by unfold zYok; decide +kernel
theorem ykX0_nextLayer : zYok yX0_nextLayer 0 := by unfold zYok; decide +kernel
theorem ykX1_init : zYok yX1_init 0 := by unfold zYok; decide +kernel
theorem ykX1_push : zYok yX1_push 1 := by unfold zYok; decide +kernel
theorem ykX1_pop : zYok yX1_pop 1 := by unfold zYok; decide +kernel
theorem ykX1_discardOldest : zYok yX1_discardOldest 0 := by unfold zYok; decide +kernel
theorem ykX2_allow : zYok yX2_allow 3 := by unfold zYok; decide +kernel
theorem ykX2_lowestA : zYok yX2_lowestA 1 := by unfold zYok; decide +kernel
theorem ykX2_highestA : zYok yX2_highestA 1 := by unfold zYok; decide +kernel
theorem ykX2_lowestB : zYok yX2_lowestB 2 := by unfold zYok; decide +kernel
theorem ykX2_highestB : zYok yX2_highestB 1 := by unfold zYok; decide +kernel
theorem ykX2_entry : zYok yX2_entry 2 := by unfold zYok; decide +kernel
theorem ykX3_init : zYok yX3_init 0 := by unfold zYok; decide +kernel
theorem ykX3_startAs : zYok yX3_startAs 3 := by unfold zYok; decide +kernel
theorem ykX3_copyFrom : zYok yX3_copyFrom 1 := by unfold zYok; decide +kernel
theorem ykX3_seesNeighbourhood : zYok yX3_seesNeighbourhood 0 := by unfold zYok; decide +kernel
theorem ykX3_reach : zYok yX3_reach 0 := by unfold zYok; decide +kernel
theorem ykX4_init : zYok yX4_init 0 := by unfold zYok; decide +kernel
theorem ykX4_allows : zYok yX4_allows 5 := by unfold zYok; decide +kernel
theorem ykX4_define : zYok yX4_define 5 := by unfold zYok; decide +kernel
theorem ykX4_startAnew : zYok yX4_startAnew 0 := by unfold zYok; decide +kernel
theorem ykX4_copyFrom : zYok yX4_copyFrom 1 := by unfold zYok; decide +kernel
theorem ykX4_addDab : zYok yX4_addDab 3 := by unfold zYok; decide +kernel
theorem ykX4_weightAt : zYok yX4_weightAt 3 := by unfold zYok; decide +kernel
theorem ykX4_rectangleWeightAt : zYok yX4_rectangleWeightAt 2 := by unfold zYok; decide +kernel
theorem ykX4_gradientWeightAt : zYok yX4_gradientWeightAt 1 := by unfold zYok; decide +kernel
theorem ykX4_isDabbed : zYok yX4_isDabbed 2 := by unfold zYok; decide +kernel
theorem ykX5_blended : zYok yX5_blended 3 := by unfold zYok; decide +kernel
theorem ykX6_init : zYok yX6_init 0 := by unfold zYok; decide +kernel
theorem ykX6_startAs : zYok yX6_startAs 2 := by unfold zYok; decide +kernel
theorem ykX6_contains : zYok yX6_contains 2 := by unfold zYok; decide +kernel
theorem ykX6_at : zYok yX6_at 2 := by unfold zYok; decide +kernel
theorem ykX6_atNearest : zYok yX6_atNearest 2 := by unfold zYok; decide +kernel
theorem ykX6_put : zYok yX6_put 3 := by unfold zYok; decide +kernel
theorem ykX6_copyFrom : zYok yX6_copyFrom 1 := by unfold zYok; decide +kernel
theorem ykX6_takeSizeOf : zYok yX6_takeSizeOf 1 := by unfold zYok; decide +kernel
theorem ykX6_hasSizeOf : zYok yX6_hasSizeOf 1 := by unfold zYok; decide +kernel
theorem ykX6_absoluteDifference : zYok yX6_absoluteDifference 1 := by unfold zYok; decide +kernel
theorem ykX6_differingPixels : zYok yX6_differingPixels 1 := by unfold zYok; decide +kernel
theorem ykX7_init : zYok yX7_init 0 := by unfold zYok; decide +kernel
theorem ykX7_renderStack : zYok yX7_renderStack 3 := by unfold zYok; decide +kernel
theorem ykX7_render : zYok yX7_render 6 := by unfold zYok; decide +kernel
theorem ykX7_adjusted : zYok yX7_adjusted 4 := by unfold zYok; decide +kernel
theorem ykX7_findExtremes : zYok yX7_findExtremes 1 := by unfold zYok; decide +kernel
theorem ykX7_gatherNeighbours : zYok yX7_gatherNeighbours 4 := by unfold zYok; decide +kernel
theorem ykX7_average : zYok yX7_average 0 := by unfold zYok; decide +kernel
theorem ykX7_median : zYok yX7_median 0 := by unfold zYok; decide +kernel
theorem ykX7_sortNeighbours : zYok yX7_sortNeighbours 0 := by unfold zYok; decide +kernel
theorem ykX7_greatest : zYok yX7_greatest 0 := by unfold zYok; decide +kernel
theorem ykX7_smallest : zYok yX7_smallest 0 := by unfold zYok; decide +kernel
theorem ykX8_init : zYok yX8_init 0 := by unfold zYok; decide +kernel
theorem ykX9_init : zYok yX9_init 0 := by unfold zYok; decide +kernel
theorem ykX9_slotOf : zYok yX9_slotOf 3 := by unfold zYok; decide +kernel
theorem ykX9_tileOf : zYok yX9_tileOf 1 := by unfold zYok; decide +kernel
theorem ykX9_outputAt : zYok yX9_outputAt 1 := by unfold zYok; decide +kernel
theorem ykX9_holds : zYok yX9_holds 3 := by unfold zYok; decide +kernel
theorem ykX9_noteFound : zYok yX9_noteFound 3 := by unfold zYok; decide +kernel
theorem ykX9_noteComputed : zYok yX9_noteComputed 3 := by unfold zYok; decide +kernel
theorem ykX9_use : zYok yX9_use 1 := by unfold zYok; decide +kernel
theorem ykX9_tilesOf : zYok yX9_tilesOf 1 := by unfold zYok; decide +kernel
theorem ykX9_oldestSlot : zYok yX9_oldestSlot 0 := by unfold zYok; decide +kernel
theorem ykX9_dropSurplus : zYok yX9_dropSurplus 0 := by unfold zYok; decide +kernel
theorem ykX9_removeAll : zYok yX9_removeAll 0 := by unfold zYok; decide +kernel
theorem ykX9_removeFrom : zYok yX9_removeFrom 1 := by unfold zYok; decide +kernel
theorem ykX9_removeTouched : zYok yX9_removeTouched 5 := by unfold zYok; decide +kernel
theorem ykX9_removeLowest : zYok yX9_removeLowest 1 := by unfold zYok; decide +kernel
theorem ykX9_removeSlots : zYok yX9_removeSlots 2 := by unfold zYok; decide +kernel
theorem ykX9_remove : zYok yX9_remove 1 := by unfold zYok; decide +kernel
theorem ykX10_init : zYok yX10_init 0 := by unfold zYok; decide +kernel
theorem ykX10_newImage : zYok yX10_newImage 2 := by unfold zYok; decide +kernel
theorem ykX10_setPixel : zYok yX10_setPixel 3 := by unfold zYok; decide +kernel
theorem ykX10_fillRectangle : zYok yX10_fillRectangle 5 := by unfold zYok; decide +kernel
theorem ykX10_size : zYok yX10_size 1 := by unfold zYok; decide +kernel
theorem ykX10_paint : zYok yX10_paint 5 := by unfold zYok; decide +kernel
theorem ykX10_removeTilesThatSee : zYok yX10_removeTilesThatSee 4 := by unfold zYok; decide +kernel
theorem ykX10_addLayer : zYok yX10_addLayer 3 := by unfold zYok; decide +kernel
theorem ykX10_setBlend : zYok yX10_setBlend 3 := by unfold zYok; decide +kernel
theorem ykX10_setEnabled : zYok yX10_setEnabled 2 := by unfold zYok; decide +kernel
theorem ykX10_moveLayer : zYok yX10_moveLayer 2 := by unfold zYok; decide +kernel
theorem ykX10_duplicateLayer : zYok yX10_duplicateLayer 1 := by unfold zYok; decide +kernel
theorem ykX10_removeLayer : zYok yX10_removeLayer 1 := by unfold zYok; decide +kernel
theorem ykX10_flatten : zYok yX10_flatten 1 := by unfold zYok; decide +kernel
theorem ykX10_layer : zYok yX10_layer 2 := by unfold zYok; decide +kernel
theorem ykX10_startChangeOf : zYok yX10_startChangeOf 1 := by unfold zYok; decide +kernel
theorem ykX10_setMask : zYok yX10_setMask 6 := by unfold zYok; decide +kernel
theorem ykX10_setFeather : zYok yX10_setFeather 2 := by unfold zYok; decide +kernel
theorem ykX10_invertMask : zYok yX10_invertMask 1 := by unfold zYok; decide +kernel
theorem ykX10_dab : zYok yX10_dab 4 := by unfold zYok; decide +kernel
theorem ykX10_pixel : zYok yX10_pixel 3 := by unfold zYok; decide +kernel
theorem ykX10_prefetch : zYok yX10_prefetch 1 := by unfold zYok; decide +kernel
theorem ykX10_setCacheLimit : zYok yX10_setCacheLimit 1 := by unfold zYok; decide +kernel
theorem ykX10_setTileSize : zYok yX10_setTileSize 1 := by unfold zYok; decide +kernel
theorem ykX10_clearCache : zYok yX10_clearCache 0 := by unfold zYok; decide +kernel
theorem ykX10_cachedTiles : zYok yX10_cachedTiles 1 := by unfold zYok; decide +kernel
theorem ykX10_counter : zYok yX10_counter 1 := by unfold zYok; decide +kernel
theorem ykX10_tileColumns : zYok yX10_tileColumns 0 := by unfold zYok; decide +kernel
theorem ykX10_tileRows : zYok yX10_tileRows 0 := by unfold zYok; decide +kernel
theorem ykX10_requestTile : zYok yX10_requestTile 3 := by unfold zYok; decide +kernel
theorem ykX10_requestInput : zYok yX10_requestInput 4 := by unfold zYok; decide +kernel
theorem ykX10_pictureOf : zYok yX10_pictureOf 1 := by unfold zYok; decide +kernel
theorem ykX10_histogram : zYok yX10_histogram 3 := by unfold zYok; decide +kernel
theorem ykX10_sum : zYok yX10_sum 1 := by unfold zYok; decide +kernel
theorem ykX10_effect : zYok yX10_effect 1 := by unfold zYok; decide +kernel
theorem ykX10_strongestLayer : zYok yX10_strongestLayer 0 := by unfold zYok; decide +kernel
theorem ykX10_exchangeDifference : zYok yX10_exchangeDifference 1 := by unfold zYok; decide +kernel
theorem ykX10_snapshotDifference : zYok yX10_snapshotDifference 1 := by unfold zYok; decide +kernel
theorem ykX10_hasOutput : zYok yX10_hasOutput 1 := by unfold zYok; decide +kernel
theorem ykX10_changeWithout : zYok yX10_changeWithout 1 := by unfold zYok; decide +kernel
theorem ykX10_pixelsThatDiffer : zYok yX10_pixelsThatDiffer 1 := by unfold zYok; decide +kernel
theorem ykX10_undo : zYok yX10_undo 0 := by unfold zYok; decide +kernel
theorem ykX10_save : zYok yX10_save 1 := by unfold zYok; decide +kernel
theorem ykX10_restore : zYok yX10_restore 1 := by unfold zYok; decide +kernel
theorem ykX10_within : zYok yX10_within 3 := by unfold zYok; decide +kernel
theorem ykX10_clamped : zYok yX10_clamped 1 := by unfold zYok; decide +kernel
theorem ykX10_divided : zYok yX10_divided 2 := by unfold zYok; decide +kernel
theorem ykJ9_floorDiv_7cf53 : zYok yJ9_floorDiv_7cf53 2 := by unfold zYok; decide +kernel
theorem ykJ9_abs_0f7a4 : zYok yJ9_abs_0f7a4 1 := by unfold zYok; decide +kernel
theorem ykJ9_max_7cf53 : zYok yJ9_max_7cf53 2 := by unfold zYok; decide +kernel
theorem ykJ9_min_7cf53 : zYok yJ9_min_7cf53 2 := by unfold zYok; decide +kernel
theorem ykL_more : zYok yL_more 2 := by unfold zYok; decide +kernel
theorem ykL_cell : zYok yL_cell 2 := by unfold zYok; decide +kernel
theorem ykL_low : zYok yL_low 2 := by unfold zYok; decide +kernel
theorem ykL_digest : zYok yL_digest 1 := by unfold zYok; decide +kernel
theorem ykL_isTold : zYok yL_isTold 2 := by unfold zYok; decide +kernel
theorem ykL_edit : zYok yL_edit 2 := by unfold zYok; decide +kernel
theorem ykL_law : zYok yL_law 1 := by unfold zYok; decide +kernel
theorem ziX0 : ∀ w ∈ u_ws RX0 TX0 3, w ∈ lw_tbl := by decide +kernel
theorem zX0 : zCl 0 RX0 TX0 3 tyX0 := ⟨rfl, ziX0, tyX0_ok, nmX0, rfl, by decide⟩
theorem zdefX0 : ∀ j, j < 3 → ∀ t, (ztg 0)[j]? = some t → defaultValue (tyX0 j) = (match t with | 0 => .int 0 | 1 => .null | _ => .long 0) := by decide +kernel
theorem ziX1 : ∀ w ∈ u_ws RX1 TX1 2, w ∈ lw_tbl := by decide +kernel
theorem zX1 : zCl 1 RX1 TX1 2 tyX1 := ⟨rfl, ziX1, tyX1_ok, nmX1, rfl, by decide⟩
theorem zdefX1 : ∀ j, j < 2 → ∀ t, (ztg 1)[j]? = some t → defaultValue (tyX1 j) = (match t with | 0 => .int 0 | 1 => .null | _ => .long 0) := by decide +kernel
theorem ziX3 : ∀ w ∈ u_ws RX3 TX3 7, w ∈ lw_tbl := by decide +kernel
theorem zX3 : zCl 2 RX3 TX3 7 tyX3 := ⟨rfl, ziX3, tyX3_ok, nmX3, rfl, by decide⟩
theorem zdefX3 : ∀ j, j < 7 → ∀ t, (ztg 2)[j]? = some t → defaultValue (tyX3 j) = (match t with | 0 => .int 0 | 1 => .null | _ => .long 0) := by decide +kernel
theorem ziX4 : ∀ w ∈ u_ws RX4 TX4 9, w ∈ lw_tbl := by decide +kernel
theorem zX4 : zCl 3 RX4 TX4 9 tyX4 := ⟨rfl, ziX4, tyX4_ok, nmX4, rfl, by decide⟩
theorem zdefX4 : ∀ j, j < 9 → ∀ t, (ztg 3)[j]? = some t → defaultValue (tyX4 j) = (match t with | 0 => .int 0 | 1 => .null | _ => .long 0) := by decide +kernel
theorem ziX6 : ∀ w ∈ u_ws RX6 TX6 3, w ∈ lw_tbl := by decide +kernel
theorem zX6 : zCl 4 RX6 TX6 3 tyX6 := ⟨rfl, ziX6, tyX6_ok, nmX6, rfl, by decide⟩
theorem zdefX6 : ∀ j, j < 3 → ∀ t, (ztg 4)[j]? = some t → defaultValue (tyX6 j) = (match t with | 0 => .int 0 | 1 => .null | _ => .long 0) := by decide +kernel
theorem ziX7 : ∀ w ∈ u_ws RX7 TX7 5, w ∈ lw_tbl := by decide +kernel
theorem zX7 : zCl 5 RX7 TX7 5 tyX7 := ⟨rfl, ziX7, tyX7_ok, nmX7, rfl, by decide⟩
theorem zdefX7 : ∀ j, j < 5 → ∀ t, (ztg 5)[j]? = some t → defaultValue (tyX7 j) = (match t with | 0 => .int 0 | 1 => .null | _ => .long 0) := by decide +kernel
theorem ziX8 : ∀ w ∈ u_ws RX8 TX8 7, w ∈ lw_tbl := by decide +kernel
theorem zX8 : zCl 6 RX8 TX8 7 tyX8 := ⟨rfl, ziX8, tyX8_ok, nmX8, rfl, by decide⟩
theorem zdefX8 : ∀ j, j < 7 → ∀ t, (ztg 6)[j]? = some t → defaultValue (tyX8 j) = (match t with | 0 => .int 0 | 1 => .null | _ => .long 0) := by decide +kernel
theorem ziX9 : ∀ w ∈ u_ws RX9 TX9 9, w ∈ lw_tbl := by decide +kernel
theorem zX9 : zCl 7 RX9 TX9 9 tyX9 := ⟨rfl, ziX9, tyX9_ok, nmX9, rfl, by decide⟩
theorem zdefX9 : ∀ j, j < 9 → ∀ t, (ztg 7)[j]? = some t → defaultValue (tyX9 j) = (match t with | 0 => .int 0 | 1 => .null | _ => .long 0) := by decide +kernel
theorem ziX10 : ∀ w ∈ u_ws RX10 TX10 9, w ∈ lw_tbl := by decide +kernel
theorem zX10 : zCl 8 RX10 TX10 9 tyX10 := ⟨rfl, ziX10, tyX10_ok, nmX10, rfl, by decide⟩
theorem zdefX10 : ∀ j, j < 9 → ∀ t, (ztg 8)[j]? = some t → defaultValue (tyX10 j) = (match t with | 0 => .int 0 | 1 => .null | _ => .long 0) := by decide +kernel
