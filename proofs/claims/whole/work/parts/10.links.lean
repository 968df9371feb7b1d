/-! the methods by number, what the tables say of links (by program: wip/whole/emit1.py) -/
abbrev mX0_init : Nat := 0
abbrev mX0_layerCount : Nat := 1
abbrev mX0_isFull : Nat := 2
abbrev mX0_layerAt : Nat := 3
abbrev mX0_enabledCount : Nat := 4
abbrev mX0_enabledAtMost : Nat := 5
abbrev mX0_copyFrom : Nat := 6
abbrev mX0_copyLayersFrom : Nat := 7
abbrev mX0_removeLayers : Nat := 8
abbrev mX0_addFresh : Nat := 9
abbrev mX0_addCopyAbove : Nat := 10
abbrev mX0_takeOut : Nat := 11
abbrev mX0_shift : Nat := 12
abbrev mX0_nextLayer : Nat := 13
abbrev mX1_init : Nat := 14
abbrev mX1_push : Nat := 15
abbrev mX1_pop : Nat := 16
abbrev mX1_discardOldest : Nat := 17
abbrev mX2_allow : Nat := 18
abbrev mX2_parametersOf : Nat := 19
abbrev mX2_lowestA : Nat := 20
abbrev mX2_highestA : Nat := 21
abbrev mX2_lowestB : Nat := 22
abbrev mX2_highestB : Nat := 23
abbrev mX2_entry : Nat := 24
abbrev mX2_nameOf : Nat := 25
abbrev mX3_init : Nat := 26
abbrev mX3_startAs : Nat := 27
abbrev mX3_copyFrom : Nat := 28
abbrev mX3_seesNeighbourhood : Nat := 29
abbrev mX3_reach : Nat := 30
abbrev mX4_init : Nat := 31
abbrev mX4_allows : Nat := 32
abbrev mX4_define : Nat := 33
abbrev mX4_startAnew : Nat := 34
abbrev mX4_copyFrom : Nat := 35
abbrev mX4_addDab : Nat := 36
abbrev mX4_weightAt : Nat := 37
abbrev mX4_rectangleWeightAt : Nat := 38
abbrev mX4_gradientWeightAt : Nat := 39
abbrev mX4_isDabbed : Nat := 40
abbrev mX5_blended : Nat := 41
abbrev mX5_nameOf : Nat := 42
abbrev mX6_init : Nat := 43
abbrev mX6_startAs : Nat := 44
abbrev mX6_contains : Nat := 45
abbrev mX6_at : Nat := 46
abbrev mX6_atNearest : Nat := 47
abbrev mX6_put : Nat := 48
abbrev mX6_copyFrom : Nat := 49
abbrev mX6_takeSizeOf : Nat := 50
abbrev mX6_hasSizeOf : Nat := 51
abbrev mX6_absoluteDifference : Nat := 52
abbrev mX6_differingPixels : Nat := 53
abbrev mX7_init : Nat := 54
abbrev mX7_renderStack : Nat := 55
abbrev mX7_render : Nat := 56
abbrev mX7_adjusted : Nat := 57
abbrev mX7_findExtremes : Nat := 58
abbrev mX7_gatherNeighbours : Nat := 59
abbrev mX7_average : Nat := 60
abbrev mX7_median : Nat := 61
abbrev mX7_sortNeighbours : Nat := 62
abbrev mX7_greatest : Nat := 63
abbrev mX7_smallest : Nat := 64
abbrev mX8_init : Nat := 65
abbrev mX8_add : Nat := 66
abbrev mX8_readInto : Nat := 67
abbrev mX8_readLayer : Nat := 68
abbrev mX8_readNumber : Nat := 69
abbrev mX8_readOptions : Nat := 70
abbrev mX8_readMode : Nat := 71
abbrev mX8_kindOfWord : Nat := 72
abbrev mX8_modeOfWord : Nat := 73
abbrev mX8_optionOfWord : Nat := 74
abbrev mX8_wordIs : Nat := 75
abbrev mX8_nextToken : Nat := 76
abbrev mX8_isNumber : Nat := 77
abbrev mX8_valueOfDigits : Nat := 78
abbrev mX8_endOfRun : Nat := 79
abbrev mX8_characterAt : Nat := 80
abbrev mX9_init : Nat := 81
abbrev mX9_layerOf : Nat := 82
abbrev mX9_columnOf : Nat := 83
abbrev mX9_rowOf : Nat := 84
abbrev mX9_slotOf : Nat := 85
abbrev mX9_tileOf : Nat := 86
abbrev mX9_outputAt : Nat := 87
abbrev mX9_holds : Nat := 88
abbrev mX9_noteFound : Nat := 89
abbrev mX9_noteComputed : Nat := 90
abbrev mX9_use : Nat := 91
abbrev mX9_tilesOf : Nat := 92
abbrev mX9_oldestSlot : Nat := 93
abbrev mX9_dropSurplus : Nat := 94
abbrev mX9_removeAll : Nat := 95
abbrev mX9_removeFrom : Nat := 96
abbrev mX9_removeTouched : Nat := 97
abbrev mX9_removeLowest : Nat := 98
abbrev mX9_removeSlots : Nat := 99
abbrev mX9_remove : Nat := 100
abbrev mX10_init : Nat := 101
abbrev mX10_newImage : Nat := 102
abbrev mX10_setPixel : Nat := 103
abbrev mX10_fillRectangle : Nat := 104
abbrev mX10_size : Nat := 105
abbrev mX10_paint : Nat := 106
abbrev mX10_removeTilesThatSee : Nat := 107
abbrev mX10_addLayer : Nat := 108
abbrev mX10_setParameters : Nat := 109
abbrev mX10_setBlend : Nat := 110
abbrev mX10_setEnabled : Nat := 111
abbrev mX10_moveLayer : Nat := 112
abbrev mX10_duplicateLayer : Nat := 113
abbrev mX10_removeLayer : Nat := 114
abbrev mX10_flatten : Nat := 115
abbrev mX10_layer : Nat := 116
abbrev mX10_startChangeOf : Nat := 117
abbrev mX10_setMask : Nat := 118
abbrev mX10_setFeather : Nat := 119
abbrev mX10_invertMask : Nat := 120
abbrev mX10_dab : Nat := 121
abbrev mX10_maskValue : Nat := 122
abbrev mX10_append : Nat := 123
abbrev mX10_clearText : Nat := 124
abbrev mX10_loadStack : Nat := 125
abbrev mX10_pixel : Nat := 126
abbrev mX10_prefetch : Nat := 127
abbrev mX10_setCacheLimit : Nat := 128
abbrev mX10_setTileSize : Nat := 129
abbrev mX10_clearCache : Nat := 130
abbrev mX10_isCached : Nat := 131
abbrev mX10_cachedTiles : Nat := 132
abbrev mX10_counter : Nat := 133
abbrev mX10_oldestTile : Nat := 134
abbrev mX10_tileColumns : Nat := 135
abbrev mX10_tileRows : Nat := 136
abbrev mX10_requestTile : Nat := 137
abbrev mX10_requestInput : Nat := 138
abbrev mX10_pictureOf : Nat := 139
abbrev mX10_histogram : Nat := 140
abbrev mX10_sum : Nat := 141
abbrev mX10_effect : Nat := 142
abbrev mX10_strongestLayer : Nat := 143
abbrev mX10_exchangeDifference : Nat := 144
abbrev mX10_snapshotDifference : Nat := 145
abbrev mX10_hasOutput : Nat := 146
abbrev mX10_changeWithout : Nat := 147
abbrev mX10_pixelsThatDiffer : Nat := 148
abbrev mX10_undo : Nat := 149
abbrev mX10_save : Nat := 150
abbrev mX10_restore : Nat := 151
abbrev mX10_within : Nat := 152
abbrev mX10_clamped : Nat := 153
abbrev mX10_divided : Nat := 154
abbrev mX11_init : Nat := 155
abbrev mX11_in : Nat := 156
abbrev mX11_floor : Nat := 157
abbrev mX11_clamp : Nat := 158
abbrev mX11_abs : Nat := 159
abbrev mX11_makeImage : Nat := 160
abbrev mX11_keep : Nat := 161
abbrev mX11_at : Nat := 162
abbrev mX11_isLayer : Nat := 163
abbrev mX11_isPixel : Nat := 164
abbrev mX11_isOn : Nat := 165
abbrev mX11_columns : Nat := 166
abbrev mX11_rows : Nat := 167
abbrev mX11_cached : Nat := 168
abbrev mX11_removeTiles : Nat := 169
abbrev mX11_reach : Nat := 170
abbrev mX11_removeAfter : Nat := 171
abbrev mX11_oldest : Nat := 172
abbrev mX11_trim : Nat := 173
abbrev mX11_enabledFrom : Nat := 174
abbrev mX11_push : Nat := 175
abbrev mX11_begin : Nat := 176
abbrev mX11_use : Nat := 177
abbrev mX11_request : Nat := 178
abbrev mX11_goOn : Nat := 179
abbrev mX11_inputAt : Nat := 180
abbrev mX11_nearest : Nat := 181
abbrev mX11_gather : Nat := 182
abbrev mX11_blur : Nat := 183
abbrev mX11_point : Nat := 184
abbrev mX11_findRange : Nat := 185
abbrev mX11_adjusted : Nat := 186
abbrev mX11_blend : Nat := 187
abbrev mX11_beyond : Nat := 188
abbrev mX11_isDabbed : Nat := 189
abbrev mX11_plainMask : Nat := 190
abbrev mX11_maskAt : Nat := 191
abbrev mX11_computeLayer : Nat := 192
abbrev mX11_compute : Nat := 193
abbrev mX11_top : Nat := 194
abbrev mX11_pixels : Nat := 195
abbrev mX11_removeAll : Nat := 196
abbrev mX11_newImage : Nat := 197
abbrev mX11_setPixel : Nat := 198
abbrev mX11_fillRectangle : Nat := 199
abbrev mX11_size : Nat := 200
abbrev mX11_leastA : Nat := 201
abbrev mX11_mostA : Nat := 202
abbrev mX11_leastB : Nat := 203
abbrev mX11_mostB : Nat := 204
abbrev mX11_isPossible : Nat := 205
abbrev mX11_layLayer : Nat := 206
abbrev mX11_addLayer : Nat := 207
abbrev mX11_setParameters : Nat := 208
abbrev mX11_setBlend : Nat := 209
abbrev mX11_setEnabled : Nat := 210
abbrev mX11_exchange : Nat := 211
abbrev mX11_moveLayer : Nat := 212
abbrev mX11_duplicateLayer : Nat := 213
abbrev mX11_cutLayers : Nat := 214
abbrev mX11_removeLayer : Nat := 215
abbrev mX11_flatten : Nat := 216
abbrev mX11_layer : Nat := 217
abbrev mX11_isNothing : Nat := 218
abbrev mX11_isMask : Nat := 219
abbrev mX11_setMaskOf : Nat := 220
abbrev mX11_setMask : Nat := 221
abbrev mX11_setFeather : Nat := 222
abbrev mX11_invertMask : Nat := 223
abbrev mX11_dab : Nat := 224
abbrev mX11_maskValue : Nat := 225
abbrev mX11_append : Nat := 226
abbrev mX11_clearText : Nat := 227
abbrev mX11_here : Nat := 228
abbrev mX11_readWord : Nat := 229
abbrev mX11_readDigits : Nat := 230
abbrev mX11_advance : Nat := 231
abbrev mX11_isFine : Nat := 232
abbrev mX11_take : Nat := 233
abbrev mX11_kindOf : Nat := 234
abbrev mX11_modeOf : Nat := 235
abbrev mX11_readNumber : Nat := 236
abbrev mX11_hasA : Nat := 237
abbrev mX11_hasB : Nat := 238
abbrev mX11_readOption : Nat := 239
abbrev mX11_readLayer : Nat := 240
abbrev mX11_loadStack : Nat := 241
abbrev mX11_pixel : Nat := 242
abbrev mX11_prefetch : Nat := 243
abbrev mX11_setCacheLimit : Nat := 244
abbrev mX11_setTileSize : Nat := 245
abbrev mX11_clearCache : Nat := 246
abbrev mX11_isCached : Nat := 247
abbrev mX11_cachedTiles : Nat := 248
abbrev mX11_counter : Nat := 249
abbrev mX11_oldestTile : Nat := 250
abbrev mX11_isOutput : Nat := 251
abbrev mX11_histogram : Nat := 252
abbrev mX11_sum : Nat := 253
abbrev mX11_layBeside : Nat := 254
abbrev mX11_effectOf : Nat := 255
abbrev mX11_effect : Nat := 256
abbrev mX11_strongestLayer : Nat := 257
abbrev mX11_differences : Nat := 258
abbrev mX11_exchangeDifference : Nat := 259
abbrev mX11_snapshotDifference : Nat := 260
abbrev mX11_undo : Nat := 261
abbrev mX11_save : Nat := 262
abbrev mX11_restore : Nat := 263
abbrev mJ9_floorDiv_7cf53 : Nat := 264
abbrev mJ9_abs_0f7a4 : Nat := 265
abbrev mJ9_max_7cf53 : Nat := 266
abbrev mJ9_min_7cf53 : Nat := 267
abbrev mJ0_length_8abf5 : Nat := 268
abbrev mJ0_charAt_5068e : Nat := 269
abbrev mJ0_coder_7d493 : Nat := 270
abbrev mJ0_isLatin1_aae02 : Nat := 271
abbrev mJ0_checkIndex_df160 : Nat := 272
abbrev mJ1_charAt_3b067 : Nat := 273
abbrev mJ3_checkIndex_8e157 : Nat := 274
abbrev mL_law : Nat := 275
def zSk : Nat → String × Nat × String := fun k => match k with
  | 0 => (RX2, 49, "levels")
  | 1 => (RX2, 51, "brightness")
  | 2 => (RX2, 53, "contrast")
  | 3 => (RX2, 55, "posterize")
  | 4 => (RX2, 57, "invert")
  | 5 => (RX2, 59, "threshold")
  | 6 => (RX2, 61, "blur")
  | 7 => (RX2, 63, "median")
  | 8 => (RX2, 65, "dilate")
  | 9 => (RX2, 67, "erode")
  | 10 => (RX2, 69, "sharpen")
  | 11 => (RX2, 71, "offset")
  | 12 => (RX2, 73, "fill")
  | 13 => (RX2, 75, "stretch")
  | 14 => (RX2, 77, "")
  | 15 => (RX8, 120, "opacity")
  | 16 => (RX8, 121, "mode")
  | 17 => (RX8, 122, "off")
  | 18 => (RX5, 28, "normal")
  | 19 => (RX5, 30, "multiply")
  | 20 => (RX5, 32, "screen")
  | 21 => (RX5, 34, "lighten")
  | 22 => (RX5, 36, "darken")
  | 23 => (RX5, 38, "difference")
  | 24 => (RX5, 40, "add")
  | 25 => (RX5, 42, "subtract")
  | 26 => (RX5, 44, "")
  | _ => ("", 0, "")
abbrev zInf : Type := MethodName × ByteArray × Nat × Option FieldType × Nat × Nat
abbrev zI0 : zInf := (⟨"?", "?", "?"⟩, ⟨#[]⟩, 0, none, 0, 0)
abbrev zI_X0_init : zInf := (yX0_init, cX0_init, 2, none, 27, 539)
abbrev zI_X0_layerCount : zInf := (yX0_layerCount, cX0_layerCount, 1, (some FieldType.int), 0, 0)
abbrev zI_X0_isFull : zInf := (yX0_isFull, cX0_isFull, 1, (some FieldType.boolean), 0, 0)
abbrev zI_X0_layerAt : zInf := (yX0_layerAt, cX0_layerAt, 2, (some (FieldType.object "AdjustmentStack$Layer")), 0, 0)
abbrev zI_X0_enabledCount : zInf := (yX0_enabledCount, cX0_enabledCount, 4, (some FieldType.int), 0, 0)
abbrev zI_X0_enabledAtMost : zInf := (yX0_enabledAtMost, cX0_enabledAtMost, 4, (some FieldType.int), 0, 0)
abbrev zI_X0_copyFrom : zInf := (yX0_copyFrom, cX0_copyFrom, 2, none, 0, 0)
abbrev zI_X0_copyLayersFrom : zInf := (yX0_copyLayersFrom, cX0_copyLayersFrom, 5, none, 0, 0)
abbrev zI_X0_removeLayers : zInf := (yX0_removeLayers, cX0_removeLayers, 1, none, 0, 0)
abbrev zI_X0_addFresh : zInf := (yX0_addFresh, cX0_addFresh, 5, (some (FieldType.object "AdjustmentStack$Layer")), 0, 0)
abbrev zI_X0_addCopyAbove : zInf := (yX0_addCopyAbove, cX0_addCopyAbove, 4, none, 0, 0)
abbrev zI_X0_takeOut : zInf := (yX0_takeOut, cX0_takeOut, 2, none, 0, 0)
abbrev zI_X0_shift : zInf := (yX0_shift, cX0_shift, 5, none, 0, 0)
abbrev zI_X0_nextLayer : zInf := (yX0_nextLayer, cX0_nextLayer, 1, (some (FieldType.object "AdjustmentStack$Layer")), 0, 0)
abbrev zI_X1_init : zInf := (yX1_init, cX1_init, 2, none, 169, 3258)
abbrev zI_X1_push : zInf := (yX1_push, cX1_push, 3, none, 0, 0)
abbrev zI_X1_pop : zInf := (yX1_pop, cX1_pop, 3, none, 0, 0)
abbrev zI_X1_discardOldest : zInf := (yX1_discardOldest, cX1_discardOldest, 3, none, 0, 0)
abbrev zI_X2_allow : zInf := (yX2_allow, cX2_allow, 3, (some FieldType.boolean), 0, 0)
abbrev zI_X2_parametersOf : zInf := (yX2_parametersOf, cX2_parametersOf, 1, (some FieldType.int), 0, 0)
abbrev zI_X2_lowestA : zInf := (yX2_lowestA, cX2_lowestA, 1, (some FieldType.int), 0, 0)
abbrev zI_X2_highestA : zInf := (yX2_highestA, cX2_highestA, 1, (some FieldType.int), 0, 0)
abbrev zI_X2_lowestB : zInf := (yX2_lowestB, cX2_lowestB, 2, (some FieldType.int), 0, 0)
abbrev zI_X2_highestB : zInf := (yX2_highestB, cX2_highestB, 1, (some FieldType.int), 0, 0)
abbrev zI_X2_entry : zInf := (yX2_entry, cX2_entry, 2, (some FieldType.int), 0, 0)
abbrev zI_X2_nameOf : zInf := (yX2_nameOf, cX2_nameOf, 1, (some (FieldType.object "java/lang/String")), 0, 0)
abbrev zI_X3_init : zInf := (yX3_init, cX3_init, 1, none, 2, 27)
abbrev zI_X3_startAs : zInf := (yX3_startAs, cX3_startAs, 4, none, 0, 0)
abbrev zI_X3_copyFrom : zInf := (yX3_copyFrom, cX3_copyFrom, 2, none, 0, 0)
abbrev zI_X3_seesNeighbourhood : zInf := (yX3_seesNeighbourhood, cX3_seesNeighbourhood, 1, (some FieldType.boolean), 0, 0)
abbrev zI_X3_reach : zInf := (yX3_reach, cX3_reach, 1, (some FieldType.int), 0, 0)
abbrev zI_X4_init : zInf := (yX4_init, cX4_init, 1, none, 1, 18)
abbrev zI_X4_allows : zInf := (yX4_allows, cX4_allows, 5, (some FieldType.boolean), 0, 0)
abbrev zI_X4_define : zInf := (yX4_define, cX4_define, 6, none, 0, 0)
abbrev zI_X4_startAnew : zInf := (yX4_startAnew, cX4_startAnew, 1, none, 0, 0)
abbrev zI_X4_copyFrom : zInf := (yX4_copyFrom, cX4_copyFrom, 3, none, 0, 0)
abbrev zI_X4_addDab : zInf := (yX4_addDab, cX4_addDab, 5, none, 0, 0)
abbrev zI_X4_weightAt : zInf := (yX4_weightAt, cX4_weightAt, 5, (some FieldType.int), 0, 0)
abbrev zI_X4_rectangleWeightAt : zInf := (yX4_rectangleWeightAt, cX4_rectangleWeightAt, 7, (some FieldType.int), 0, 0)
abbrev zI_X4_gradientWeightAt : zInf := (yX4_gradientWeightAt, cX4_gradientWeightAt, 3, (some FieldType.int), 0, 0)
abbrev zI_X4_isDabbed : zInf := (yX4_isDabbed, cX4_isDabbed, 8, (some FieldType.boolean), 0, 0)
abbrev zI_X5_blended : zInf := (yX5_blended, cX5_blended, 3, (some FieldType.int), 0, 0)
abbrev zI_X5_nameOf : zInf := (yX5_nameOf, cX5_nameOf, 1, (some (FieldType.object "java/lang/String")), 0, 0)
abbrev zI_X6_init : zInf := (yX6_init, cX6_init, 1, none, 1, 256)
abbrev zI_X6_startAs : zInf := (yX6_startAs, cX6_startAs, 5, none, 0, 0)
abbrev zI_X6_contains : zInf := (yX6_contains, cX6_contains, 3, (some FieldType.boolean), 0, 0)
abbrev zI_X6_at : zInf := (yX6_at, cX6_at, 4, (some FieldType.int), 0, 0)
abbrev zI_X6_atNearest : zInf := (yX6_atNearest, cX6_atNearest, 3, (some FieldType.int), 0, 0)
abbrev zI_X6_put : zInf := (yX6_put, cX6_put, 5, none, 0, 0)
abbrev zI_X6_copyFrom : zInf := (yX6_copyFrom, cX6_copyFrom, 4, none, 0, 0)
abbrev zI_X6_takeSizeOf : zInf := (yX6_takeSizeOf, cX6_takeSizeOf, 2, none, 0, 0)
abbrev zI_X6_hasSizeOf : zInf := (yX6_hasSizeOf, cX6_hasSizeOf, 2, (some FieldType.boolean), 0, 0)
abbrev zI_X6_absoluteDifference : zInf := (yX6_absoluteDifference, cX6_absoluteDifference, 5, (some FieldType.int), 0, 0)
abbrev zI_X6_differingPixels : zInf := (yX6_differingPixels, cX6_differingPixels, 5, (some FieldType.int), 0, 0)
abbrev zI_X7_init : zInf := (yX7_init, cX7_init, 1, none, 3, 308)
abbrev zI_X7_renderStack : zInf := (yX7_renderStack, cX7_renderStack, 6, none, 0, 0)
abbrev zI_X7_render : zInf := (yX7_render, cX7_render, 12, none, 0, 0)
abbrev zI_X7_adjusted : zInf := (yX7_adjusted, cX7_adjusted, 8, (some FieldType.int), 0, 0)
abbrev zI_X7_findExtremes : zInf := (yX7_findExtremes, cX7_findExtremes, 5, none, 0, 0)
abbrev zI_X7_gatherNeighbours : zInf := (yX7_gatherNeighbours, cX7_gatherNeighbours, 9, none, 0, 0)
abbrev zI_X7_average : zInf := (yX7_average, cX7_average, 3, (some FieldType.int), 0, 0)
abbrev zI_X7_median : zInf := (yX7_median, cX7_median, 2, (some FieldType.int), 0, 0)
abbrev zI_X7_sortNeighbours : zInf := (yX7_sortNeighbours, cX7_sortNeighbours, 4, none, 0, 0)
abbrev zI_X7_greatest : zInf := (yX7_greatest, cX7_greatest, 3, (some FieldType.int), 0, 0)
abbrev zI_X7_smallest : zInf := (yX7_smallest, cX7_smallest, 3, (some FieldType.int), 0, 0)
abbrev zI_X8_init : zInf := (yX8_init, cX8_init, 1, none, 1, 160)
abbrev zI_X8_add : zInf := (yX8_add, cX8_add, 2, none, 0, 0)
abbrev zI_X8_readInto : zInf := (yX8_readInto, cX8_readInto, 3, (some FieldType.int), 0, 0)
abbrev zI_X8_readLayer : zInf := (yX8_readLayer, cX8_readLayer, 7, none, 0, 0)
abbrev zI_X8_readNumber : zInf := (yX8_readNumber, cX8_readNumber, 5, (some FieldType.int), 0, 0)
abbrev zI_X8_readOptions : zInf := (yX8_readOptions, cX8_readOptions, 5, none, 0, 0)
abbrev zI_X8_readMode : zInf := (yX8_readMode, cX8_readMode, 3, none, 0, 0)
abbrev zI_X8_kindOfWord : zInf := (yX8_kindOfWord, cX8_kindOfWord, 2, (some FieldType.int), 0, 0)
abbrev zI_X8_modeOfWord : zInf := (yX8_modeOfWord, cX8_modeOfWord, 2, (some FieldType.int), 0, 0)
abbrev zI_X8_optionOfWord : zInf := (yX8_optionOfWord, cX8_optionOfWord, 1, (some FieldType.int), 0, 0)
abbrev zI_X8_wordIs : zInf := (yX8_wordIs, cX8_wordIs, 3, (some FieldType.boolean), 0, 0)
abbrev zI_X8_nextToken : zInf := (yX8_nextToken, cX8_nextToken, 2, none, 0, 0)
abbrev zI_X8_isNumber : zInf := (yX8_isNumber, cX8_isNumber, 2, (some FieldType.boolean), 0, 0)
abbrev zI_X8_valueOfDigits : zInf := (yX8_valueOfDigits, cX8_valueOfDigits, 3, (some FieldType.int), 0, 0)
abbrev zI_X8_endOfRun : zInf := (yX8_endOfRun, cX8_endOfRun, 5, (some FieldType.int), 0, 0)
abbrev zI_X8_characterAt : zInf := (yX8_characterAt, cX8_characterAt, 2, (some FieldType.char), 0, 0)
abbrev zI_X9_init : zInf := (yX9_init, cX9_init, 2, none, 18, 2592)
abbrev zI_X9_layerOf : zInf := (yX9_layerOf, cX9_layerOf, 1, (some FieldType.int), 0, 0)
abbrev zI_X9_columnOf : zInf := (yX9_columnOf, cX9_columnOf, 1, (some FieldType.int), 0, 0)
abbrev zI_X9_rowOf : zInf := (yX9_rowOf, cX9_rowOf, 1, (some FieldType.int), 0, 0)
abbrev zI_X9_slotOf : zInf := (yX9_slotOf, cX9_slotOf, 3, (some FieldType.int), 0, 0)
abbrev zI_X9_tileOf : zInf := (yX9_tileOf, cX9_tileOf, 2, (some FieldType.int), 0, 0)
abbrev zI_X9_outputAt : zInf := (yX9_outputAt, cX9_outputAt, 2, (some (FieldType.object "AdjustmentStack$Picture")), 0, 0)
abbrev zI_X9_holds : zInf := (yX9_holds, cX9_holds, 5, (some FieldType.boolean), 0, 0)
abbrev zI_X9_noteFound : zInf := (yX9_noteFound, cX9_noteFound, 4, none, 0, 0)
abbrev zI_X9_noteComputed : zInf := (yX9_noteComputed, cX9_noteComputed, 4, none, 0, 0)
abbrev zI_X9_use : zInf := (yX9_use, cX9_use, 2, none, 0, 0)
abbrev zI_X9_tilesOf : zInf := (yX9_tilesOf, cX9_tilesOf, 5, (some FieldType.int), 0, 0)
abbrev zI_X9_oldestSlot : zInf := (yX9_oldestSlot, cX9_oldestSlot, 4, (some FieldType.int), 0, 0)
abbrev zI_X9_dropSurplus : zInf := (yX9_dropSurplus, cX9_dropSurplus, 3, (some FieldType.int), 0, 0)
abbrev zI_X9_removeAll : zInf := (yX9_removeAll, cX9_removeAll, 1, (some FieldType.int), 0, 0)
abbrev zI_X9_removeFrom : zInf := (yX9_removeFrom, cX9_removeFrom, 2, (some FieldType.int), 0, 0)
abbrev zI_X9_removeTouched : zInf := (yX9_removeTouched, cX9_removeTouched, 9, (some FieldType.int), 0, 0)
abbrev zI_X9_removeLowest : zInf := (yX9_removeLowest, cX9_removeLowest, 6, none, 0, 0)
abbrev zI_X9_removeSlots : zInf := (yX9_removeSlots, cX9_removeSlots, 5, (some FieldType.int), 0, 0)
abbrev zI_X9_remove : zInf := (yX9_remove, cX9_remove, 2, (some FieldType.int), 0, 0)
abbrev zI_X10_init : zInf := (yX10_init, cX10_init, 1, none, 256, 7945)
abbrev zI_X10_newImage : zInf := (yX10_newImage, cX10_newImage, 3, (some FieldType.int), 0, 0)
abbrev zI_X10_setPixel : zInf := (yX10_setPixel, cX10_setPixel, 4, (some FieldType.int), 0, 0)
abbrev zI_X10_fillRectangle : zInf := (yX10_fillRectangle, cX10_fillRectangle, 8, (some FieldType.int), 0, 0)
abbrev zI_X10_size : zInf := (yX10_size, cX10_size, 2, (some FieldType.int), 0, 0)
abbrev zI_X10_paint : zInf := (yX10_paint, cX10_paint, 8, (some FieldType.int), 0, 0)
abbrev zI_X10_removeTilesThatSee : zInf := (yX10_removeTilesThatSee, cX10_removeTilesThatSee, 9, (some FieldType.int), 0, 0)
abbrev zI_X10_addLayer : zInf := (yX10_addLayer, cX10_addLayer, 4, (some FieldType.int), 0, 0)
abbrev zI_X10_setParameters : zInf := (yX10_setParameters, cX10_setParameters, 6, (some FieldType.int), 0, 0)
abbrev zI_X10_setBlend : zInf := (yX10_setBlend, cX10_setBlend, 6, (some FieldType.int), 0, 0)
abbrev zI_X10_setEnabled : zInf := (yX10_setEnabled, cX10_setEnabled, 5, (some FieldType.int), 0, 0)
abbrev zI_X10_moveLayer : zInf := (yX10_moveLayer, cX10_moveLayer, 4, (some FieldType.int), 0, 0)
abbrev zI_X10_duplicateLayer : zInf := (yX10_duplicateLayer, cX10_duplicateLayer, 2, (some FieldType.int), 0, 0)
abbrev zI_X10_removeLayer : zInf := (yX10_removeLayer, cX10_removeLayer, 2, (some FieldType.int), 0, 0)
abbrev zI_X10_flatten : zInf := (yX10_flatten, cX10_flatten, 3, (some FieldType.int), 0, 0)
abbrev zI_X10_layer : zInf := (yX10_layer, cX10_layer, 4, (some FieldType.int), 0, 0)
abbrev zI_X10_startChangeOf : zInf := (yX10_startChangeOf, cX10_startChangeOf, 2, none, 0, 0)
abbrev zI_X10_setMask : zInf := (yX10_setMask, cX10_setMask, 9, (some FieldType.int), 0, 0)
abbrev zI_X10_setFeather : zInf := (yX10_setFeather, cX10_setFeather, 5, (some FieldType.int), 0, 0)
abbrev zI_X10_invertMask : zInf := (yX10_invertMask, cX10_invertMask, 3, (some FieldType.int), 0, 0)
abbrev zI_X10_dab : zInf := (yX10_dab, cX10_dab, 6, (some FieldType.int), 0, 0)
abbrev zI_X10_maskValue : zInf := (yX10_maskValue, cX10_maskValue, 5, (some FieldType.int), 0, 0)
abbrev zI_X10_append : zInf := (yX10_append, cX10_append, 2, (some FieldType.int), 0, 0)
abbrev zI_X10_clearText : zInf := (yX10_clearText, cX10_clearText, 2, (some FieldType.int), 0, 0)
abbrev zI_X10_loadStack : zInf := (yX10_loadStack, cX10_loadStack, 2, (some FieldType.int), 0, 0)
abbrev zI_X10_pixel : zInf := (yX10_pixel, cX10_pixel, 5, (some FieldType.int), 0, 0)
abbrev zI_X10_prefetch : zInf := (yX10_prefetch, cX10_prefetch, 5, (some FieldType.int), 0, 0)
abbrev zI_X10_setCacheLimit : zInf := (yX10_setCacheLimit, cX10_setCacheLimit, 2, (some FieldType.int), 0, 0)
abbrev zI_X10_setTileSize : zInf := (yX10_setTileSize, cX10_setTileSize, 2, (some FieldType.int), 0, 0)
abbrev zI_X10_clearCache : zInf := (yX10_clearCache, cX10_clearCache, 1, (some FieldType.int), 0, 0)
abbrev zI_X10_isCached : zInf := (yX10_isCached, cX10_isCached, 4, (some FieldType.int), 0, 0)
abbrev zI_X10_cachedTiles : zInf := (yX10_cachedTiles, cX10_cachedTiles, 2, (some FieldType.int), 0, 0)
abbrev zI_X10_counter : zInf := (yX10_counter, cX10_counter, 2, (some FieldType.int), 0, 0)
abbrev zI_X10_oldestTile : zInf := (yX10_oldestTile, cX10_oldestTile, 2, (some FieldType.int), 0, 0)
abbrev zI_X10_tileColumns : zInf := (yX10_tileColumns, cX10_tileColumns, 1, (some FieldType.int), 0, 0)
abbrev zI_X10_tileRows : zInf := (yX10_tileRows, cX10_tileRows, 1, (some FieldType.int), 0, 0)
abbrev zI_X10_requestTile : zInf := (yX10_requestTile, cX10_requestTile, 9, none, 0, 0)
abbrev zI_X10_requestInput : zInf := (yX10_requestInput, cX10_requestInput, 12, none, 0, 0)
abbrev zI_X10_pictureOf : zInf := (yX10_pictureOf, cX10_pictureOf, 3, (some (FieldType.object "AdjustmentStack$Picture")), 0, 0)
abbrev zI_X10_histogram : zInf := (yX10_histogram, cX10_histogram, 7, (some FieldType.int), 0, 0)
abbrev zI_X10_sum : zInf := (yX10_sum, cX10_sum, 5, (some FieldType.int), 0, 0)
abbrev zI_X10_effect : zInf := (yX10_effect, cX10_effect, 2, (some FieldType.int), 0, 0)
abbrev zI_X10_strongestLayer : zInf := (yX10_strongestLayer, cX10_strongestLayer, 5, (some FieldType.int), 0, 0)
abbrev zI_X10_exchangeDifference : zInf := (yX10_exchangeDifference, cX10_exchangeDifference, 2, (some FieldType.int), 0, 0)
abbrev zI_X10_snapshotDifference : zInf := (yX10_snapshotDifference, cX10_snapshotDifference, 3, (some FieldType.int), 0, 0)
abbrev zI_X10_hasOutput : zInf := (yX10_hasOutput, cX10_hasOutput, 2, (some FieldType.boolean), 0, 0)
abbrev zI_X10_changeWithout : zInf := (yX10_changeWithout, cX10_changeWithout, 3, (some FieldType.int), 0, 0)
abbrev zI_X10_pixelsThatDiffer : zInf := (yX10_pixelsThatDiffer, cX10_pixelsThatDiffer, 2, (some FieldType.int), 0, 0)
abbrev zI_X10_undo : zInf := (yX10_undo, cX10_undo, 1, (some FieldType.int), 0, 0)
abbrev zI_X10_save : zInf := (yX10_save, cX10_save, 3, (some FieldType.int), 28, 542)
abbrev zI_X10_restore : zInf := (yX10_restore, cX10_restore, 3, (some FieldType.int), 0, 0)
abbrev zI_X10_within : zInf := (yX10_within, cX10_within, 3, (some FieldType.boolean), 0, 0)
abbrev zI_X10_clamped : zInf := (yX10_clamped, cX10_clamped, 1, (some FieldType.int), 0, 0)
abbrev zI_X10_divided : zInf := (yX10_divided, cX10_divided, 2, (some FieldType.int), 0, 0)
abbrev zI_X11_init : zInf := (yX11_init, cX11_init, 1, none, 21, 8773)
abbrev zI_X11_in : zInf := (yX11_in, cX11_in, 3, (some FieldType.boolean), 0, 0)
abbrev zI_X11_floor : zInf := (yX11_floor, cX11_floor, 2, (some FieldType.int), 0, 0)
abbrev zI_X11_clamp : zInf := (yX11_clamp, cX11_clamp, 1, (some FieldType.int), 0, 0)
abbrev zI_X11_abs : zInf := (yX11_abs, cX11_abs, 1, (some FieldType.int), 0, 0)
abbrev zI_X11_makeImage : zInf := (yX11_makeImage, cX11_makeImage, 4, none, 0, 0)
abbrev zI_X11_keep : zInf := (yX11_keep, cX11_keep, 2, none, 0, 0)
abbrev zI_X11_at : zInf := (yX11_at, cX11_at, 1, (some FieldType.int), 0, 0)
abbrev zI_X11_isLayer : zInf := (yX11_isLayer, cX11_isLayer, 2, (some FieldType.boolean), 0, 0)
abbrev zI_X11_isPixel : zInf := (yX11_isPixel, cX11_isPixel, 3, (some FieldType.boolean), 0, 0)
abbrev zI_X11_isOn : zInf := (yX11_isOn, cX11_isOn, 2, (some FieldType.boolean), 0, 0)
abbrev zI_X11_columns : zInf := (yX11_columns, cX11_columns, 1, (some FieldType.int), 0, 0)
abbrev zI_X11_rows : zInf := (yX11_rows, cX11_rows, 1, (some FieldType.int), 0, 0)
abbrev zI_X11_cached : zInf := (yX11_cached, cX11_cached, 3, (some FieldType.int), 0, 0)
abbrev zI_X11_removeTiles : zInf := (yX11_removeTiles, cX11_removeTiles, 5, (some FieldType.int), 0, 0)
abbrev zI_X11_reach : zInf := (yX11_reach, cX11_reach, 5, (some FieldType.int), 0, 0)
abbrev zI_X11_removeAfter : zInf := (yX11_removeAfter, cX11_removeAfter, 15, (some FieldType.int), 0, 0)
abbrev zI_X11_oldest : zInf := (yX11_oldest, cX11_oldest, 3, (some FieldType.int), 0, 0)
abbrev zI_X11_trim : zInf := (yX11_trim, cX11_trim, 3, (some FieldType.int), 0, 0)
abbrev zI_X11_enabledFrom : zInf := (yX11_enabledFrom, cX11_enabledFrom, 3, (some FieldType.int), 0, 0)
abbrev zI_X11_push : zInf := (yX11_push, cX11_push, 3, none, 0, 0)
abbrev zI_X11_begin : zInf := (yX11_begin, cX11_begin, 9, none, 0, 0)
abbrev zI_X11_use : zInf := (yX11_use, cX11_use, 3, none, 0, 0)
abbrev zI_X11_request : zInf := (yX11_request, cX11_request, 5, none, 0, 0)
abbrev zI_X11_goOn : zInf := (yX11_goOn, cX11_goOn, 2, none, 0, 0)
abbrev zI_X11_inputAt : zInf := (yX11_inputAt, cX11_inputAt, 4, (some FieldType.int), 0, 0)
abbrev zI_X11_nearest : zInf := (yX11_nearest, cX11_nearest, 2, (some FieldType.int), 0, 0)
abbrev zI_X11_gather : zInf := (yX11_gather, cX11_gather, 10, (some FieldType.int), 0, 0)
abbrev zI_X11_blur : zInf := (yX11_blur, cX11_blur, 9, (some FieldType.int), 0, 0)
abbrev zI_X11_point : zInf := (yX11_point, cX11_point, 5, (some FieldType.int), 0, 0)
abbrev zI_X11_findRange : zInf := (yX11_findRange, cX11_findRange, 3, none, 0, 0)
abbrev zI_X11_adjusted : zInf := (yX11_adjusted, cX11_adjusted, 9, (some FieldType.int), 0, 0)
abbrev zI_X11_blend : zInf := (yX11_blend, cX11_blend, 3, (some FieldType.int), 0, 0)
abbrev zI_X11_beyond : zInf := (yX11_beyond, cX11_beyond, 3, (some FieldType.int), 0, 0)
abbrev zI_X11_isDabbed : zInf := (yX11_isDabbed, cX11_isDabbed, 9, (some FieldType.boolean), 0, 0)
abbrev zI_X11_plainMask : zInf := (yX11_plainMask, cX11_plainMask, 13, (some FieldType.int), 0, 0)
abbrev zI_X11_maskAt : zInf := (yX11_maskAt, cX11_maskAt, 6, (some FieldType.int), 0, 0)
abbrev zI_X11_computeLayer : zInf := (yX11_computeLayer, cX11_computeLayer, 9, none, 0, 0)
abbrev zI_X11_compute : zInf := (yX11_compute, cX11_compute, 3, (some FieldType.int), 0, 0)
abbrev zI_X11_top : zInf := (yX11_top, cX11_top, 1, (some FieldType.int), 0, 0)
abbrev zI_X11_pixels : zInf := (yX11_pixels, cX11_pixels, 1, (some FieldType.int), 0, 0)
abbrev zI_X11_removeAll : zInf := (yX11_removeAll, cX11_removeAll, 1, (some FieldType.int), 0, 0)
abbrev zI_X11_newImage : zInf := (yX11_newImage, cX11_newImage, 3, (some FieldType.int), 0, 0)
abbrev zI_X11_setPixel : zInf := (yX11_setPixel, cX11_setPixel, 4, (some FieldType.int), 0, 0)
abbrev zI_X11_fillRectangle : zInf := (yX11_fillRectangle, cX11_fillRectangle, 9, (some FieldType.int), 0, 0)
abbrev zI_X11_size : zInf := (yX11_size, cX11_size, 2, (some FieldType.int), 0, 0)
abbrev zI_X11_leastA : zInf := (yX11_leastA, cX11_leastA, 1, (some FieldType.int), 0, 0)
abbrev zI_X11_mostA : zInf := (yX11_mostA, cX11_mostA, 1, (some FieldType.int), 0, 0)
abbrev zI_X11_leastB : zInf := (yX11_leastB, cX11_leastB, 2, (some FieldType.int), 0, 0)
abbrev zI_X11_mostB : zInf := (yX11_mostB, cX11_mostB, 1, (some FieldType.int), 0, 0)
abbrev zI_X11_isPossible : zInf := (yX11_isPossible, cX11_isPossible, 3, (some FieldType.boolean), 0, 0)
abbrev zI_X11_layLayer : zInf := (yX11_layLayer, cX11_layLayer, 7, none, 0, 0)
abbrev zI_X11_addLayer : zInf := (yX11_addLayer, cX11_addLayer, 4, (some FieldType.int), 0, 0)
abbrev zI_X11_setParameters : zInf := (yX11_setParameters, cX11_setParameters, 5, (some FieldType.int), 0, 0)
abbrev zI_X11_setBlend : zInf := (yX11_setBlend, cX11_setBlend, 5, (some FieldType.int), 0, 0)
abbrev zI_X11_setEnabled : zInf := (yX11_setEnabled, cX11_setEnabled, 5, (some FieldType.int), 0, 0)
abbrev zI_X11_exchange : zInf := (yX11_exchange, cX11_exchange, 5, none, 0, 0)
abbrev zI_X11_moveLayer : zInf := (yX11_moveLayer, cX11_moveLayer, 5, (some FieldType.int), 0, 0)
abbrev zI_X11_duplicateLayer : zInf := (yX11_duplicateLayer, cX11_duplicateLayer, 3, (some FieldType.int), 0, 0)
abbrev zI_X11_cutLayers : zInf := (yX11_cutLayers, cX11_cutLayers, 4, none, 0, 0)
abbrev zI_X11_removeLayer : zInf := (yX11_removeLayer, cX11_removeLayer, 2, (some FieldType.int), 0, 0)
abbrev zI_X11_flatten : zInf := (yX11_flatten, cX11_flatten, 5, (some FieldType.int), 0, 0)
abbrev zI_X11_layer : zInf := (yX11_layer, cX11_layer, 4, (some FieldType.int), 0, 0)
abbrev zI_X11_isNothing : zInf := (yX11_isNothing, cX11_isNothing, 4, (some FieldType.boolean), 0, 0)
abbrev zI_X11_isMask : zInf := (yX11_isMask, cX11_isMask, 5, (some FieldType.boolean), 0, 0)
abbrev zI_X11_setMaskOf : zInf := (yX11_setMaskOf, cX11_setMaskOf, 7, none, 0, 0)
abbrev zI_X11_setMask : zInf := (yX11_setMask, cX11_setMask, 8, (some FieldType.int), 0, 0)
abbrev zI_X11_setFeather : zInf := (yX11_setFeather, cX11_setFeather, 4, (some FieldType.int), 0, 0)
abbrev zI_X11_invertMask : zInf := (yX11_invertMask, cX11_invertMask, 2, (some FieldType.int), 0, 0)
abbrev zI_X11_dab : zInf := (yX11_dab, cX11_dab, 7, (some FieldType.int), 0, 0)
abbrev zI_X11_maskValue : zInf := (yX11_maskValue, cX11_maskValue, 5, (some FieldType.int), 0, 0)
abbrev zI_X11_append : zInf := (yX11_append, cX11_append, 2, (some FieldType.int), 0, 0)
abbrev zI_X11_clearText : zInf := (yX11_clearText, cX11_clearText, 2, (some FieldType.int), 0, 0)
abbrev zI_X11_here : zInf := (yX11_here, cX11_here, 1, (some FieldType.int), 0, 0)
abbrev zI_X11_readWord : zInf := (yX11_readWord, cX11_readWord, 1, none, 0, 0)
abbrev zI_X11_readDigits : zInf := (yX11_readDigits, cX11_readDigits, 2, none, 0, 0)
abbrev zI_X11_advance : zInf := (yX11_advance, cX11_advance, 2, none, 0, 0)
abbrev zI_X11_isFine : zInf := (yX11_isFine, cX11_isFine, 1, (some FieldType.boolean), 0, 0)
abbrev zI_X11_take : zInf := (yX11_take, cX11_take, 2, none, 0, 0)
abbrev zI_X11_kindOf : zInf := (yX11_kindOf, cX11_kindOf, 1, (some FieldType.int), 0, 0)
abbrev zI_X11_modeOf : zInf := (yX11_modeOf, cX11_modeOf, 1, (some FieldType.int), 0, 0)
abbrev zI_X11_readNumber : zInf := (yX11_readNumber, cX11_readNumber, 5, (some FieldType.int), 0, 0)
abbrev zI_X11_hasA : zInf := (yX11_hasA, cX11_hasA, 1, (some FieldType.boolean), 0, 0)
abbrev zI_X11_hasB : zInf := (yX11_hasB, cX11_hasB, 1, (some FieldType.boolean), 0, 0)
abbrev zI_X11_readOption : zInf := (yX11_readOption, cX11_readOption, 3, none, 0, 0)
abbrev zI_X11_readLayer : zInf := (yX11_readLayer, cX11_readLayer, 5, none, 0, 0)
abbrev zI_X11_loadStack : zInf := (yX11_loadStack, cX11_loadStack, 2, (some FieldType.int), 0, 0)
abbrev zI_X11_pixel : zInf := (yX11_pixel, cX11_pixel, 5, (some FieldType.int), 0, 0)
abbrev zI_X11_prefetch : zInf := (yX11_prefetch, cX11_prefetch, 5, (some FieldType.int), 0, 0)
abbrev zI_X11_setCacheLimit : zInf := (yX11_setCacheLimit, cX11_setCacheLimit, 2, (some FieldType.int), 0, 0)
abbrev zI_X11_setTileSize : zInf := (yX11_setTileSize, cX11_setTileSize, 2, (some FieldType.int), 0, 0)
abbrev zI_X11_clearCache : zInf := (yX11_clearCache, cX11_clearCache, 1, (some FieldType.int), 0, 0)
abbrev zI_X11_isCached : zInf := (yX11_isCached, cX11_isCached, 4, (some FieldType.int), 0, 0)
abbrev zI_X11_cachedTiles : zInf := (yX11_cachedTiles, cX11_cachedTiles, 4, (some FieldType.int), 0, 0)
abbrev zI_X11_counter : zInf := (yX11_counter, cX11_counter, 2, (some FieldType.int), 0, 0)
abbrev zI_X11_oldestTile : zInf := (yX11_oldestTile, cX11_oldestTile, 2, (some FieldType.int), 0, 0)
abbrev zI_X11_isOutput : zInf := (yX11_isOutput, cX11_isOutput, 2, (some FieldType.boolean), 0, 0)
abbrev zI_X11_histogram : zInf := (yX11_histogram, cX11_histogram, 7, (some FieldType.int), 0, 0)
abbrev zI_X11_sum : zInf := (yX11_sum, cX11_sum, 5, (some FieldType.int), 0, 0)
abbrev zI_X11_layBeside : zInf := (yX11_layBeside, cX11_layBeside, 3, none, 0, 0)
abbrev zI_X11_effectOf : zInf := (yX11_effectOf, cX11_effectOf, 6, (some FieldType.int), 0, 0)
abbrev zI_X11_effect : zInf := (yX11_effect, cX11_effect, 2, (some FieldType.int), 0, 0)
abbrev zI_X11_strongestLayer : zInf := (yX11_strongestLayer, cX11_strongestLayer, 5, (some FieldType.int), 0, 0)
abbrev zI_X11_differences : zInf := (yX11_differences, cX11_differences, 4, (some FieldType.int), 0, 0)
abbrev zI_X11_exchangeDifference : zInf := (yX11_exchangeDifference, cX11_exchangeDifference, 3, (some FieldType.int), 0, 0)
abbrev zI_X11_snapshotDifference : zInf := (yX11_snapshotDifference, cX11_snapshotDifference, 4, (some FieldType.int), 0, 0)
abbrev zI_X11_undo : zInf := (yX11_undo, cX11_undo, 2, (some FieldType.int), 0, 0)
abbrev zI_X11_save : zInf := (yX11_save, cX11_save, 3, (some FieldType.int), 0, 0)
abbrev zI_X11_restore : zInf := (yX11_restore, cX11_restore, 3, (some FieldType.int), 0, 0)
abbrev zI_J9_floorDiv_7cf53 : zInf := (yJ9_floorDiv_7cf53, cJ9_floorDiv_7cf53, 3, (some FieldType.int), 0, 0)
abbrev zI_J9_abs_0f7a4 : zInf := (yJ9_abs_0f7a4, cJ9_abs_0f7a4, 1, (some FieldType.int), 0, 0)
abbrev zI_J9_max_7cf53 : zInf := (yJ9_max_7cf53, cJ9_max_7cf53, 2, (some FieldType.int), 0, 0)
abbrev zI_J9_min_7cf53 : zInf := (yJ9_min_7cf53, cJ9_min_7cf53, 2, (some FieldType.int), 0, 0)
abbrev zI_J0_length_8abf5 : zInf := (yJ0_length_8abf5, cJ0_length_8abf5, 1, (some FieldType.int), 0, 0)
abbrev zI_J0_charAt_5068e : zInf := (yJ0_charAt_5068e, cJ0_charAt_5068e, 2, (some FieldType.char), 0, 0)
abbrev zI_J0_coder_7d493 : zInf := (yJ0_coder_7d493, cJ0_coder_7d493, 1, (some FieldType.byte), 0, 0)
abbrev zI_J0_isLatin1_aae02 : zInf := (yJ0_isLatin1_aae02, cJ0_isLatin1_aae02, 1, (some FieldType.boolean), 0, 0)
abbrev zI_J0_checkIndex_df160 : zInf := (yJ0_checkIndex_df160, cJ0_checkIndex_df160, 2, none, 0, 0)
abbrev zI_J1_charAt_3b067 : zInf := (yJ1_charAt_3b067, cJ1_charAt_3b067, 2, (some FieldType.char), 0, 0)
abbrev zI_J3_checkIndex_8e157 : zInf := (yJ3_checkIndex_8e157, cJ3_checkIndex_8e157, 3, (some FieldType.int), 0, 0)
abbrev zI_L_law : zInf := (yL_law, cL_law, 4, (some FieldType.boolean), 600000, 7302250)
def zMi (y : Nat) : zInf := cond (Nat.blt y 138) (cond (Nat.blt y 69) (cond (Nat.blt y 34) (cond (Nat.blt y 17) (cond (Nat.blt y 8) (cond (Nat.blt y 4) (cond (Nat.blt y 2) (cond (Nat.blt y 1) (cond (Nat.beq y 0) zI_X0_init zI0) (cond (Nat.beq y 1) zI_X0_layerCount zI0)) (cond (Nat.blt y 3) (cond (Nat.beq y 2) zI_X0_isFull zI0) (cond (Nat.beq y 3) zI_X0_layerAt zI0))) (cond (Nat.blt y 6) (cond (Nat.blt y 5) (cond (Nat.beq y 4) zI_X0_enabledCount zI0) (cond (Nat.beq y 5) zI_X0_enabledAtMost zI0)) (cond (Nat.blt y 7) (cond (Nat.beq y 6) zI_X0_copyFrom zI0) (cond (Nat.beq y 7) zI_X0_copyLayersFrom zI0)))) (cond (Nat.blt y 12) (cond (Nat.blt y 10) (cond (Nat.blt y 9) (cond (Nat.beq y 8) zI_X0_removeLayers zI0) (cond (Nat.beq y 9) zI_X0_addFresh zI0)) (cond (Nat.blt y 11) (cond (Nat.beq y 10) zI_X0_addCopyAbove zI0) (cond (Nat.beq y 11) zI_X0_takeOut zI0))) (cond (Nat.blt y 14) (cond (Nat.blt y 13) (cond (Nat.beq y 12) zI_X0_shift zI0) (cond (Nat.beq y 13) zI_X0_nextLayer zI0)) (cond (Nat.blt y 15) (cond (Nat.beq y 14) zI_X1_init zI0) (cond (Nat.blt y 16) (cond (Nat.beq y 15) zI_X1_push zI0) (cond (Nat.beq y 16) zI_X1_pop zI0)))))) (cond (Nat.blt y 25) (cond (Nat.blt y 21) (cond (Nat.blt y 19) (cond (Nat.blt y 18) (cond (Nat.beq y 17) zI_X1_discardOldest zI0) (cond (Nat.beq y 18) zI_X2_allow zI0)) (cond (Nat.blt y 20) (cond (Nat.beq y 19) zI_X2_parametersOf zI0) (cond (Nat.beq y 20) zI_X2_lowestA zI0))) (cond (Nat.blt y 23) (cond (Nat.blt y 22) (cond (Nat.beq y 21) zI_X2_highestA zI0) (cond (Nat.beq y 22) zI_X2_lowestB zI0)) (cond (Nat.blt y 24) (cond (Nat.beq y 23) zI_X2_highestB zI0) (cond (Nat.beq y 24) zI_X2_entry zI0)))) (cond (Nat.blt y 29) (cond (Nat.blt y 27) (cond (Nat.blt y 26) (cond (Nat.beq y 25) zI_X2_nameOf zI0) (cond (Nat.beq y 26) zI_X3_init zI0)) (cond (Nat.blt y 28) (cond (Nat.beq y 27) zI_X3_startAs zI0) (cond (Nat.beq y 28) zI_X3_copyFrom zI0))) (cond (Nat.blt y 31) (cond (Nat.blt y 30) (cond (Nat.beq y 29) zI_X3_seesNeighbourhood zI0) (cond (Nat.beq y 30) zI_X3_reach zI0)) (cond (Nat.blt y 32) (cond (Nat.beq y 31) zI_X4_init zI0) (cond (Nat.blt y 33) (cond (Nat.beq y 32) zI_X4_allows zI0) (cond (Nat.beq y 33) zI_X4_define zI0))))))) (cond (Nat.blt y 51) (cond (Nat.blt y 42) (cond (Nat.blt y 38) (cond (Nat.blt y 36) (cond (Nat.blt y 35) (cond (Nat.beq y 34) zI_X4_startAnew zI0) (cond (Nat.beq y 35) zI_X4_copyFrom zI0)) (cond (Nat.blt y 37) (cond (Nat.beq y 36) zI_X4_addDab zI0) (cond (Nat.beq y 37) zI_X4_weightAt zI0))) (cond (Nat.blt y 40) (cond (Nat.blt y 39) (cond (Nat.beq y 38) zI_X4_rectangleWeightAt zI0) (cond (Nat.beq y 39) zI_X4_gradientWeightAt zI0)) (cond (Nat.blt y 41) (cond (Nat.beq y 40) zI_X4_isDabbed zI0) (cond (Nat.beq y 41) zI_X5_blended zI0)))) (cond (Nat.blt y 46) (cond (Nat.blt y 44) (cond (Nat.blt y 43) (cond (Nat.beq y 42) zI_X5_nameOf zI0) (cond (Nat.beq y 43) zI_X6_init zI0)) (cond (Nat.blt y 45) (cond (Nat.beq y 44) zI_X6_startAs zI0) (cond (Nat.beq y 45) zI_X6_contains zI0))) (cond (Nat.blt y 48) (cond (Nat.blt y 47) (cond (Nat.beq y 46) zI_X6_at zI0) (cond (Nat.beq y 47) zI_X6_atNearest zI0)) (cond (Nat.blt y 49) (cond (Nat.beq y 48) zI_X6_put zI0) (cond (Nat.blt y 50) (cond (Nat.beq y 49) zI_X6_copyFrom zI0) (cond (Nat.beq y 50) zI_X6_takeSizeOf zI0)))))) (cond (Nat.blt y 60) (cond (Nat.blt y 55) (cond (Nat.blt y 53) (cond (Nat.blt y 52) (cond (Nat.beq y 51) zI_X6_hasSizeOf zI0) (cond (Nat.beq y 52) zI_X6_absoluteDifference zI0)) (cond (Nat.blt y 54) (cond (Nat.beq y 53) zI_X6_differingPixels zI0) (cond (Nat.beq y 54) zI_X7_init zI0))) (cond (Nat.blt y 57) (cond (Nat.blt y 56) (cond (Nat.beq y 55) zI_X7_renderStack zI0) (cond (Nat.beq y 56) zI_X7_render zI0)) (cond (Nat.blt y 58) (cond (Nat.beq y 57) zI_X7_adjusted zI0) (cond (Nat.blt y 59) (cond (Nat.beq y 58) zI_X7_findExtremes zI0) (cond (Nat.beq y 59) zI_X7_gatherNeighbours zI0))))) (cond (Nat.blt y 64) (cond (Nat.blt y 62) (cond (Nat.blt y 61) (cond (Nat.beq y 60) zI_X7_average zI0) (cond (Nat.beq y 61) zI_X7_median zI0)) (cond (Nat.blt y 63) (cond (Nat.beq y 62) zI_X7_sortNeighbours zI0) (cond (Nat.beq y 63) zI_X7_greatest zI0))) (cond (Nat.blt y 66) (cond (Nat.blt y 65) (cond (Nat.beq y 64) zI_X7_smallest zI0) (cond (Nat.beq y 65) zI_X8_init zI0)) (cond (Nat.blt y 67) (cond (Nat.beq y 66) zI_X8_add zI0) (cond (Nat.blt y 68) (cond (Nat.beq y 67) zI_X8_readInto zI0) (cond (Nat.beq y 68) zI_X8_readLayer zI0)))))))) (cond (Nat.blt y 103) (cond (Nat.blt y 86) (cond (Nat.blt y 77) (cond (Nat.blt y 73) (cond (Nat.blt y 71) (cond (Nat.blt y 70) (cond (Nat.beq y 69) zI_X8_readNumber zI0) (cond (Nat.beq y 70) zI_X8_readOptions zI0)) (cond (Nat.blt y 72) (cond (Nat.beq y 71) zI_X8_readMode zI0) (cond (Nat.beq y 72) zI_X8_kindOfWord zI0))) (cond (Nat.blt y 75) (cond (Nat.blt y 74) (cond (Nat.beq y 73) zI_X8_modeOfWord zI0) (cond (Nat.beq y 74) zI_X8_optionOfWord zI0)) (cond (Nat.blt y 76) (cond (Nat.beq y 75) zI_X8_wordIs zI0) (cond (Nat.beq y 76) zI_X8_nextToken zI0)))) (cond (Nat.blt y 81) (cond (Nat.blt y 79) (cond (Nat.blt y 78) (cond (Nat.beq y 77) zI_X8_isNumber zI0) (cond (Nat.beq y 78) zI_X8_valueOfDigits zI0)) (cond (Nat.blt y 80) (cond (Nat.beq y 79) zI_X8_endOfRun zI0) (cond (Nat.beq y 80) zI_X8_characterAt zI0))) (cond (Nat.blt y 83) (cond (Nat.blt y 82) (cond (Nat.beq y 81) zI_X9_init zI0) (cond (Nat.beq y 82) zI_X9_layerOf zI0)) (cond (Nat.blt y 84) (cond (Nat.beq y 83) zI_X9_columnOf zI0) (cond (Nat.blt y 85) (cond (Nat.beq y 84) zI_X9_rowOf zI0) (cond (Nat.beq y 85) zI_X9_slotOf zI0)))))) (cond (Nat.blt y 94) (cond (Nat.blt y 90) (cond (Nat.blt y 88) (cond (Nat.blt y 87) (cond (Nat.beq y 86) zI_X9_tileOf zI0) (cond (Nat.beq y 87) zI_X9_outputAt zI0)) (cond (Nat.blt y 89) (cond (Nat.beq y 88) zI_X9_holds zI0) (cond (Nat.beq y 89) zI_X9_noteFound zI0))) (cond (Nat.blt y 92) (cond (Nat.blt y 91) (cond (Nat.beq y 90) zI_X9_noteComputed zI0) (cond (Nat.beq y 91) zI_X9_use zI0)) (cond (Nat.blt y 93) (cond (Nat.beq y 92) zI_X9_tilesOf zI0) (cond (Nat.beq y 93) zI_X9_oldestSlot zI0)))) (cond (Nat.blt y 98) (cond (Nat.blt y 96) (cond (Nat.blt y 95) (cond (Nat.beq y 94) zI_X9_dropSurplus zI0) (cond (Nat.beq y 95) zI_X9_removeAll zI0)) (cond (Nat.blt y 97) (cond (Nat.beq y 96) zI_X9_removeFrom zI0) (cond (Nat.beq y 97) zI_X9_removeTouched zI0))) (cond (Nat.blt y 100) (cond (Nat.blt y 99) (cond (Nat.beq y 98) zI_X9_removeLowest zI0) (cond (Nat.beq y 99) zI_X9_removeSlots zI0)) (cond (Nat.blt y 101) (cond (Nat.beq y 100) zI_X9_remove zI0) (cond (Nat.blt y 102) (cond (Nat.beq y 101) zI_X10_init zI0) (cond (Nat.beq y 102) zI_X10_newImage zI0))))))) (cond (Nat.blt y 120) (cond (Nat.blt y 111) (cond (Nat.blt y 107) (cond (Nat.blt y 105) (cond (Nat.blt y 104) (cond (Nat.beq y 103) zI_X10_setPixel zI0) (cond (Nat.beq y 104) zI_X10_fillRectangle zI0)) (cond (Nat.blt y 106) (cond (Nat.beq y 105) zI_X10_size zI0) (cond (Nat.beq y 106) zI_X10_paint zI0))) (cond (Nat.blt y 109) (cond (Nat.blt y 108) (cond (Nat.beq y 107) zI_X10_removeTilesThatSee zI0) (cond (Nat.beq y 108) zI_X10_addLayer zI0)) (cond (Nat.blt y 110) (cond (Nat.beq y 109) zI_X10_setParameters zI0) (cond (Nat.beq y 110) zI_X10_setBlend zI0)))) (cond (Nat.blt y 115) (cond (Nat.blt y 113) (cond (Nat.blt y 112) (cond (Nat.beq y 111) zI_X10_setEnabled zI0) (cond (Nat.beq y 112) zI_X10_moveLayer zI0)) (cond (Nat.blt y 114) (cond (Nat.beq y 113) zI_X10_duplicateLayer zI0) (cond (Nat.beq y 114) zI_X10_removeLayer zI0))) (cond (Nat.blt y 117) (cond (Nat.blt y 116) (cond (Nat.beq y 115) zI_X10_flatten zI0) (cond (Nat.beq y 116) zI_X10_layer zI0)) (cond (Nat.blt y 118) (cond (Nat.beq y 117) zI_X10_startChangeOf zI0) (cond (Nat.blt y 119) (cond (Nat.beq y 118) zI_X10_setMask zI0) (cond (Nat.beq y 119) zI_X10_setFeather zI0)))))) (cond (Nat.blt y 129) (cond (Nat.blt y 124) (cond (Nat.blt y 122) (cond (Nat.blt y 121) (cond (Nat.beq y 120) zI_X10_invertMask zI0) (cond (Nat.beq y 121) zI_X10_dab zI0)) (cond (Nat.blt y 123) (cond (Nat.beq y 122) zI_X10_maskValue zI0) (cond (Nat.beq y 123) zI_X10_append zI0))) (cond (Nat.blt y 126) (cond (Nat.blt y 125) (cond (Nat.beq y 124) zI_X10_clearText zI0) (cond (Nat.beq y 125) zI_X10_loadStack zI0)) (cond (Nat.blt y 127) (cond (Nat.beq y 126) zI_X10_pixel zI0) (cond (Nat.blt y 128) (cond (Nat.beq y 127) zI_X10_prefetch zI0) (cond (Nat.beq y 128) zI_X10_setCacheLimit zI0))))) (cond (Nat.blt y 133) (cond (Nat.blt y 131) (cond (Nat.blt y 130) (cond (Nat.beq y 129) zI_X10_setTileSize zI0) (cond (Nat.beq y 130) zI_X10_clearCache zI0)) (cond (Nat.blt y 132) (cond (Nat.beq y 131) zI_X10_isCached zI0) (cond (Nat.beq y 132) zI_X10_cachedTiles zI0))) (cond (Nat.blt y 135) (cond (Nat.blt y 134) (cond (Nat.beq y 133) zI_X10_counter zI0) (cond (Nat.beq y 134) zI_X10_oldestTile zI0)) (cond (Nat.blt y 136) (cond (Nat.beq y 135) zI_X10_tileColumns zI0) (cond (Nat.blt y 137) (cond (Nat.beq y 136) zI_X10_tileRows zI0) (cond (Nat.beq y 137) zI_X10_requestTile zI0))))))))) (cond (Nat.blt y 207) (cond (Nat.blt y 172) (cond (Nat.blt y 155) (cond (Nat.blt y 146) (cond (Nat.blt y 142) (cond (Nat.blt y 140) (cond (Nat.blt y 139) (cond (Nat.beq y 138) zI_X10_requestInput zI0) (cond (Nat.beq y 139) zI_X10_pictureOf zI0)) (cond (Nat.blt y 141) (cond (Nat.beq y 140) zI_X10_histogram zI0) (cond (Nat.beq y 141) zI_X10_sum zI0))) (cond (Nat.blt y 144) (cond (Nat.blt y 143) (cond (Nat.beq y 142) zI_X10_effect zI0) (cond (Nat.beq y 143) zI_X10_strongestLayer zI0)) (cond (Nat.blt y 145) (cond (Nat.beq y 144) zI_X10_exchangeDifference zI0) (cond (Nat.beq y 145) zI_X10_snapshotDifference zI0)))) (cond (Nat.blt y 150) (cond (Nat.blt y 148) (cond (Nat.blt y 147) (cond (Nat.beq y 146) zI_X10_hasOutput zI0) (cond (Nat.beq y 147) zI_X10_changeWithout zI0)) (cond (Nat.blt y 149) (cond (Nat.beq y 148) zI_X10_pixelsThatDiffer zI0) (cond (Nat.beq y 149) zI_X10_undo zI0))) (cond (Nat.blt y 152) (cond (Nat.blt y 151) (cond (Nat.beq y 150) zI_X10_save zI0) (cond (Nat.beq y 151) zI_X10_restore zI0)) (cond (Nat.blt y 153) (cond (Nat.beq y 152) zI_X10_within zI0) (cond (Nat.blt y 154) (cond (Nat.beq y 153) zI_X10_clamped zI0) (cond (Nat.beq y 154) zI_X10_divided zI0)))))) (cond (Nat.blt y 163) (cond (Nat.blt y 159) (cond (Nat.blt y 157) (cond (Nat.blt y 156) (cond (Nat.beq y 155) zI_X11_init zI0) (cond (Nat.beq y 156) zI_X11_in zI0)) (cond (Nat.blt y 158) (cond (Nat.beq y 157) zI_X11_floor zI0) (cond (Nat.beq y 158) zI_X11_clamp zI0))) (cond (Nat.blt y 161) (cond (Nat.blt y 160) (cond (Nat.beq y 159) zI_X11_abs zI0) (cond (Nat.beq y 160) zI_X11_makeImage zI0)) (cond (Nat.blt y 162) (cond (Nat.beq y 161) zI_X11_keep zI0) (cond (Nat.beq y 162) zI_X11_at zI0)))) (cond (Nat.blt y 167) (cond (Nat.blt y 165) (cond (Nat.blt y 164) (cond (Nat.beq y 163) zI_X11_isLayer zI0) (cond (Nat.beq y 164) zI_X11_isPixel zI0)) (cond (Nat.blt y 166) (cond (Nat.beq y 165) zI_X11_isOn zI0) (cond (Nat.beq y 166) zI_X11_columns zI0))) (cond (Nat.blt y 169) (cond (Nat.blt y 168) (cond (Nat.beq y 167) zI_X11_rows zI0) (cond (Nat.beq y 168) zI_X11_cached zI0)) (cond (Nat.blt y 170) (cond (Nat.beq y 169) zI_X11_removeTiles zI0) (cond (Nat.blt y 171) (cond (Nat.beq y 170) zI_X11_reach zI0) (cond (Nat.beq y 171) zI_X11_removeAfter zI0))))))) (cond (Nat.blt y 189) (cond (Nat.blt y 180) (cond (Nat.blt y 176) (cond (Nat.blt y 174) (cond (Nat.blt y 173) (cond (Nat.beq y 172) zI_X11_oldest zI0) (cond (Nat.beq y 173) zI_X11_trim zI0)) (cond (Nat.blt y 175) (cond (Nat.beq y 174) zI_X11_enabledFrom zI0) (cond (Nat.beq y 175) zI_X11_push zI0))) (cond (Nat.blt y 178) (cond (Nat.blt y 177) (cond (Nat.beq y 176) zI_X11_begin zI0) (cond (Nat.beq y 177) zI_X11_use zI0)) (cond (Nat.blt y 179) (cond (Nat.beq y 178) zI_X11_request zI0) (cond (Nat.beq y 179) zI_X11_goOn zI0)))) (cond (Nat.blt y 184) (cond (Nat.blt y 182) (cond (Nat.blt y 181) (cond (Nat.beq y 180) zI_X11_inputAt zI0) (cond (Nat.beq y 181) zI_X11_nearest zI0)) (cond (Nat.blt y 183) (cond (Nat.beq y 182) zI_X11_gather zI0) (cond (Nat.beq y 183) zI_X11_blur zI0))) (cond (Nat.blt y 186) (cond (Nat.blt y 185) (cond (Nat.beq y 184) zI_X11_point zI0) (cond (Nat.beq y 185) zI_X11_findRange zI0)) (cond (Nat.blt y 187) (cond (Nat.beq y 186) zI_X11_adjusted zI0) (cond (Nat.blt y 188) (cond (Nat.beq y 187) zI_X11_blend zI0) (cond (Nat.beq y 188) zI_X11_beyond zI0)))))) (cond (Nat.blt y 198) (cond (Nat.blt y 193) (cond (Nat.blt y 191) (cond (Nat.blt y 190) (cond (Nat.beq y 189) zI_X11_isDabbed zI0) (cond (Nat.beq y 190) zI_X11_plainMask zI0)) (cond (Nat.blt y 192) (cond (Nat.beq y 191) zI_X11_maskAt zI0) (cond (Nat.beq y 192) zI_X11_computeLayer zI0))) (cond (Nat.blt y 195) (cond (Nat.blt y 194) (cond (Nat.beq y 193) zI_X11_compute zI0) (cond (Nat.beq y 194) zI_X11_top zI0)) (cond (Nat.blt y 196) (cond (Nat.beq y 195) zI_X11_pixels zI0) (cond (Nat.blt y 197) (cond (Nat.beq y 196) zI_X11_removeAll zI0) (cond (Nat.beq y 197) zI_X11_newImage zI0))))) (cond (Nat.blt y 202) (cond (Nat.blt y 200) (cond (Nat.blt y 199) (cond (Nat.beq y 198) zI_X11_setPixel zI0) (cond (Nat.beq y 199) zI_X11_fillRectangle zI0)) (cond (Nat.blt y 201) (cond (Nat.beq y 200) zI_X11_size zI0) (cond (Nat.beq y 201) zI_X11_leastA zI0))) (cond (Nat.blt y 204) (cond (Nat.blt y 203) (cond (Nat.beq y 202) zI_X11_mostA zI0) (cond (Nat.beq y 203) zI_X11_leastB zI0)) (cond (Nat.blt y 205) (cond (Nat.beq y 204) zI_X11_mostB zI0) (cond (Nat.blt y 206) (cond (Nat.beq y 205) zI_X11_isPossible zI0) (cond (Nat.beq y 206) zI_X11_layLayer zI0)))))))) (cond (Nat.blt y 241) (cond (Nat.blt y 224) (cond (Nat.blt y 215) (cond (Nat.blt y 211) (cond (Nat.blt y 209) (cond (Nat.blt y 208) (cond (Nat.beq y 207) zI_X11_addLayer zI0) (cond (Nat.beq y 208) zI_X11_setParameters zI0)) (cond (Nat.blt y 210) (cond (Nat.beq y 209) zI_X11_setBlend zI0) (cond (Nat.beq y 210) zI_X11_setEnabled zI0))) (cond (Nat.blt y 213) (cond (Nat.blt y 212) (cond (Nat.beq y 211) zI_X11_exchange zI0) (cond (Nat.beq y 212) zI_X11_moveLayer zI0)) (cond (Nat.blt y 214) (cond (Nat.beq y 213) zI_X11_duplicateLayer zI0) (cond (Nat.beq y 214) zI_X11_cutLayers zI0)))) (cond (Nat.blt y 219) (cond (Nat.blt y 217) (cond (Nat.blt y 216) (cond (Nat.beq y 215) zI_X11_removeLayer zI0) (cond (Nat.beq y 216) zI_X11_flatten zI0)) (cond (Nat.blt y 218) (cond (Nat.beq y 217) zI_X11_layer zI0) (cond (Nat.beq y 218) zI_X11_isNothing zI0))) (cond (Nat.blt y 221) (cond (Nat.blt y 220) (cond (Nat.beq y 219) zI_X11_isMask zI0) (cond (Nat.beq y 220) zI_X11_setMaskOf zI0)) (cond (Nat.blt y 222) (cond (Nat.beq y 221) zI_X11_setMask zI0) (cond (Nat.blt y 223) (cond (Nat.beq y 222) zI_X11_setFeather zI0) (cond (Nat.beq y 223) zI_X11_invertMask zI0)))))) (cond (Nat.blt y 232) (cond (Nat.blt y 228) (cond (Nat.blt y 226) (cond (Nat.blt y 225) (cond (Nat.beq y 224) zI_X11_dab zI0) (cond (Nat.beq y 225) zI_X11_maskValue zI0)) (cond (Nat.blt y 227) (cond (Nat.beq y 226) zI_X11_append zI0) (cond (Nat.beq y 227) zI_X11_clearText zI0))) (cond (Nat.blt y 230) (cond (Nat.blt y 229) (cond (Nat.beq y 228) zI_X11_here zI0) (cond (Nat.beq y 229) zI_X11_readWord zI0)) (cond (Nat.blt y 231) (cond (Nat.beq y 230) zI_X11_readDigits zI0) (cond (Nat.beq y 231) zI_X11_advance zI0)))) (cond (Nat.blt y 236) (cond (Nat.blt y 234) (cond (Nat.blt y 233) (cond (Nat.beq y 232) zI_X11_isFine zI0) (cond (Nat.beq y 233) zI_X11_take zI0)) (cond (Nat.blt y 235) (cond (Nat.beq y 234) zI_X11_kindOf zI0) (cond (Nat.beq y 235) zI_X11_modeOf zI0))) (cond (Nat.blt y 238) (cond (Nat.blt y 237) (cond (Nat.beq y 236) zI_X11_readNumber zI0) (cond (Nat.beq y 237) zI_X11_hasA zI0)) (cond (Nat.blt y 239) (cond (Nat.beq y 238) zI_X11_hasB zI0) (cond (Nat.blt y 240) (cond (Nat.beq y 239) zI_X11_readOption zI0) (cond (Nat.beq y 240) zI_X11_readLayer zI0))))))) (cond (Nat.blt y 258) (cond (Nat.blt y 249) (cond (Nat.blt y 245) (cond (Nat.blt y 243) (cond (Nat.blt y 242) (cond (Nat.beq y 241) zI_X11_loadStack zI0) (cond (Nat.beq y 242) zI_X11_pixel zI0)) (cond (Nat.blt y 244) (cond (Nat.beq y 243) zI_X11_prefetch zI0) (cond (Nat.beq y 244) zI_X11_setCacheLimit zI0))) (cond (Nat.blt y 247) (cond (Nat.blt y 246) (cond (Nat.beq y 245) zI_X11_setTileSize zI0) (cond (Nat.beq y 246) zI_X11_clearCache zI0)) (cond (Nat.blt y 248) (cond (Nat.beq y 247) zI_X11_isCached zI0) (cond (Nat.beq y 248) zI_X11_cachedTiles zI0)))) (cond (Nat.blt y 253) (cond (Nat.blt y 251) (cond (Nat.blt y 250) (cond (Nat.beq y 249) zI_X11_counter zI0) (cond (Nat.beq y 250) zI_X11_oldestTile zI0)) (cond (Nat.blt y 252) (cond (Nat.beq y 251) zI_X11_isOutput zI0) (cond (Nat.beq y 252) zI_X11_histogram zI0))) (cond (Nat.blt y 255) (cond (Nat.blt y 254) (cond (Nat.beq y 253) zI_X11_sum zI0) (cond (Nat.beq y 254) zI_X11_layBeside zI0)) (cond (Nat.blt y 256) (cond (Nat.beq y 255) zI_X11_effectOf zI0) (cond (Nat.blt y 257) (cond (Nat.beq y 256) zI_X11_effect zI0) (cond (Nat.beq y 257) zI_X11_strongestLayer zI0)))))) (cond (Nat.blt y 267) (cond (Nat.blt y 262) (cond (Nat.blt y 260) (cond (Nat.blt y 259) (cond (Nat.beq y 258) zI_X11_differences zI0) (cond (Nat.beq y 259) zI_X11_exchangeDifference zI0)) (cond (Nat.blt y 261) (cond (Nat.beq y 260) zI_X11_snapshotDifference zI0) (cond (Nat.beq y 261) zI_X11_undo zI0))) (cond (Nat.blt y 264) (cond (Nat.blt y 263) (cond (Nat.beq y 262) zI_X11_save zI0) (cond (Nat.beq y 263) zI_X11_restore zI0)) (cond (Nat.blt y 265) (cond (Nat.beq y 264) zI_J9_floorDiv_7cf53 zI0) (cond (Nat.blt y 266) (cond (Nat.beq y 265) zI_J9_abs_0f7a4 zI0) (cond (Nat.beq y 266) zI_J9_max_7cf53 zI0))))) (cond (Nat.blt y 271) (cond (Nat.blt y 269) (cond (Nat.blt y 268) (cond (Nat.beq y 267) zI_J9_min_7cf53 zI0) (cond (Nat.beq y 268) zI_J0_length_8abf5 zI0)) (cond (Nat.blt y 270) (cond (Nat.beq y 269) zI_J0_charAt_5068e zI0) (cond (Nat.beq y 270) zI_J0_coder_7d493 zI0))) (cond (Nat.blt y 273) (cond (Nat.blt y 272) (cond (Nat.beq y 271) zI_J0_isLatin1_aae02 zI0) (cond (Nat.beq y 272) zI_J0_checkIndex_df160 zI0)) (cond (Nat.blt y 274) (cond (Nat.beq y 273) zI_J1_charAt_3b067 zI0) (cond (Nat.blt y 275) (cond (Nat.beq y 274) zI_J3_checkIndex_8e157 zI0) (cond (Nat.beq y 275) zI_L_law zI0)))))))))
theorem k_0 : Cond.selects RX1 yX1_discardOldest yX1_discardOldest ∈ lw_tbl := List.mem_of_getElem? (i := 0) (by decide +kernel)
theorem k_1 : Cond.selects RX0 yX0_nextLayer yX0_nextLayer ∈ lw_tbl := List.mem_of_getElem? (i := 1) (by decide +kernel)
theorem k_2 : Cond.selects RX9 yX9_removeSlots yX9_removeSlots ∈ lw_tbl := List.mem_of_getElem? (i := 2) (by decide +kernel)
theorem k_3 : Cond.selects RX9 yX9_remove yX9_remove ∈ lw_tbl := List.mem_of_getElem? (i := 3) (by decide +kernel)
theorem k_4 : Cond.selects RX10 yX10_paint yX10_paint ∈ lw_tbl := List.mem_of_getElem? (i := 4) (by decide +kernel)
theorem k_5 : Cond.selects RX10 yX10_removeTilesThatSee yX10_removeTilesThatSee ∈ lw_tbl := List.mem_of_getElem? (i := 5) (by decide +kernel)
theorem k_6 : Cond.selects RX10 yX10_tileColumns yX10_tileColumns ∈ lw_tbl := List.mem_of_getElem? (i := 6) (by decide +kernel)
theorem k_7 : Cond.selects RX10 yX10_tileRows yX10_tileRows ∈ lw_tbl := List.mem_of_getElem? (i := 7) (by decide +kernel)
theorem k_8 : Cond.selects RX10 yX10_startChangeOf yX10_startChangeOf ∈ lw_tbl := List.mem_of_getElem? (i := 8) (by decide +kernel)
theorem k_9 : Cond.selects RX7 yX7_findExtremes yX7_findExtremes ∈ lw_tbl := List.mem_of_getElem? (i := 9) (by decide +kernel)
theorem k_10 : Cond.selects RX7 yX7_adjusted yX7_adjusted ∈ lw_tbl := List.mem_of_getElem? (i := 10) (by decide +kernel)
theorem k_11 : Cond.selects RX7 yX7_gatherNeighbours yX7_gatherNeighbours ∈ lw_tbl := List.mem_of_getElem? (i := 11) (by decide +kernel)
theorem k_12 : Cond.selects RX7 yX7_average yX7_average ∈ lw_tbl := List.mem_of_getElem? (i := 12) (by decide +kernel)
theorem k_13 : Cond.selects RX7 yX7_median yX7_median ∈ lw_tbl := List.mem_of_getElem? (i := 13) (by decide +kernel)
theorem k_14 : Cond.selects RX7 yX7_sortNeighbours yX7_sortNeighbours ∈ lw_tbl := List.mem_of_getElem? (i := 14) (by decide +kernel)
theorem k_15 : Cond.selects RX7 yX7_greatest yX7_greatest ∈ lw_tbl := List.mem_of_getElem? (i := 15) (by decide +kernel)
theorem k_16 : Cond.selects RX7 yX7_smallest yX7_smallest ∈ lw_tbl := List.mem_of_getElem? (i := 16) (by decide +kernel)
theorem k_17 : Cond.selects RX4 yX4_rectangleWeightAt yX4_rectangleWeightAt ∈ lw_tbl := List.mem_of_getElem? (i := 17) (by decide +kernel)
theorem k_18 : Cond.selects RX4 yX4_gradientWeightAt yX4_gradientWeightAt ∈ lw_tbl := List.mem_of_getElem? (i := 18) (by decide +kernel)
theorem k_19 : Cond.selects RX4 yX4_isDabbed yX4_isDabbed ∈ lw_tbl := List.mem_of_getElem? (i := 19) (by decide +kernel)
theorem k_20 : Cond.selects RX8 yX8_nextToken yX8_nextToken ∈ lw_tbl := List.mem_of_getElem? (i := 20) (by decide +kernel)
theorem k_21 : Cond.selects RX8 yX8_endOfRun yX8_endOfRun ∈ lw_tbl := List.mem_of_getElem? (i := 21) (by decide +kernel)
theorem k_22 : Cond.selects RX8 yX8_characterAt yX8_characterAt ∈ lw_tbl := List.mem_of_getElem? (i := 22) (by decide +kernel)
theorem k_23 : Cond.selects RX8 yX8_isNumber yX8_isNumber ∈ lw_tbl := List.mem_of_getElem? (i := 23) (by decide +kernel)
theorem k_24 : Cond.selects RX8 yX8_valueOfDigits yX8_valueOfDigits ∈ lw_tbl := List.mem_of_getElem? (i := 24) (by decide +kernel)
theorem k_25 : Cond.selects RX8 yX8_readLayer yX8_readLayer ∈ lw_tbl := List.mem_of_getElem? (i := 25) (by decide +kernel)
theorem k_26 : Cond.selects RX8 yX8_kindOfWord yX8_kindOfWord ∈ lw_tbl := List.mem_of_getElem? (i := 26) (by decide +kernel)
theorem k_27 : Cond.selects RX8 yX8_wordIs yX8_wordIs ∈ lw_tbl := List.mem_of_getElem? (i := 27) (by decide +kernel)
theorem k_28 : Cond.selects RX8 yX8_readNumber yX8_readNumber ∈ lw_tbl := List.mem_of_getElem? (i := 28) (by decide +kernel)
theorem k_29 : Cond.selects RX8 yX8_readOptions yX8_readOptions ∈ lw_tbl := List.mem_of_getElem? (i := 29) (by decide +kernel)
theorem k_30 : Cond.selects RX8 yX8_optionOfWord yX8_optionOfWord ∈ lw_tbl := List.mem_of_getElem? (i := 30) (by decide +kernel)
theorem k_31 : Cond.selects RX8 yX8_readMode yX8_readMode ∈ lw_tbl := List.mem_of_getElem? (i := 31) (by decide +kernel)
theorem k_32 : Cond.selects RX8 yX8_modeOfWord yX8_modeOfWord ∈ lw_tbl := List.mem_of_getElem? (i := 32) (by decide +kernel)
theorem k_33 : Cond.selects RX10 yX10_hasOutput yX10_hasOutput ∈ lw_tbl := List.mem_of_getElem? (i := 33) (by decide +kernel)
theorem k_34 : Cond.selects RX10 yX10_requestTile yX10_requestTile ∈ lw_tbl := List.mem_of_getElem? (i := 34) (by decide +kernel)
theorem k_35 : Cond.selects RX9 yX9_use yX9_use ∈ lw_tbl := List.mem_of_getElem? (i := 35) (by decide +kernel)
theorem k_36 : Cond.selects RX10 yX10_requestInput yX10_requestInput ∈ lw_tbl := List.mem_of_getElem? (i := 36) (by decide +kernel)
theorem k_37 : Cond.selects RX10 yX10_pictureOf yX10_pictureOf ∈ lw_tbl := List.mem_of_getElem? (i := 37) (by decide +kernel)
theorem k_38 : Cond.selects RX10 yX10_changeWithout yX10_changeWithout ∈ lw_tbl := List.mem_of_getElem? (i := 38) (by decide +kernel)
theorem k_39 : Cond.selects RX10 yX10_pixelsThatDiffer yX10_pixelsThatDiffer ∈ lw_tbl := List.mem_of_getElem? (i := 39) (by decide +kernel)
theorem k_40 : Cond.selects RX11 yX11_makeImage yX11_makeImage ∈ lw_tbl := List.mem_of_getElem? (i := 40) (by decide +kernel)
theorem k_41 : Cond.selects RX11 yX11_keep yX11_keep ∈ lw_tbl := List.mem_of_getElem? (i := 41) (by decide +kernel)
theorem k_42 : Cond.selects RX11 yX11_removeAll yX11_removeAll ∈ lw_tbl := List.mem_of_getElem? (i := 42) (by decide +kernel)
theorem k_43 : Cond.selects RX11 yX11_removeTiles yX11_removeTiles ∈ lw_tbl := List.mem_of_getElem? (i := 43) (by decide +kernel)
theorem k_44 : Cond.selects RX11 yX11_isPixel yX11_isPixel ∈ lw_tbl := List.mem_of_getElem? (i := 44) (by decide +kernel)
theorem k_45 : Cond.selects RX11 yX11_removeAfter yX11_removeAfter ∈ lw_tbl := List.mem_of_getElem? (i := 45) (by decide +kernel)
theorem k_46 : Cond.selects RX11 yX11_isOn yX11_isOn ∈ lw_tbl := List.mem_of_getElem? (i := 46) (by decide +kernel)
theorem k_47 : Cond.selects RX11 yX11_reach yX11_reach ∈ lw_tbl := List.mem_of_getElem? (i := 47) (by decide +kernel)
theorem k_48 : Cond.selects RX11 yX11_columns yX11_columns ∈ lw_tbl := List.mem_of_getElem? (i := 48) (by decide +kernel)
theorem k_49 : Cond.selects RX11 yX11_rows yX11_rows ∈ lw_tbl := List.mem_of_getElem? (i := 49) (by decide +kernel)
theorem k_50 : Cond.selects RX11 yX11_layLayer yX11_layLayer ∈ lw_tbl := List.mem_of_getElem? (i := 50) (by decide +kernel)
theorem k_51 : Cond.selects RX11 yX11_isLayer yX11_isLayer ∈ lw_tbl := List.mem_of_getElem? (i := 51) (by decide +kernel)
theorem k_52 : Cond.selects RX11 yX11_exchange yX11_exchange ∈ lw_tbl := List.mem_of_getElem? (i := 52) (by decide +kernel)
theorem k_53 : Cond.selects RX11 yX11_cutLayers yX11_cutLayers ∈ lw_tbl := List.mem_of_getElem? (i := 53) (by decide +kernel)
theorem k_54 : Cond.selects RX11 yX11_compute yX11_compute ∈ lw_tbl := List.mem_of_getElem? (i := 54) (by decide +kernel)
theorem k_55 : Cond.selects RX11 yX11_computeLayer yX11_computeLayer ∈ lw_tbl := List.mem_of_getElem? (i := 55) (by decide +kernel)
theorem k_56 : Cond.selects RX11 yX11_findRange yX11_findRange ∈ lw_tbl := List.mem_of_getElem? (i := 56) (by decide +kernel)
theorem k_57 : Cond.selects RX11 yX11_inputAt yX11_inputAt ∈ lw_tbl := List.mem_of_getElem? (i := 57) (by decide +kernel)
theorem k_58 : Cond.selects RX11 yX11_adjusted yX11_adjusted ∈ lw_tbl := List.mem_of_getElem? (i := 58) (by decide +kernel)
theorem k_59 : Cond.selects RX11 yX11_blur yX11_blur ∈ lw_tbl := List.mem_of_getElem? (i := 59) (by decide +kernel)
theorem k_60 : Cond.selects RX11 yX11_gather yX11_gather ∈ lw_tbl := List.mem_of_getElem? (i := 60) (by decide +kernel)
theorem k_61 : Cond.selects RX11 yX11_point yX11_point ∈ lw_tbl := List.mem_of_getElem? (i := 61) (by decide +kernel)
theorem k_62 : Cond.selects RX11 yX11_maskAt yX11_maskAt ∈ lw_tbl := List.mem_of_getElem? (i := 62) (by decide +kernel)
theorem k_63 : Cond.selects RX11 yX11_plainMask yX11_plainMask ∈ lw_tbl := List.mem_of_getElem? (i := 63) (by decide +kernel)
theorem k_64 : Cond.selects RX11 yX11_isDabbed yX11_isDabbed ∈ lw_tbl := List.mem_of_getElem? (i := 64) (by decide +kernel)
theorem k_65 : Cond.selects RX11 yX11_pixels yX11_pixels ∈ lw_tbl := List.mem_of_getElem? (i := 65) (by decide +kernel)
theorem k_66 : Cond.selects RX11 yX11_setMaskOf yX11_setMaskOf ∈ lw_tbl := List.mem_of_getElem? (i := 66) (by decide +kernel)
theorem k_67 : Cond.selects RX11 yX11_advance yX11_advance ∈ lw_tbl := List.mem_of_getElem? (i := 67) (by decide +kernel)
theorem k_68 : Cond.selects RX11 yX11_here yX11_here ∈ lw_tbl := List.mem_of_getElem? (i := 68) (by decide +kernel)
theorem k_69 : Cond.selects RX11 yX11_readWord yX11_readWord ∈ lw_tbl := List.mem_of_getElem? (i := 69) (by decide +kernel)
theorem k_70 : Cond.selects RX11 yX11_readDigits yX11_readDigits ∈ lw_tbl := List.mem_of_getElem? (i := 70) (by decide +kernel)
theorem k_71 : Cond.selects RX11 yX11_isFine yX11_isFine ∈ lw_tbl := List.mem_of_getElem? (i := 71) (by decide +kernel)
theorem k_72 : Cond.selects RX11 yX11_readLayer yX11_readLayer ∈ lw_tbl := List.mem_of_getElem? (i := 72) (by decide +kernel)
theorem k_73 : Cond.selects RX11 yX11_kindOf yX11_kindOf ∈ lw_tbl := List.mem_of_getElem? (i := 73) (by decide +kernel)
theorem k_74 : Cond.selects RX11 yX11_take yX11_take ∈ lw_tbl := List.mem_of_getElem? (i := 74) (by decide +kernel)
theorem k_75 : Cond.selects RX11 yX11_readNumber yX11_readNumber ∈ lw_tbl := List.mem_of_getElem? (i := 75) (by decide +kernel)
theorem k_76 : Cond.selects RX11 yX11_readOption yX11_readOption ∈ lw_tbl := List.mem_of_getElem? (i := 76) (by decide +kernel)
theorem k_77 : Cond.selects RX11 yX11_modeOf yX11_modeOf ∈ lw_tbl := List.mem_of_getElem? (i := 77) (by decide +kernel)
theorem k_78 : Cond.selects RX11 yX11_request yX11_request ∈ lw_tbl := List.mem_of_getElem? (i := 78) (by decide +kernel)
theorem k_79 : Cond.selects RX11 yX11_enabledFrom yX11_enabledFrom ∈ lw_tbl := List.mem_of_getElem? (i := 79) (by decide +kernel)
theorem k_80 : Cond.selects RX11 yX11_push yX11_push ∈ lw_tbl := List.mem_of_getElem? (i := 80) (by decide +kernel)
theorem k_81 : Cond.selects RX11 yX11_use yX11_use ∈ lw_tbl := List.mem_of_getElem? (i := 81) (by decide +kernel)
theorem k_82 : Cond.selects RX11 yX11_goOn yX11_goOn ∈ lw_tbl := List.mem_of_getElem? (i := 82) (by decide +kernel)
theorem k_83 : Cond.selects RX11 yX11_begin yX11_begin ∈ lw_tbl := List.mem_of_getElem? (i := 83) (by decide +kernel)
theorem k_84 : Cond.selects RX11 yX11_trim yX11_trim ∈ lw_tbl := List.mem_of_getElem? (i := 84) (by decide +kernel)
theorem k_85 : Cond.selects RX11 yX11_cached yX11_cached ∈ lw_tbl := List.mem_of_getElem? (i := 85) (by decide +kernel)
theorem k_86 : Cond.selects RX11 yX11_oldest yX11_oldest ∈ lw_tbl := List.mem_of_getElem? (i := 86) (by decide +kernel)
theorem k_87 : Cond.selects RX11 yX11_isOutput yX11_isOutput ∈ lw_tbl := List.mem_of_getElem? (i := 87) (by decide +kernel)
theorem k_88 : Cond.selects RX11 yX11_effectOf yX11_effectOf ∈ lw_tbl := List.mem_of_getElem? (i := 88) (by decide +kernel)
theorem k_89 : Cond.selects RX11 yX11_layBeside yX11_layBeside ∈ lw_tbl := List.mem_of_getElem? (i := 89) (by decide +kernel)
theorem k_90 : Cond.selects RX11 yX11_top yX11_top ∈ lw_tbl := List.mem_of_getElem? (i := 90) (by decide +kernel)
theorem k_91 : Cond.selects RX11 yX11_differences yX11_differences ∈ lw_tbl := List.mem_of_getElem? (i := 91) (by decide +kernel)
theorem k_93 : Cond.initialized RX10 ∈ lw_tbl := List.mem_of_getElem? (i := 93) (by decide +kernel)
theorem k_94 : Cond.initialized RX0 ∈ lw_tbl := List.mem_of_getElem? (i := 94) (by decide +kernel)
theorem k_95 : Cond.initialized RX6 ∈ lw_tbl := List.mem_of_getElem? (i := 95) (by decide +kernel)
theorem k_96 : Cond.initialized RX3 ∈ lw_tbl := List.mem_of_getElem? (i := 96) (by decide +kernel)
theorem k_97 : Cond.initialized RX4 ∈ lw_tbl := List.mem_of_getElem? (i := 97) (by decide +kernel)
theorem k_98 : Cond.initialized RX1 ∈ lw_tbl := List.mem_of_getElem? (i := 98) (by decide +kernel)
theorem k_99 : Cond.initialized RX8 ∈ lw_tbl := List.mem_of_getElem? (i := 99) (by decide +kernel)
theorem k_100 : Cond.initialized RX9 ∈ lw_tbl := List.mem_of_getElem? (i := 100) (by decide +kernel)
theorem k_101 : Cond.initialized RX7 ∈ lw_tbl := List.mem_of_getElem? (i := 101) (by decide +kernel)
theorem k_102 : Cond.initialized RX11 ∈ lw_tbl := List.mem_of_getElem? (i := 102) (by decide +kernel)
theorem k_103 : Cond.initialized RJ9 ∈ lw_tbl := List.mem_of_getElem? (i := 103) (by decide +kernel)
theorem k_104 : Cond.initialized RX2 ∈ lw_tbl := List.mem_of_getElem? (i := 104) (by decide +kernel)
theorem k_105 : Cond.initialized RX5 ∈ lw_tbl := List.mem_of_getElem? (i := 105) (by decide +kernel)
theorem k_106 : Cond.initialized RJ0 ∈ lw_tbl := List.mem_of_getElem? (i := 106) (by decide +kernel)
theorem k_107 : Cond.initialized RJ1 ∈ lw_tbl := List.mem_of_getElem? (i := 107) (by decide +kernel)
theorem k_108 : Cond.initialized RJ3 ∈ lw_tbl := List.mem_of_getElem? (i := 108) (by decide +kernel)
theorem k_110 : Cond.classLink RL 7 RX10 ∈ lw_tbl := List.mem_of_getElem? (i := 110) (by decide +kernel)
theorem k_111 : Cond.instantiable RX10 9 ∈ lw_tbl := List.mem_of_getElem? (i := 111) (by decide +kernel)
theorem k_112 : Cond.methodLink RL 9 yX10_init ∈ lw_tbl := List.mem_of_getElem? (i := 112) (by decide +kernel)
theorem k_113 : Cond.instanceMethod yX10_init ∈ lw_tbl := List.mem_of_getElem? (i := 113) (by decide +kernel)
theorem k_114 : Cond.code yX10_init cX10_init 1 none ∈ lw_tbl := List.mem_of_getElem? (i := 114) (by decide +kernel)
theorem k_115 : Cond.methodLink RX10 1 Lib.objectInit ∈ lw_tbl := List.mem_of_getElem? (i := 115) (by decide +kernel)
theorem k_116 : Cond.instanceMethod Lib.objectInit ∈ lw_tbl := List.mem_of_getElem? (i := 116) (by decide +kernel)
theorem k_117 : Cond.code Lib.objectInit ⟨#[0xb1]⟩ 1 none ∈ lw_tbl := List.mem_of_getElem? (i := 117) (by decide +kernel)
theorem k_118 : Cond.classLink RX10 7 RX0 ∈ lw_tbl := List.mem_of_getElem? (i := 118) (by decide +kernel)
theorem k_119 : Cond.instantiable RX0 3 ∈ lw_tbl := List.mem_of_getElem? (i := 119) (by decide +kernel)
theorem k_120 : Cond.methodLink RX10 9 yX0_init ∈ lw_tbl := List.mem_of_getElem? (i := 120) (by decide +kernel)
theorem k_121 : Cond.instanceMethod yX0_init ∈ lw_tbl := List.mem_of_getElem? (i := 121) (by decide +kernel)
theorem k_122 : Cond.code yX0_init cX0_init 2 none ∈ lw_tbl := List.mem_of_getElem? (i := 122) (by decide +kernel)
theorem k_123 : Cond.methodLink RX0 3 Lib.objectInit ∈ lw_tbl := List.mem_of_getElem? (i := 123) (by decide +kernel)
theorem k_124 : Cond.classLink RX0 9 RX6 ∈ lw_tbl := List.mem_of_getElem? (i := 124) (by decide +kernel)
theorem k_125 : Cond.instantiable RX6 3 ∈ lw_tbl := List.mem_of_getElem? (i := 125) (by decide +kernel)
theorem k_126 : Cond.methodLinkNest RX0 11 yX6_init RX10 ∈ lw_tbl := List.mem_of_getElem? (i := 126) (by decide +kernel)
theorem k_127 : Cond.instanceMethod yX6_init ∈ lw_tbl := List.mem_of_getElem? (i := 127) (by decide +kernel)
theorem k_128 : Cond.code yX6_init cX6_init 1 none ∈ lw_tbl := List.mem_of_getElem? (i := 128) (by decide +kernel)
theorem k_129 : Cond.methodLink RX6 3 Lib.objectInit ∈ lw_tbl := List.mem_of_getElem? (i := 129) (by decide +kernel)
theorem k_130 : Cond.fieldLink RX6 9 RX6 (TX6 0).2.1 (TX6 0).2.2.1 ∈ lw_tbl := List.mem_of_getElem? (i := 130) (by decide +kernel)
theorem k_131 : Cond.fieldLink RX6 15 RX6 (TX6 1).2.1 (TX6 1).2.2.1 ∈ lw_tbl := List.mem_of_getElem? (i := 131) (by decide +kernel)
theorem k_132 : Cond.fieldLinkNest RX7 62 RX6 (TX6 1).2.1 (TX6 1).2.2.1 RX10 ∈ lw_tbl := List.mem_of_getElem? (i := 132) (by decide +kernel)
theorem k_133 : Cond.fieldLinkNest RX10 88 RX6 (TX6 1).2.1 (TX6 1).2.2.1 RX10 ∈ lw_tbl := List.mem_of_getElem? (i := 133) (by decide +kernel)
theorem k_134 : Cond.fieldLink RX6 19 RX6 (TX6 2).2.1 (TX6 2).2.2.1 ∈ lw_tbl := List.mem_of_getElem? (i := 134) (by decide +kernel)
theorem k_135 : Cond.fieldLinkNest RX7 59 RX6 (TX6 2).2.1 (TX6 2).2.2.1 RX10 ∈ lw_tbl := List.mem_of_getElem? (i := 135) (by decide +kernel)
theorem k_136 : Cond.fieldLinkNest RX10 92 RX6 (TX6 2).2.1 (TX6 2).2.2.1 RX10 ∈ lw_tbl := List.mem_of_getElem? (i := 136) (by decide +kernel)
theorem k_144 : Cond.arrayClass .int ∈ lw_tbl := List.mem_of_getElem? (i := 144) (by decide +kernel)
theorem k_145 : Cond.classLink RX0 18 RX3 ∈ lw_tbl := List.mem_of_getElem? (i := 145) (by decide +kernel)
theorem k_146 : Cond.arrayOver (.object RX3) ∈ lw_tbl := List.mem_of_getElem? (i := 146) (by decide +kernel)
theorem k_147 : Cond.instantiable RX3 7 ∈ lw_tbl := List.mem_of_getElem? (i := 147) (by decide +kernel)
theorem k_148 : Cond.methodLinkNest RX0 24 yX3_init RX10 ∈ lw_tbl := List.mem_of_getElem? (i := 148) (by decide +kernel)
theorem k_149 : Cond.instanceMethod yX3_init ∈ lw_tbl := List.mem_of_getElem? (i := 149) (by decide +kernel)
theorem k_150 : Cond.code yX3_init cX3_init 1 none ∈ lw_tbl := List.mem_of_getElem? (i := 150) (by decide +kernel)
theorem k_151 : Cond.methodLink RX3 3 Lib.objectInit ∈ lw_tbl := List.mem_of_getElem? (i := 151) (by decide +kernel)
theorem k_152 : Cond.classLink RX3 9 RX4 ∈ lw_tbl := List.mem_of_getElem? (i := 152) (by decide +kernel)
theorem k_153 : Cond.instantiable RX4 9 ∈ lw_tbl := List.mem_of_getElem? (i := 153) (by decide +kernel)
theorem k_154 : Cond.methodLinkNest RX3 11 yX4_init RX10 ∈ lw_tbl := List.mem_of_getElem? (i := 154) (by decide +kernel)
theorem k_155 : Cond.instanceMethod yX4_init ∈ lw_tbl := List.mem_of_getElem? (i := 155) (by decide +kernel)
theorem k_156 : Cond.code yX4_init cX4_init 1 none ∈ lw_tbl := List.mem_of_getElem? (i := 156) (by decide +kernel)
theorem k_157 : Cond.methodLink RX4 3 Lib.objectInit ∈ lw_tbl := List.mem_of_getElem? (i := 157) (by decide +kernel)
theorem k_158 : Cond.fieldLink RX4 19 RX4 (TX4 0).2.1 (TX4 0).2.2.1 ∈ lw_tbl := List.mem_of_getElem? (i := 158) (by decide +kernel)
theorem k_159 : Cond.fieldLinkNest RX10 202 RX4 (TX4 0).2.1 (TX4 0).2.2.1 RX10 ∈ lw_tbl := List.mem_of_getElem? (i := 159) (by decide +kernel)
theorem k_160 : Cond.fieldLink RX4 23 RX4 (TX4 1).2.1 (TX4 1).2.2.1 ∈ lw_tbl := List.mem_of_getElem? (i := 160) (by decide +kernel)
theorem k_161 : Cond.fieldLink RX4 26 RX4 (TX4 2).2.1 (TX4 2).2.2.1 ∈ lw_tbl := List.mem_of_getElem? (i := 161) (by decide +kernel)
theorem k_162 : Cond.fieldLink RX4 29 RX4 (TX4 3).2.1 (TX4 3).2.2.1 ∈ lw_tbl := List.mem_of_getElem? (i := 162) (by decide +kernel)
theorem k_163 : Cond.fieldLink RX4 32 RX4 (TX4 4).2.1 (TX4 4).2.2.1 ∈ lw_tbl := List.mem_of_getElem? (i := 163) (by decide +kernel)
theorem k_164 : Cond.fieldLink RX4 39 RX4 (TX4 5).2.1 (TX4 5).2.2.1 ∈ lw_tbl := List.mem_of_getElem? (i := 164) (by decide +kernel)
theorem k_165 : Cond.fieldLinkNest RX10 220 RX4 (TX4 5).2.1 (TX4 5).2.2.1 RX10 ∈ lw_tbl := List.mem_of_getElem? (i := 165) (by decide +kernel)
theorem k_166 : Cond.fieldLink RX4 42 RX4 (TX4 6).2.1 (TX4 6).2.2.1 ∈ lw_tbl := List.mem_of_getElem? (i := 166) (by decide +kernel)
theorem k_167 : Cond.fieldLinkNest RX10 223 RX4 (TX4 6).2.1 (TX4 6).2.2.1 RX10 ∈ lw_tbl := List.mem_of_getElem? (i := 167) (by decide +kernel)
theorem k_168 : Cond.fieldLink RX4 46 RX4 (TX4 7).2.1 (TX4 7).2.2.1 ∈ lw_tbl := List.mem_of_getElem? (i := 168) (by decide +kernel)
theorem k_169 : Cond.fieldLinkNest RX10 205 RX4 (TX4 7).2.1 (TX4 7).2.2.1 RX10 ∈ lw_tbl := List.mem_of_getElem? (i := 169) (by decide +kernel)
theorem k_170 : Cond.fieldLink RX4 11 RX4 (TX4 8).2.1 (TX4 8).2.2.1 ∈ lw_tbl := List.mem_of_getElem? (i := 170) (by decide +kernel)
theorem k_190 : Cond.fieldLink RX3 18 RX3 (TX3 0).2.1 (TX3 0).2.2.1 ∈ lw_tbl := List.mem_of_getElem? (i := 190) (by decide +kernel)
theorem k_191 : Cond.fieldLinkNest RX7 52 RX3 (TX3 0).2.1 (TX3 0).2.2.1 RX10 ∈ lw_tbl := List.mem_of_getElem? (i := 191) (by decide +kernel)
theorem k_192 : Cond.fieldLinkNest RX10 156 RX3 (TX3 0).2.1 (TX3 0).2.2.1 RX10 ∈ lw_tbl := List.mem_of_getElem? (i := 192) (by decide +kernel)
theorem k_193 : Cond.fieldLink RX3 22 RX3 (TX3 1).2.1 (TX3 1).2.2.1 ∈ lw_tbl := List.mem_of_getElem? (i := 193) (by decide +kernel)
theorem k_194 : Cond.fieldLinkNest RX7 101 RX3 (TX3 1).2.1 (TX3 1).2.2.1 RX10 ∈ lw_tbl := List.mem_of_getElem? (i := 194) (by decide +kernel)
theorem k_195 : Cond.fieldLinkNest RX10 159 RX3 (TX3 1).2.1 (TX3 1).2.2.1 RX10 ∈ lw_tbl := List.mem_of_getElem? (i := 195) (by decide +kernel)
theorem k_196 : Cond.fieldLink RX3 25 RX3 (TX3 2).2.1 (TX3 2).2.2.1 ∈ lw_tbl := List.mem_of_getElem? (i := 196) (by decide +kernel)
theorem k_197 : Cond.fieldLinkNest RX7 104 RX3 (TX3 2).2.1 (TX3 2).2.2.1 RX10 ∈ lw_tbl := List.mem_of_getElem? (i := 197) (by decide +kernel)
theorem k_198 : Cond.fieldLinkNest RX10 166 RX3 (TX3 2).2.1 (TX3 2).2.2.1 RX10 ∈ lw_tbl := List.mem_of_getElem? (i := 198) (by decide +kernel)
theorem k_199 : Cond.fieldLink RX3 30 RX3 (TX3 3).2.1 (TX3 3).2.2.1 ∈ lw_tbl := List.mem_of_getElem? (i := 199) (by decide +kernel)
theorem k_200 : Cond.fieldLinkNest RX7 69 RX3 (TX3 3).2.1 (TX3 3).2.2.1 RX10 ∈ lw_tbl := List.mem_of_getElem? (i := 200) (by decide +kernel)
theorem k_201 : Cond.fieldLinkNest RX8 106 RX3 (TX3 3).2.1 (TX3 3).2.2.1 RX10 ∈ lw_tbl := List.mem_of_getElem? (i := 201) (by decide +kernel)
theorem k_202 : Cond.fieldLinkNest RX10 172 RX3 (TX3 3).2.1 (TX3 3).2.2.1 RX10 ∈ lw_tbl := List.mem_of_getElem? (i := 202) (by decide +kernel)
theorem k_203 : Cond.fieldLink RX3 33 RX3 (TX3 4).2.1 (TX3 4).2.2.1 ∈ lw_tbl := List.mem_of_getElem? (i := 203) (by decide +kernel)
theorem k_204 : Cond.fieldLinkNest RX7 91 RX3 (TX3 4).2.1 (TX3 4).2.2.1 RX10 ∈ lw_tbl := List.mem_of_getElem? (i := 204) (by decide +kernel)
theorem k_205 : Cond.fieldLinkNest RX8 97 RX3 (TX3 4).2.1 (TX3 4).2.2.1 RX10 ∈ lw_tbl := List.mem_of_getElem? (i := 205) (by decide +kernel)
theorem k_206 : Cond.fieldLinkNest RX10 169 RX3 (TX3 4).2.1 (TX3 4).2.2.1 RX10 ∈ lw_tbl := List.mem_of_getElem? (i := 206) (by decide +kernel)
theorem k_207 : Cond.fieldLink RX3 36 RX3 (TX3 5).2.1 (TX3 5).2.2.1 ∈ lw_tbl := List.mem_of_getElem? (i := 207) (by decide +kernel)
theorem k_208 : Cond.fieldLinkNest RX7 39 RX3 (TX3 5).2.1 (TX3 5).2.2.1 RX10 ∈ lw_tbl := List.mem_of_getElem? (i := 208) (by decide +kernel)
theorem k_209 : Cond.fieldLinkNest RX0 33 RX3 (TX3 5).2.1 (TX3 5).2.2.1 RX10 ∈ lw_tbl := List.mem_of_getElem? (i := 209) (by decide +kernel)
theorem k_210 : Cond.fieldLinkNest RX8 92 RX3 (TX3 5).2.1 (TX3 5).2.2.1 RX10 ∈ lw_tbl := List.mem_of_getElem? (i := 210) (by decide +kernel)
theorem k_211 : Cond.fieldLinkNest RX10 122 RX3 (TX3 5).2.1 (TX3 5).2.2.1 RX10 ∈ lw_tbl := List.mem_of_getElem? (i := 211) (by decide +kernel)
theorem k_212 : Cond.fieldLink RX3 12 RX3 (TX3 6).2.1 (TX3 6).2.2.1 ∈ lw_tbl := List.mem_of_getElem? (i := 212) (by decide +kernel)
theorem k_213 : Cond.fieldLinkNest RX7 82 RX3 (TX3 6).2.1 (TX3 6).2.2.1 RX10 ∈ lw_tbl := List.mem_of_getElem? (i := 213) (by decide +kernel)
theorem k_214 : Cond.fieldLinkNest RX10 198 RX3 (TX3 6).2.1 (TX3 6).2.2.1 RX10 ∈ lw_tbl := List.mem_of_getElem? (i := 214) (by decide +kernel)
theorem k_230 : Cond.fieldLink RX0 12 RX0 (TX0 0).2.1 (TX0 0).2.2.1 ∈ lw_tbl := List.mem_of_getElem? (i := 230) (by decide +kernel)
theorem k_231 : Cond.fieldLinkNest RX10 61 RX0 (TX0 0).2.1 (TX0 0).2.2.1 RX10 ∈ lw_tbl := List.mem_of_getElem? (i := 231) (by decide +kernel)
theorem k_232 : Cond.fieldLinkNest RX7 22 RX0 (TX0 0).2.1 (TX0 0).2.2.1 RX10 ∈ lw_tbl := List.mem_of_getElem? (i := 232) (by decide +kernel)
theorem k_233 : Cond.fieldLink RX0 20 RX0 (TX0 1).2.1 (TX0 1).2.2.1 ∈ lw_tbl := List.mem_of_getElem? (i := 233) (by decide +kernel)
theorem k_234 : Cond.fieldLink RX0 25 RX0 (TX0 2).2.1 (TX0 2).2.2.1 ∈ lw_tbl := List.mem_of_getElem? (i := 234) (by decide +kernel)
theorem k_242 : Cond.classLink RX10 19 RX1 ∈ lw_tbl := List.mem_of_getElem? (i := 242) (by decide +kernel)
theorem k_243 : Cond.instantiable RX1 2 ∈ lw_tbl := List.mem_of_getElem? (i := 243) (by decide +kernel)
theorem k_244 : Cond.methodLink RX10 21 yX1_init ∈ lw_tbl := List.mem_of_getElem? (i := 244) (by decide +kernel)
theorem k_245 : Cond.instanceMethod yX1_init ∈ lw_tbl := List.mem_of_getElem? (i := 245) (by decide +kernel)
theorem k_246 : Cond.code yX1_init cX1_init 2 none ∈ lw_tbl := List.mem_of_getElem? (i := 246) (by decide +kernel)
theorem k_247 : Cond.methodLink RX1 3 Lib.objectInit ∈ lw_tbl := List.mem_of_getElem? (i := 247) (by decide +kernel)
theorem k_248 : Cond.classLink RX1 9 RX0 ∈ lw_tbl := List.mem_of_getElem? (i := 248) (by decide +kernel)
theorem k_249 : Cond.arrayOver (.object RX0) ∈ lw_tbl := List.mem_of_getElem? (i := 249) (by decide +kernel)
theorem k_250 : Cond.methodLink RX1 17 yX0_init ∈ lw_tbl := List.mem_of_getElem? (i := 250) (by decide +kernel)
theorem k_251 : Cond.fieldLink RX1 11 RX1 (TX1 0).2.1 (TX1 0).2.2.1 ∈ lw_tbl := List.mem_of_getElem? (i := 251) (by decide +kernel)
theorem k_252 : Cond.fieldLink RX1 18 RX1 (TX1 1).2.1 (TX1 1).2.2.1 ∈ lw_tbl := List.mem_of_getElem? (i := 252) (by decide +kernel)
theorem k_253 : Cond.fieldLinkNest RX10 332 RX1 (TX1 1).2.1 (TX1 1).2.2.1 RX10 ∈ lw_tbl := List.mem_of_getElem? (i := 253) (by decide +kernel)
theorem k_259 : Cond.classLink RX10 30 RX8 ∈ lw_tbl := List.mem_of_getElem? (i := 259) (by decide +kernel)
theorem k_260 : Cond.instantiable RX8 7 ∈ lw_tbl := List.mem_of_getElem? (i := 260) (by decide +kernel)
theorem k_261 : Cond.methodLinkNest RX10 32 yX8_init RX10 ∈ lw_tbl := List.mem_of_getElem? (i := 261) (by decide +kernel)
theorem k_262 : Cond.instanceMethod yX8_init ∈ lw_tbl := List.mem_of_getElem? (i := 262) (by decide +kernel)
theorem k_263 : Cond.code yX8_init cX8_init 1 none ∈ lw_tbl := List.mem_of_getElem? (i := 263) (by decide +kernel)
theorem k_264 : Cond.methodLink RX8 3 Lib.objectInit ∈ lw_tbl := List.mem_of_getElem? (i := 264) (by decide +kernel)
theorem k_265 : Cond.fieldLink RX8 9 RX8 (TX8 0).2.1 (TX8 0).2.2.1 ∈ lw_tbl := List.mem_of_getElem? (i := 265) (by decide +kernel)
theorem k_266 : Cond.fieldLink RX8 15 RX8 (TX8 1).2.1 (TX8 1).2.2.1 ∈ lw_tbl := List.mem_of_getElem? (i := 266) (by decide +kernel)
theorem k_267 : Cond.fieldLinkNest RX10 236 RX8 (TX8 1).2.1 (TX8 1).2.2.1 RX10 ∈ lw_tbl := List.mem_of_getElem? (i := 267) (by decide +kernel)
theorem k_268 : Cond.fieldLink RX8 34 RX8 (TX8 2).2.1 (TX8 2).2.2.1 ∈ lw_tbl := List.mem_of_getElem? (i := 268) (by decide +kernel)
theorem k_269 : Cond.fieldLink RX8 41 RX8 (TX8 3).2.1 (TX8 3).2.2.1 ∈ lw_tbl := List.mem_of_getElem? (i := 269) (by decide +kernel)
theorem k_270 : Cond.fieldLink RX8 28 RX8 (TX8 4).2.1 (TX8 4).2.2.1 ∈ lw_tbl := List.mem_of_getElem? (i := 270) (by decide +kernel)
theorem k_271 : Cond.fieldLink RX8 82 RX8 (TX8 5).2.1 (TX8 5).2.2.1 ∈ lw_tbl := List.mem_of_getElem? (i := 271) (by decide +kernel)
theorem k_272 : Cond.fieldLink RX8 24 RX8 (TX8 6).2.1 (TX8 6).2.2.1 ∈ lw_tbl := List.mem_of_getElem? (i := 272) (by decide +kernel)
theorem k_288 : Cond.arrayClass .char ∈ lw_tbl := List.mem_of_getElem? (i := 288) (by decide +kernel)
theorem k_289 : Cond.classLink RX10 37 RX9 ∈ lw_tbl := List.mem_of_getElem? (i := 289) (by decide +kernel)
theorem k_290 : Cond.instantiable RX9 9 ∈ lw_tbl := List.mem_of_getElem? (i := 290) (by decide +kernel)
theorem k_291 : Cond.methodLink RX10 39 yX9_init ∈ lw_tbl := List.mem_of_getElem? (i := 291) (by decide +kernel)
theorem k_292 : Cond.instanceMethod yX9_init ∈ lw_tbl := List.mem_of_getElem? (i := 292) (by decide +kernel)
theorem k_293 : Cond.code yX9_init cX9_init 2 none ∈ lw_tbl := List.mem_of_getElem? (i := 293) (by decide +kernel)
theorem k_294 : Cond.methodLink RX9 5 Lib.objectInit ∈ lw_tbl := List.mem_of_getElem? (i := 294) (by decide +kernel)
theorem k_295 : Cond.classLink RX9 11 RX6 ∈ lw_tbl := List.mem_of_getElem? (i := 295) (by decide +kernel)
theorem k_296 : Cond.arrayOver (.object RX6) ∈ lw_tbl := List.mem_of_getElem? (i := 296) (by decide +kernel)
theorem k_297 : Cond.methodLinkNest RX9 28 yX6_init RX10 ∈ lw_tbl := List.mem_of_getElem? (i := 297) (by decide +kernel)
theorem k_298 : Cond.fieldLink RX9 13 RX9 (TX9 0).2.1 (TX9 0).2.2.1 ∈ lw_tbl := List.mem_of_getElem? (i := 298) (by decide +kernel)
theorem k_299 : Cond.fieldLink RX9 17 RX9 (TX9 1).2.1 (TX9 1).2.2.1 ∈ lw_tbl := List.mem_of_getElem? (i := 299) (by decide +kernel)
theorem k_300 : Cond.fieldLink RX9 21 RX9 (TX9 2).2.1 (TX9 2).2.2.1 ∈ lw_tbl := List.mem_of_getElem? (i := 300) (by decide +kernel)
theorem k_301 : Cond.fieldLinkNest RX10 98 RX9 (TX9 2).2.1 (TX9 2).2.2.1 RX10 ∈ lw_tbl := List.mem_of_getElem? (i := 301) (by decide +kernel)
theorem k_302 : Cond.fieldLink RX9 25 RX9 (TX9 3).2.1 (TX9 3).2.2.1 ∈ lw_tbl := List.mem_of_getElem? (i := 302) (by decide +kernel)
theorem k_303 : Cond.fieldLinkNest RX10 107 RX9 (TX9 3).2.1 (TX9 3).2.2.1 RX10 ∈ lw_tbl := List.mem_of_getElem? (i := 303) (by decide +kernel)
theorem k_304 : Cond.fieldLink RX9 47 RX9 (TX9 4).2.1 (TX9 4).2.2.1 ∈ lw_tbl := List.mem_of_getElem? (i := 304) (by decide +kernel)
theorem k_305 : Cond.fieldLink RX9 50 RX9 (TX9 5).2.1 (TX9 5).2.2.1 ∈ lw_tbl := List.mem_of_getElem? (i := 305) (by decide +kernel)
theorem k_306 : Cond.fieldLink RX9 44 RX9 (TX9 6).2.1 (TX9 6).2.2.1 ∈ lw_tbl := List.mem_of_getElem? (i := 306) (by decide +kernel)
theorem k_307 : Cond.fieldLinkNest RX10 269 RX9 (TX9 6).2.1 (TX9 6).2.2.1 RX10 ∈ lw_tbl := List.mem_of_getElem? (i := 307) (by decide +kernel)
theorem k_308 : Cond.fieldLink RX9 37 RX9 (TX9 7).2.1 (TX9 7).2.2.1 ∈ lw_tbl := List.mem_of_getElem? (i := 308) (by decide +kernel)
theorem k_309 : Cond.fieldLinkNest RX10 278 RX9 (TX9 7).2.1 (TX9 7).2.2.1 RX10 ∈ lw_tbl := List.mem_of_getElem? (i := 309) (by decide +kernel)
theorem k_310 : Cond.fieldLink RX9 66 RX9 (TX9 8).2.1 (TX9 8).2.2.1 ∈ lw_tbl := List.mem_of_getElem? (i := 310) (by decide +kernel)
theorem k_311 : Cond.fieldLinkNest RX10 281 RX9 (TX9 8).2.1 (TX9 8).2.2.1 RX10 ∈ lw_tbl := List.mem_of_getElem? (i := 311) (by decide +kernel)
theorem k_331 : Cond.classLink RX10 44 RX7 ∈ lw_tbl := List.mem_of_getElem? (i := 331) (by decide +kernel)
theorem k_332 : Cond.instantiable RX7 5 ∈ lw_tbl := List.mem_of_getElem? (i := 332) (by decide +kernel)
theorem k_333 : Cond.methodLinkNest RX10 46 yX7_init RX10 ∈ lw_tbl := List.mem_of_getElem? (i := 333) (by decide +kernel)
theorem k_334 : Cond.instanceMethod yX7_init ∈ lw_tbl := List.mem_of_getElem? (i := 334) (by decide +kernel)
theorem k_335 : Cond.code yX7_init cX7_init 1 none ∈ lw_tbl := List.mem_of_getElem? (i := 335) (by decide +kernel)
theorem k_336 : Cond.methodLink RX7 3 Lib.objectInit ∈ lw_tbl := List.mem_of_getElem? (i := 336) (by decide +kernel)
theorem k_337 : Cond.classLink RX7 9 RX6 ∈ lw_tbl := List.mem_of_getElem? (i := 337) (by decide +kernel)
theorem k_338 : Cond.methodLinkNest RX7 11 yX6_init RX10 ∈ lw_tbl := List.mem_of_getElem? (i := 338) (by decide +kernel)
theorem k_339 : Cond.fieldLink RX7 12 RX7 (TX7 0).2.1 (TX7 0).2.2.1 ∈ lw_tbl := List.mem_of_getElem? (i := 339) (by decide +kernel)
theorem k_340 : Cond.fieldLink RX7 18 RX7 (TX7 1).2.1 (TX7 1).2.2.1 ∈ lw_tbl := List.mem_of_getElem? (i := 340) (by decide +kernel)
theorem k_341 : Cond.fieldLink RX7 148 RX7 (TX7 2).2.1 (TX7 2).2.2.1 ∈ lw_tbl := List.mem_of_getElem? (i := 341) (by decide +kernel)
theorem k_342 : Cond.fieldLink RX7 137 RX7 (TX7 3).2.1 (TX7 3).2.2.1 ∈ lw_tbl := List.mem_of_getElem? (i := 342) (by decide +kernel)
theorem k_343 : Cond.fieldLink RX7 134 RX7 (TX7 4).2.1 (TX7 4).2.2.1 ∈ lw_tbl := List.mem_of_getElem? (i := 343) (by decide +kernel)
theorem k_355 : Cond.classLink RX10 51 RX6 ∈ lw_tbl := List.mem_of_getElem? (i := 355) (by decide +kernel)
theorem k_356 : Cond.methodLinkNest RX10 53 yX6_init RX10 ∈ lw_tbl := List.mem_of_getElem? (i := 356) (by decide +kernel)
theorem k_357 : Cond.methodLink RX10 64 yX6_startAs ∈ lw_tbl := List.mem_of_getElem? (i := 357) (by decide +kernel)
theorem k_358 : Cond.instanceMethod yX6_startAs ∈ lw_tbl := List.mem_of_getElem? (i := 358) (by decide +kernel)
theorem k_359 : Cond.selects RX6 yX6_startAs yX6_startAs ∈ lw_tbl := List.mem_of_getElem? (i := 359) (by decide +kernel)
theorem k_360 : Cond.code yX6_startAs cX6_startAs 5 none ∈ lw_tbl := List.mem_of_getElem? (i := 360) (by decide +kernel)
theorem k_361 : Cond.methodLink RX6 22 yX6_put ∈ lw_tbl := List.mem_of_getElem? (i := 361) (by decide +kernel)
theorem k_362 : Cond.instanceMethod yX6_put ∈ lw_tbl := List.mem_of_getElem? (i := 362) (by decide +kernel)
theorem k_363 : Cond.selects RX6 yX6_put yX6_put ∈ lw_tbl := List.mem_of_getElem? (i := 363) (by decide +kernel)
theorem k_364 : Cond.code yX6_put cX6_put 5 none ∈ lw_tbl := List.mem_of_getElem? (i := 364) (by decide +kernel)
theorem k_365 : Cond.fieldLink RX10 10 RX10 (TX10 0).2.1 (TX10 0).2.2.1 ∈ lw_tbl := List.mem_of_getElem? (i := 365) (by decide +kernel)
theorem k_366 : Cond.fieldLink RX10 16 RX10 (TX10 1).2.1 (TX10 1).2.2.1 ∈ lw_tbl := List.mem_of_getElem? (i := 366) (by decide +kernel)
theorem k_367 : Cond.fieldLink RX10 22 RX10 (TX10 2).2.1 (TX10 2).2.2.1 ∈ lw_tbl := List.mem_of_getElem? (i := 367) (by decide +kernel)
theorem k_368 : Cond.fieldLink RX10 26 RX10 (TX10 3).2.1 (TX10 3).2.2.1 ∈ lw_tbl := List.mem_of_getElem? (i := 368) (by decide +kernel)
theorem k_369 : Cond.fieldLink RX10 33 RX10 (TX10 4).2.1 (TX10 4).2.2.1 ∈ lw_tbl := List.mem_of_getElem? (i := 369) (by decide +kernel)
theorem k_370 : Cond.fieldLink RX10 40 RX10 (TX10 5).2.1 (TX10 5).2.2.1 ∈ lw_tbl := List.mem_of_getElem? (i := 370) (by decide +kernel)
theorem k_371 : Cond.fieldLink RX10 47 RX10 (TX10 6).2.1 (TX10 6).2.2.1 ∈ lw_tbl := List.mem_of_getElem? (i := 371) (by decide +kernel)
theorem k_372 : Cond.fieldLink RX10 54 RX10 (TX10 7).2.1 (TX10 7).2.2.1 ∈ lw_tbl := List.mem_of_getElem? (i := 372) (by decide +kernel)
theorem k_373 : Cond.fieldLink RX10 58 RX10 (TX10 8).2.1 (TX10 8).2.2.1 ∈ lw_tbl := List.mem_of_getElem? (i := 373) (by decide +kernel)
theorem k_393 : Cond.methodLink RL 13 yX10_newImage ∈ lw_tbl := List.mem_of_getElem? (i := 393) (by decide +kernel)
theorem k_394 : Cond.instanceMethod yX10_newImage ∈ lw_tbl := List.mem_of_getElem? (i := 394) (by decide +kernel)
theorem k_395 : Cond.selects RX10 yX10_newImage yX10_newImage ∈ lw_tbl := List.mem_of_getElem? (i := 395) (by decide +kernel)
theorem k_396 : Cond.code yX10_newImage cX10_newImage 3 (some FieldType.int) ∈ lw_tbl := List.mem_of_getElem? (i := 396) (by decide +kernel)
theorem k_397 : Cond.methodLink RX10 68 yX10_within ∈ lw_tbl := List.mem_of_getElem? (i := 397) (by decide +kernel)
theorem k_398 : Cond.static yX10_within ∈ lw_tbl := List.mem_of_getElem? (i := 398) (by decide +kernel)
theorem k_399 : Cond.code yX10_within cX10_within 3 (some FieldType.boolean) ∈ lw_tbl := List.mem_of_getElem? (i := 399) (by decide +kernel)
theorem k_400 : Cond.methodLink RX10 72 yX1_push ∈ lw_tbl := List.mem_of_getElem? (i := 400) (by decide +kernel)
theorem k_401 : Cond.instanceMethod yX1_push ∈ lw_tbl := List.mem_of_getElem? (i := 401) (by decide +kernel)
theorem k_402 : Cond.selects RX1 yX1_push yX1_push ∈ lw_tbl := List.mem_of_getElem? (i := 402) (by decide +kernel)
theorem k_403 : Cond.code yX1_push cX1_push 3 none ∈ lw_tbl := List.mem_of_getElem? (i := 403) (by decide +kernel)
theorem k_404 : Cond.methodLink RX1 22 yX1_discardOldest ∈ lw_tbl := List.mem_of_getElem? (i := 404) (by decide +kernel)
theorem k_406 : Cond.instanceMethod yX1_discardOldest ∈ lw_tbl := List.mem_of_getElem? (i := 406) (by decide +kernel)
theorem k_407 : Cond.code yX1_discardOldest cX1_discardOldest 3 none ∈ lw_tbl := List.mem_of_getElem? (i := 407) (by decide +kernel)
theorem k_408 : Cond.methodLink RX1 25 yX0_copyFrom ∈ lw_tbl := List.mem_of_getElem? (i := 408) (by decide +kernel)
theorem k_409 : Cond.instanceMethod yX0_copyFrom ∈ lw_tbl := List.mem_of_getElem? (i := 409) (by decide +kernel)
theorem k_410 : Cond.selects RX0 yX0_copyFrom yX0_copyFrom ∈ lw_tbl := List.mem_of_getElem? (i := 410) (by decide +kernel)
theorem k_411 : Cond.code yX0_copyFrom cX0_copyFrom 2 none ∈ lw_tbl := List.mem_of_getElem? (i := 411) (by decide +kernel)
theorem k_412 : Cond.methodLink RX0 37 yX6_copyFrom ∈ lw_tbl := List.mem_of_getElem? (i := 412) (by decide +kernel)
theorem k_413 : Cond.instanceMethod yX6_copyFrom ∈ lw_tbl := List.mem_of_getElem? (i := 413) (by decide +kernel)
theorem k_414 : Cond.selects RX6 yX6_copyFrom yX6_copyFrom ∈ lw_tbl := List.mem_of_getElem? (i := 414) (by decide +kernel)
theorem k_415 : Cond.code yX6_copyFrom cX6_copyFrom 4 none ∈ lw_tbl := List.mem_of_getElem? (i := 415) (by decide +kernel)
theorem k_416 : Cond.methodLink RX6 38 yX6_takeSizeOf ∈ lw_tbl := List.mem_of_getElem? (i := 416) (by decide +kernel)
theorem k_417 : Cond.instanceMethod yX6_takeSizeOf ∈ lw_tbl := List.mem_of_getElem? (i := 417) (by decide +kernel)
theorem k_418 : Cond.selects RX6 yX6_takeSizeOf yX6_takeSizeOf ∈ lw_tbl := List.mem_of_getElem? (i := 418) (by decide +kernel)
theorem k_419 : Cond.code yX6_takeSizeOf cX6_takeSizeOf 2 none ∈ lw_tbl := List.mem_of_getElem? (i := 419) (by decide +kernel)
theorem k_420 : Cond.methodLink RX6 35 yX6_at ∈ lw_tbl := List.mem_of_getElem? (i := 420) (by decide +kernel)
theorem k_421 : Cond.instanceMethod yX6_at ∈ lw_tbl := List.mem_of_getElem? (i := 421) (by decide +kernel)
theorem k_422 : Cond.selects RX6 yX6_at yX6_at ∈ lw_tbl := List.mem_of_getElem? (i := 422) (by decide +kernel)
theorem k_423 : Cond.code yX6_at cX6_at 4 (some FieldType.int) ∈ lw_tbl := List.mem_of_getElem? (i := 423) (by decide +kernel)
theorem k_424 : Cond.methodLink RX0 41 yX0_copyLayersFrom ∈ lw_tbl := List.mem_of_getElem? (i := 424) (by decide +kernel)
theorem k_425 : Cond.instanceMethod yX0_copyLayersFrom ∈ lw_tbl := List.mem_of_getElem? (i := 425) (by decide +kernel)
theorem k_426 : Cond.selects RX0 yX0_copyLayersFrom yX0_copyLayersFrom ∈ lw_tbl := List.mem_of_getElem? (i := 426) (by decide +kernel)
theorem k_427 : Cond.code yX0_copyLayersFrom cX0_copyLayersFrom 5 none ∈ lw_tbl := List.mem_of_getElem? (i := 427) (by decide +kernel)
theorem k_428 : Cond.methodLink RX0 45 yX0_removeLayers ∈ lw_tbl := List.mem_of_getElem? (i := 428) (by decide +kernel)
theorem k_429 : Cond.instanceMethod yX0_removeLayers ∈ lw_tbl := List.mem_of_getElem? (i := 429) (by decide +kernel)
theorem k_430 : Cond.selects RX0 yX0_removeLayers yX0_removeLayers ∈ lw_tbl := List.mem_of_getElem? (i := 430) (by decide +kernel)
theorem k_431 : Cond.code yX0_removeLayers cX0_removeLayers 1 none ∈ lw_tbl := List.mem_of_getElem? (i := 431) (by decide +kernel)
theorem k_432 : Cond.methodLink RX0 29 yX0_layerAt ∈ lw_tbl := List.mem_of_getElem? (i := 432) (by decide +kernel)
theorem k_433 : Cond.instanceMethod yX0_layerAt ∈ lw_tbl := List.mem_of_getElem? (i := 433) (by decide +kernel)
theorem k_434 : Cond.selects RX0 yX0_layerAt yX0_layerAt ∈ lw_tbl := List.mem_of_getElem? (i := 434) (by decide +kernel)
theorem k_435 : Cond.code yX0_layerAt cX0_layerAt 2 (some (FieldType.object "AdjustmentStack$Layer")) ∈ lw_tbl := List.mem_of_getElem? (i := 435) (by decide +kernel)
theorem k_436 : Cond.methodLink RX0 48 yX0_nextLayer ∈ lw_tbl := List.mem_of_getElem? (i := 436) (by decide +kernel)
theorem k_438 : Cond.instanceMethod yX0_nextLayer ∈ lw_tbl := List.mem_of_getElem? (i := 438) (by decide +kernel)
theorem k_439 : Cond.code yX0_nextLayer cX0_nextLayer 1 (some (FieldType.object "AdjustmentStack$Layer")) ∈ lw_tbl := List.mem_of_getElem? (i := 439) (by decide +kernel)
theorem k_440 : Cond.methodLink RX0 63 yX0_isFull ∈ lw_tbl := List.mem_of_getElem? (i := 440) (by decide +kernel)
theorem k_441 : Cond.instanceMethod yX0_isFull ∈ lw_tbl := List.mem_of_getElem? (i := 441) (by decide +kernel)
theorem k_442 : Cond.selects RX0 yX0_isFull yX0_isFull ∈ lw_tbl := List.mem_of_getElem? (i := 442) (by decide +kernel)
theorem k_443 : Cond.code yX0_isFull cX0_isFull 1 (some FieldType.boolean) ∈ lw_tbl := List.mem_of_getElem? (i := 443) (by decide +kernel)
theorem k_444 : Cond.methodLink RX0 52 yX3_copyFrom ∈ lw_tbl := List.mem_of_getElem? (i := 444) (by decide +kernel)
theorem k_445 : Cond.instanceMethod yX3_copyFrom ∈ lw_tbl := List.mem_of_getElem? (i := 445) (by decide +kernel)
theorem k_446 : Cond.selects RX3 yX3_copyFrom yX3_copyFrom ∈ lw_tbl := List.mem_of_getElem? (i := 446) (by decide +kernel)
theorem k_447 : Cond.code yX3_copyFrom cX3_copyFrom 2 none ∈ lw_tbl := List.mem_of_getElem? (i := 447) (by decide +kernel)
theorem k_448 : Cond.methodLink RX3 43 yX4_copyFrom ∈ lw_tbl := List.mem_of_getElem? (i := 448) (by decide +kernel)
theorem k_449 : Cond.instanceMethod yX4_copyFrom ∈ lw_tbl := List.mem_of_getElem? (i := 449) (by decide +kernel)
theorem k_450 : Cond.selects RX4 yX4_copyFrom yX4_copyFrom ∈ lw_tbl := List.mem_of_getElem? (i := 450) (by decide +kernel)
theorem k_451 : Cond.code yX4_copyFrom cX4_copyFrom 3 none ∈ lw_tbl := List.mem_of_getElem? (i := 451) (by decide +kernel)
theorem k_452 : Cond.methodLink RX4 35 yX4_define ∈ lw_tbl := List.mem_of_getElem? (i := 452) (by decide +kernel)
theorem k_453 : Cond.instanceMethod yX4_define ∈ lw_tbl := List.mem_of_getElem? (i := 453) (by decide +kernel)
theorem k_454 : Cond.selects RX4 yX4_define yX4_define ∈ lw_tbl := List.mem_of_getElem? (i := 454) (by decide +kernel)
theorem k_455 : Cond.code yX4_define cX4_define 6 none ∈ lw_tbl := List.mem_of_getElem? (i := 455) (by decide +kernel)
theorem k_456 : Cond.methodLink RX10 76 yX9_removeAll ∈ lw_tbl := List.mem_of_getElem? (i := 456) (by decide +kernel)
theorem k_457 : Cond.instanceMethod yX9_removeAll ∈ lw_tbl := List.mem_of_getElem? (i := 457) (by decide +kernel)
theorem k_458 : Cond.selects RX9 yX9_removeAll yX9_removeAll ∈ lw_tbl := List.mem_of_getElem? (i := 458) (by decide +kernel)
theorem k_459 : Cond.code yX9_removeAll cX9_removeAll 1 (some FieldType.int) ∈ lw_tbl := List.mem_of_getElem? (i := 459) (by decide +kernel)
theorem k_460 : Cond.methodLink RX9 69 yX9_removeFrom ∈ lw_tbl := List.mem_of_getElem? (i := 460) (by decide +kernel)
theorem k_461 : Cond.instanceMethod yX9_removeFrom ∈ lw_tbl := List.mem_of_getElem? (i := 461) (by decide +kernel)
theorem k_462 : Cond.selects RX9 yX9_removeFrom yX9_removeFrom ∈ lw_tbl := List.mem_of_getElem? (i := 462) (by decide +kernel)
theorem k_463 : Cond.code yX9_removeFrom cX9_removeFrom 2 (some FieldType.int) ∈ lw_tbl := List.mem_of_getElem? (i := 463) (by decide +kernel)
theorem k_464 : Cond.methodLink RX9 72 yX9_removeSlots ∈ lw_tbl := List.mem_of_getElem? (i := 464) (by decide +kernel)
theorem k_466 : Cond.instanceMethod yX9_removeSlots ∈ lw_tbl := List.mem_of_getElem? (i := 466) (by decide +kernel)
theorem k_467 : Cond.code yX9_removeSlots cX9_removeSlots 5 (some FieldType.int) ∈ lw_tbl := List.mem_of_getElem? (i := 467) (by decide +kernel)
theorem k_468 : Cond.methodLink RX9 53 yJ9_max_7cf53 ∈ lw_tbl := List.mem_of_getElem? (i := 468) (by decide +kernel)
theorem k_469 : Cond.static yJ9_max_7cf53 ∈ lw_tbl := List.mem_of_getElem? (i := 469) (by decide +kernel)
theorem k_470 : Cond.code yJ9_max_7cf53 cJ9_max_7cf53 2 (some FieldType.int) ∈ lw_tbl := List.mem_of_getElem? (i := 470) (by decide +kernel)
theorem k_471 : Cond.methodLink RX9 62 yX9_remove ∈ lw_tbl := List.mem_of_getElem? (i := 471) (by decide +kernel)
theorem k_473 : Cond.instanceMethod yX9_remove ∈ lw_tbl := List.mem_of_getElem? (i := 473) (by decide +kernel)
theorem k_474 : Cond.code yX9_remove cX9_remove 2 (some FieldType.int) ∈ lw_tbl := List.mem_of_getElem? (i := 474) (by decide +kernel)
theorem k_475 : Cond.methodLink RL 18 yX10_setPixel ∈ lw_tbl := List.mem_of_getElem? (i := 475) (by decide +kernel)
theorem k_476 : Cond.instanceMethod yX10_setPixel ∈ lw_tbl := List.mem_of_getElem? (i := 476) (by decide +kernel)
theorem k_477 : Cond.selects RX10 yX10_setPixel yX10_setPixel ∈ lw_tbl := List.mem_of_getElem? (i := 477) (by decide +kernel)
theorem k_478 : Cond.code yX10_setPixel cX10_setPixel 4 (some FieldType.int) ∈ lw_tbl := List.mem_of_getElem? (i := 478) (by decide +kernel)
theorem k_479 : Cond.methodLink RX10 80 yX6_contains ∈ lw_tbl := List.mem_of_getElem? (i := 479) (by decide +kernel)
theorem k_480 : Cond.instanceMethod yX6_contains ∈ lw_tbl := List.mem_of_getElem? (i := 480) (by decide +kernel)
theorem k_481 : Cond.selects RX6 yX6_contains yX6_contains ∈ lw_tbl := List.mem_of_getElem? (i := 481) (by decide +kernel)
theorem k_482 : Cond.code yX6_contains cX6_contains 3 (some FieldType.boolean) ∈ lw_tbl := List.mem_of_getElem? (i := 482) (by decide +kernel)
theorem k_483 : Cond.methodLink RX10 84 yX10_paint ∈ lw_tbl := List.mem_of_getElem? (i := 483) (by decide +kernel)
theorem k_485 : Cond.instanceMethod yX10_paint ∈ lw_tbl := List.mem_of_getElem? (i := 485) (by decide +kernel)
theorem k_486 : Cond.code yX10_paint cX10_paint 8 (some FieldType.int) ∈ lw_tbl := List.mem_of_getElem? (i := 486) (by decide +kernel)
theorem k_487 : Cond.methodLink RX10 110 yX6_put ∈ lw_tbl := List.mem_of_getElem? (i := 487) (by decide +kernel)
theorem k_488 : Cond.methodLink RX10 114 yX10_removeTilesThatSee ∈ lw_tbl := List.mem_of_getElem? (i := 488) (by decide +kernel)
theorem k_490 : Cond.instanceMethod yX10_removeTilesThatSee ∈ lw_tbl := List.mem_of_getElem? (i := 490) (by decide +kernel)
theorem k_491 : Cond.code yX10_removeTilesThatSee cX10_removeTilesThatSee 9 (some FieldType.int) ∈ lw_tbl := List.mem_of_getElem? (i := 491) (by decide +kernel)
theorem k_492 : Cond.methodLink RX10 95 yX0_layerCount ∈ lw_tbl := List.mem_of_getElem? (i := 492) (by decide +kernel)
theorem k_493 : Cond.instanceMethod yX0_layerCount ∈ lw_tbl := List.mem_of_getElem? (i := 493) (by decide +kernel)
theorem k_494 : Cond.selects RX0 yX0_layerCount yX0_layerCount ∈ lw_tbl := List.mem_of_getElem? (i := 494) (by decide +kernel)
theorem k_495 : Cond.code yX0_layerCount cX0_layerCount 1 (some FieldType.int) ∈ lw_tbl := List.mem_of_getElem? (i := 495) (by decide +kernel)
theorem k_496 : Cond.methodLink RX10 118 yX0_layerAt ∈ lw_tbl := List.mem_of_getElem? (i := 496) (by decide +kernel)
theorem k_497 : Cond.methodLink RX10 128 yX3_reach ∈ lw_tbl := List.mem_of_getElem? (i := 497) (by decide +kernel)
theorem k_498 : Cond.instanceMethod yX3_reach ∈ lw_tbl := List.mem_of_getElem? (i := 498) (by decide +kernel)
theorem k_499 : Cond.selects RX3 yX3_reach yX3_reach ∈ lw_tbl := List.mem_of_getElem? (i := 499) (by decide +kernel)
theorem k_500 : Cond.code yX3_reach cX3_reach 1 (some FieldType.int) ∈ lw_tbl := List.mem_of_getElem? (i := 500) (by decide +kernel)
theorem k_501 : Cond.methodLink RX3 51 yX3_seesNeighbourhood ∈ lw_tbl := List.mem_of_getElem? (i := 501) (by decide +kernel)
theorem k_502 : Cond.instanceMethod yX3_seesNeighbourhood ∈ lw_tbl := List.mem_of_getElem? (i := 502) (by decide +kernel)
theorem k_503 : Cond.selects RX3 yX3_seesNeighbourhood yX3_seesNeighbourhood ∈ lw_tbl := List.mem_of_getElem? (i := 503) (by decide +kernel)
theorem k_504 : Cond.code yX3_seesNeighbourhood cX3_seesNeighbourhood 1 (some FieldType.boolean) ∈ lw_tbl := List.mem_of_getElem? (i := 504) (by decide +kernel)
theorem k_505 : Cond.methodLinkNest RX3 47 yX10_within RX10 ∈ lw_tbl := List.mem_of_getElem? (i := 505) (by decide +kernel)
theorem k_506 : Cond.methodLink RX3 55 yJ9_abs_0f7a4 ∈ lw_tbl := List.mem_of_getElem? (i := 506) (by decide +kernel)
theorem k_507 : Cond.static yJ9_abs_0f7a4 ∈ lw_tbl := List.mem_of_getElem? (i := 507) (by decide +kernel)
theorem k_508 : Cond.code yJ9_abs_0f7a4 cJ9_abs_0f7a4 1 (some FieldType.int) ∈ lw_tbl := List.mem_of_getElem? (i := 508) (by decide +kernel)
theorem k_509 : Cond.methodLink RX3 61 yJ9_max_7cf53 ∈ lw_tbl := List.mem_of_getElem? (i := 509) (by decide +kernel)
theorem k_510 : Cond.methodLink RX10 131 yJ9_max_7cf53 ∈ lw_tbl := List.mem_of_getElem? (i := 510) (by decide +kernel)
theorem k_511 : Cond.methodLink RX10 137 yJ9_min_7cf53 ∈ lw_tbl := List.mem_of_getElem? (i := 511) (by decide +kernel)
theorem k_512 : Cond.static yJ9_min_7cf53 ∈ lw_tbl := List.mem_of_getElem? (i := 512) (by decide +kernel)
theorem k_513 : Cond.code yJ9_min_7cf53 cJ9_min_7cf53 2 (some FieldType.int) ∈ lw_tbl := List.mem_of_getElem? (i := 513) (by decide +kernel)
theorem k_514 : Cond.methodLink RX10 140 yX9_removeTouched ∈ lw_tbl := List.mem_of_getElem? (i := 514) (by decide +kernel)
theorem k_515 : Cond.instanceMethod yX9_removeTouched ∈ lw_tbl := List.mem_of_getElem? (i := 515) (by decide +kernel)
theorem k_516 : Cond.selects RX9 yX9_removeTouched yX9_removeTouched ∈ lw_tbl := List.mem_of_getElem? (i := 516) (by decide +kernel)
theorem k_517 : Cond.code yX9_removeTouched cX9_removeTouched 9 (some FieldType.int) ∈ lw_tbl := List.mem_of_getElem? (i := 517) (by decide +kernel)
theorem k_518 : Cond.methodLink RX9 75 yX9_tileOf ∈ lw_tbl := List.mem_of_getElem? (i := 518) (by decide +kernel)
theorem k_519 : Cond.instanceMethod yX9_tileOf ∈ lw_tbl := List.mem_of_getElem? (i := 519) (by decide +kernel)
theorem k_520 : Cond.selects RX9 yX9_tileOf yX9_tileOf ∈ lw_tbl := List.mem_of_getElem? (i := 520) (by decide +kernel)
theorem k_521 : Cond.code yX9_tileOf cX9_tileOf 2 (some FieldType.int) ∈ lw_tbl := List.mem_of_getElem? (i := 521) (by decide +kernel)
theorem k_522 : Cond.methodLinkNest RX9 29 yX10_divided RX10 ∈ lw_tbl := List.mem_of_getElem? (i := 522) (by decide +kernel)
theorem k_523 : Cond.static yX10_divided ∈ lw_tbl := List.mem_of_getElem? (i := 523) (by decide +kernel)
theorem k_524 : Cond.code yX10_divided cX10_divided 2 (some FieldType.int) ∈ lw_tbl := List.mem_of_getElem? (i := 524) (by decide +kernel)
theorem k_525 : Cond.methodLink RX10 338 yJ9_floorDiv_7cf53 ∈ lw_tbl := List.mem_of_getElem? (i := 525) (by decide +kernel)
theorem k_526 : Cond.static yJ9_floorDiv_7cf53 ∈ lw_tbl := List.mem_of_getElem? (i := 526) (by decide +kernel)
theorem k_527 : Cond.code yJ9_floorDiv_7cf53 cJ9_floorDiv_7cf53 3 (some FieldType.int) ∈ lw_tbl := List.mem_of_getElem? (i := 527) (by decide +kernel)
theorem k_528 : Cond.methodLink RX9 33 yX9_slotOf ∈ lw_tbl := List.mem_of_getElem? (i := 528) (by decide +kernel)
theorem k_529 : Cond.static yX9_slotOf ∈ lw_tbl := List.mem_of_getElem? (i := 529) (by decide +kernel)
theorem k_530 : Cond.code yX9_slotOf cX9_slotOf 3 (some FieldType.int) ∈ lw_tbl := List.mem_of_getElem? (i := 530) (by decide +kernel)
theorem k_531 : Cond.methodLink RL 23 yX10_fillRectangle ∈ lw_tbl := List.mem_of_getElem? (i := 531) (by decide +kernel)
theorem k_532 : Cond.instanceMethod yX10_fillRectangle ∈ lw_tbl := List.mem_of_getElem? (i := 532) (by decide +kernel)
theorem k_533 : Cond.selects RX10 yX10_fillRectangle yX10_fillRectangle ∈ lw_tbl := List.mem_of_getElem? (i := 533) (by decide +kernel)
theorem k_534 : Cond.code yX10_fillRectangle cX10_fillRectangle 8 (some FieldType.int) ∈ lw_tbl := List.mem_of_getElem? (i := 534) (by decide +kernel)
theorem k_535 : Cond.methodLink RL 28 yX10_size ∈ lw_tbl := List.mem_of_getElem? (i := 535) (by decide +kernel)
theorem k_536 : Cond.instanceMethod yX10_size ∈ lw_tbl := List.mem_of_getElem? (i := 536) (by decide +kernel)
theorem k_537 : Cond.selects RX10 yX10_size yX10_size ∈ lw_tbl := List.mem_of_getElem? (i := 537) (by decide +kernel)
theorem k_538 : Cond.code yX10_size cX10_size 2 (some FieldType.int) ∈ lw_tbl := List.mem_of_getElem? (i := 538) (by decide +kernel)
theorem k_539 : Cond.methodLink RX10 101 yX10_tileColumns ∈ lw_tbl := List.mem_of_getElem? (i := 539) (by decide +kernel)
theorem k_541 : Cond.instanceMethod yX10_tileColumns ∈ lw_tbl := List.mem_of_getElem? (i := 541) (by decide +kernel)
theorem k_542 : Cond.code yX10_tileColumns cX10_tileColumns 1 (some FieldType.int) ∈ lw_tbl := List.mem_of_getElem? (i := 542) (by decide +kernel)
theorem k_543 : Cond.methodLink RX10 253 yX9_tileOf ∈ lw_tbl := List.mem_of_getElem? (i := 543) (by decide +kernel)
theorem k_544 : Cond.methodLink RX10 104 yX10_tileRows ∈ lw_tbl := List.mem_of_getElem? (i := 544) (by decide +kernel)
theorem k_546 : Cond.instanceMethod yX10_tileRows ∈ lw_tbl := List.mem_of_getElem? (i := 546) (by decide +kernel)
theorem k_547 : Cond.code yX10_tileRows cX10_tileRows 1 (some FieldType.int) ∈ lw_tbl := List.mem_of_getElem? (i := 547) (by decide +kernel)
theorem k_548 : Cond.methodLink RL 33 yX10_addLayer ∈ lw_tbl := List.mem_of_getElem? (i := 548) (by decide +kernel)
theorem k_549 : Cond.instanceMethod yX10_addLayer ∈ lw_tbl := List.mem_of_getElem? (i := 549) (by decide +kernel)
theorem k_550 : Cond.selects RX10 yX10_addLayer yX10_addLayer ∈ lw_tbl := List.mem_of_getElem? (i := 550) (by decide +kernel)
theorem k_551 : Cond.code yX10_addLayer cX10_addLayer 4 (some FieldType.int) ∈ lw_tbl := List.mem_of_getElem? (i := 551) (by decide +kernel)
theorem k_552 : Cond.methodLink RX10 143 yX2_allow ∈ lw_tbl := List.mem_of_getElem? (i := 552) (by decide +kernel)
theorem k_553 : Cond.static yX2_allow ∈ lw_tbl := List.mem_of_getElem? (i := 553) (by decide +kernel)
theorem k_554 : Cond.code yX2_allow cX2_allow 3 (some FieldType.boolean) ∈ lw_tbl := List.mem_of_getElem? (i := 554) (by decide +kernel)
theorem k_555 : Cond.methodLinkNest RX2 11 yX10_within RX10 ∈ lw_tbl := List.mem_of_getElem? (i := 555) (by decide +kernel)
theorem k_556 : Cond.methodLink RX2 15 yX2_lowestA ∈ lw_tbl := List.mem_of_getElem? (i := 556) (by decide +kernel)
theorem k_557 : Cond.static yX2_lowestA ∈ lw_tbl := List.mem_of_getElem? (i := 557) (by decide +kernel)
theorem k_558 : Cond.code yX2_lowestA cX2_lowestA 1 (some FieldType.int) ∈ lw_tbl := List.mem_of_getElem? (i := 558) (by decide +kernel)
theorem k_559 : Cond.fieldLink RX2 37 RX2 (zStN 1) "[I" ∈ lw_tbl := List.mem_of_getElem? (i := 559) (by decide +kernel)
theorem k_561 : Cond.methodLink RX2 33 yX2_entry ∈ lw_tbl := List.mem_of_getElem? (i := 561) (by decide +kernel)
theorem k_562 : Cond.static yX2_entry ∈ lw_tbl := List.mem_of_getElem? (i := 562) (by decide +kernel)
theorem k_563 : Cond.code yX2_entry cX2_entry 2 (some FieldType.int) ∈ lw_tbl := List.mem_of_getElem? (i := 563) (by decide +kernel)
theorem k_564 : Cond.methodLink RX2 19 yX2_highestA ∈ lw_tbl := List.mem_of_getElem? (i := 564) (by decide +kernel)
theorem k_565 : Cond.static yX2_highestA ∈ lw_tbl := List.mem_of_getElem? (i := 565) (by decide +kernel)
theorem k_566 : Cond.code yX2_highestA cX2_highestA 1 (some FieldType.int) ∈ lw_tbl := List.mem_of_getElem? (i := 566) (by decide +kernel)
theorem k_567 : Cond.fieldLink RX2 40 RX2 (zStN 2) "[I" ∈ lw_tbl := List.mem_of_getElem? (i := 567) (by decide +kernel)
theorem k_569 : Cond.methodLink RX2 22 yX2_lowestB ∈ lw_tbl := List.mem_of_getElem? (i := 569) (by decide +kernel)
theorem k_570 : Cond.static yX2_lowestB ∈ lw_tbl := List.mem_of_getElem? (i := 570) (by decide +kernel)
theorem k_571 : Cond.code yX2_lowestB cX2_lowestB 2 (some FieldType.int) ∈ lw_tbl := List.mem_of_getElem? (i := 571) (by decide +kernel)
theorem k_572 : Cond.fieldLink RX2 43 RX2 (zStN 3) "[I" ∈ lw_tbl := List.mem_of_getElem? (i := 572) (by decide +kernel)
theorem k_574 : Cond.methodLink RX2 26 yX2_highestB ∈ lw_tbl := List.mem_of_getElem? (i := 574) (by decide +kernel)
theorem k_575 : Cond.static yX2_highestB ∈ lw_tbl := List.mem_of_getElem? (i := 575) (by decide +kernel)
theorem k_576 : Cond.code yX2_highestB cX2_highestB 1 (some FieldType.int) ∈ lw_tbl := List.mem_of_getElem? (i := 576) (by decide +kernel)
theorem k_577 : Cond.fieldLink RX2 46 RX2 (zStN 4) "[I" ∈ lw_tbl := List.mem_of_getElem? (i := 577) (by decide +kernel)
theorem k_579 : Cond.methodLink RX10 148 yX0_isFull ∈ lw_tbl := List.mem_of_getElem? (i := 579) (by decide +kernel)
theorem k_580 : Cond.methodLink RX10 152 yX0_addFresh ∈ lw_tbl := List.mem_of_getElem? (i := 580) (by decide +kernel)
theorem k_581 : Cond.instanceMethod yX0_addFresh ∈ lw_tbl := List.mem_of_getElem? (i := 581) (by decide +kernel)
theorem k_582 : Cond.selects RX0 yX0_addFresh yX0_addFresh ∈ lw_tbl := List.mem_of_getElem? (i := 582) (by decide +kernel)
theorem k_583 : Cond.code yX0_addFresh cX0_addFresh 5 (some (FieldType.object "AdjustmentStack$Layer")) ∈ lw_tbl := List.mem_of_getElem? (i := 583) (by decide +kernel)
theorem k_584 : Cond.methodLink RX0 55 yX3_startAs ∈ lw_tbl := List.mem_of_getElem? (i := 584) (by decide +kernel)
theorem k_585 : Cond.instanceMethod yX3_startAs ∈ lw_tbl := List.mem_of_getElem? (i := 585) (by decide +kernel)
theorem k_586 : Cond.selects RX3 yX3_startAs yX3_startAs ∈ lw_tbl := List.mem_of_getElem? (i := 586) (by decide +kernel)
theorem k_587 : Cond.code yX3_startAs cX3_startAs 4 none ∈ lw_tbl := List.mem_of_getElem? (i := 587) (by decide +kernel)
theorem k_588 : Cond.methodLink RX3 40 yX4_startAnew ∈ lw_tbl := List.mem_of_getElem? (i := 588) (by decide +kernel)
theorem k_589 : Cond.instanceMethod yX4_startAnew ∈ lw_tbl := List.mem_of_getElem? (i := 589) (by decide +kernel)
theorem k_590 : Cond.selects RX4 yX4_startAnew yX4_startAnew ∈ lw_tbl := List.mem_of_getElem? (i := 590) (by decide +kernel)
theorem k_591 : Cond.code yX4_startAnew cX4_startAnew 1 none ∈ lw_tbl := List.mem_of_getElem? (i := 591) (by decide +kernel)
theorem k_592 : Cond.methodLink RL 37 yX10_setParameters ∈ lw_tbl := List.mem_of_getElem? (i := 592) (by decide +kernel)
theorem k_593 : Cond.instanceMethod yX10_setParameters ∈ lw_tbl := List.mem_of_getElem? (i := 593) (by decide +kernel)
theorem k_594 : Cond.selects RX10 yX10_setParameters yX10_setParameters ∈ lw_tbl := List.mem_of_getElem? (i := 594) (by decide +kernel)
theorem k_595 : Cond.code yX10_setParameters cX10_setParameters 6 (some FieldType.int) ∈ lw_tbl := List.mem_of_getElem? (i := 595) (by decide +kernel)
theorem k_596 : Cond.methodLink RX10 162 yX10_startChangeOf ∈ lw_tbl := List.mem_of_getElem? (i := 596) (by decide +kernel)
theorem k_598 : Cond.instanceMethod yX10_startChangeOf ∈ lw_tbl := List.mem_of_getElem? (i := 598) (by decide +kernel)
theorem k_599 : Cond.code yX10_startChangeOf cX10_startChangeOf 2 none ∈ lw_tbl := List.mem_of_getElem? (i := 599) (by decide +kernel)
theorem k_600 : Cond.methodLink RX10 208 yX9_removeFrom ∈ lw_tbl := List.mem_of_getElem? (i := 600) (by decide +kernel)
theorem k_601 : Cond.methodLink RL 41 yX10_setBlend ∈ lw_tbl := List.mem_of_getElem? (i := 601) (by decide +kernel)
theorem k_602 : Cond.instanceMethod yX10_setBlend ∈ lw_tbl := List.mem_of_getElem? (i := 602) (by decide +kernel)
theorem k_603 : Cond.selects RX10 yX10_setBlend yX10_setBlend ∈ lw_tbl := List.mem_of_getElem? (i := 603) (by decide +kernel)
theorem k_604 : Cond.code yX10_setBlend cX10_setBlend 6 (some FieldType.int) ∈ lw_tbl := List.mem_of_getElem? (i := 604) (by decide +kernel)
theorem k_605 : Cond.methodLink RL 45 yX10_setEnabled ∈ lw_tbl := List.mem_of_getElem? (i := 605) (by decide +kernel)
theorem k_606 : Cond.instanceMethod yX10_setEnabled ∈ lw_tbl := List.mem_of_getElem? (i := 606) (by decide +kernel)
theorem k_607 : Cond.selects RX10 yX10_setEnabled yX10_setEnabled ∈ lw_tbl := List.mem_of_getElem? (i := 607) (by decide +kernel)
theorem k_608 : Cond.code yX10_setEnabled cX10_setEnabled 5 (some FieldType.int) ∈ lw_tbl := List.mem_of_getElem? (i := 608) (by decide +kernel)
theorem k_609 : Cond.methodLink RX10 175 yX0_enabledCount ∈ lw_tbl := List.mem_of_getElem? (i := 609) (by decide +kernel)
theorem k_610 : Cond.instanceMethod yX0_enabledCount ∈ lw_tbl := List.mem_of_getElem? (i := 610) (by decide +kernel)
theorem k_611 : Cond.selects RX0 yX0_enabledCount yX0_enabledCount ∈ lw_tbl := List.mem_of_getElem? (i := 611) (by decide +kernel)
theorem k_612 : Cond.code yX0_enabledCount cX0_enabledCount 4 (some FieldType.int) ∈ lw_tbl := List.mem_of_getElem? (i := 612) (by decide +kernel)
theorem k_613 : Cond.methodLink RL 49 yX10_moveLayer ∈ lw_tbl := List.mem_of_getElem? (i := 613) (by decide +kernel)
theorem k_614 : Cond.instanceMethod yX10_moveLayer ∈ lw_tbl := List.mem_of_getElem? (i := 614) (by decide +kernel)
theorem k_615 : Cond.selects RX10 yX10_moveLayer yX10_moveLayer ∈ lw_tbl := List.mem_of_getElem? (i := 615) (by decide +kernel)
theorem k_616 : Cond.code yX10_moveLayer cX10_moveLayer 4 (some FieldType.int) ∈ lw_tbl := List.mem_of_getElem? (i := 616) (by decide +kernel)
theorem k_617 : Cond.methodLink RX10 178 yX0_shift ∈ lw_tbl := List.mem_of_getElem? (i := 617) (by decide +kernel)
theorem k_618 : Cond.instanceMethod yX0_shift ∈ lw_tbl := List.mem_of_getElem? (i := 618) (by decide +kernel)
theorem k_619 : Cond.selects RX0 yX0_shift yX0_shift ∈ lw_tbl := List.mem_of_getElem? (i := 619) (by decide +kernel)
theorem k_620 : Cond.code yX0_shift cX0_shift 5 none ∈ lw_tbl := List.mem_of_getElem? (i := 620) (by decide +kernel)
theorem k_621 : Cond.methodLink RL 53 yX10_duplicateLayer ∈ lw_tbl := List.mem_of_getElem? (i := 621) (by decide +kernel)
theorem k_622 : Cond.instanceMethod yX10_duplicateLayer ∈ lw_tbl := List.mem_of_getElem? (i := 622) (by decide +kernel)
theorem k_623 : Cond.selects RX10 yX10_duplicateLayer yX10_duplicateLayer ∈ lw_tbl := List.mem_of_getElem? (i := 623) (by decide +kernel)
theorem k_624 : Cond.code yX10_duplicateLayer cX10_duplicateLayer 2 (some FieldType.int) ∈ lw_tbl := List.mem_of_getElem? (i := 624) (by decide +kernel)
theorem k_625 : Cond.methodLink RX10 181 yX0_addCopyAbove ∈ lw_tbl := List.mem_of_getElem? (i := 625) (by decide +kernel)
theorem k_626 : Cond.instanceMethod yX0_addCopyAbove ∈ lw_tbl := List.mem_of_getElem? (i := 626) (by decide +kernel)
theorem k_627 : Cond.selects RX0 yX0_addCopyAbove yX0_addCopyAbove ∈ lw_tbl := List.mem_of_getElem? (i := 627) (by decide +kernel)
theorem k_628 : Cond.code yX0_addCopyAbove cX0_addCopyAbove 4 none ∈ lw_tbl := List.mem_of_getElem? (i := 628) (by decide +kernel)
theorem k_629 : Cond.methodLink RX0 59 yX0_shift ∈ lw_tbl := List.mem_of_getElem? (i := 629) (by decide +kernel)
theorem k_630 : Cond.methodLink RL 57 yX10_removeLayer ∈ lw_tbl := List.mem_of_getElem? (i := 630) (by decide +kernel)
theorem k_631 : Cond.instanceMethod yX10_removeLayer ∈ lw_tbl := List.mem_of_getElem? (i := 631) (by decide +kernel)
theorem k_632 : Cond.selects RX10 yX10_removeLayer yX10_removeLayer ∈ lw_tbl := List.mem_of_getElem? (i := 632) (by decide +kernel)
theorem k_633 : Cond.code yX10_removeLayer cX10_removeLayer 2 (some FieldType.int) ∈ lw_tbl := List.mem_of_getElem? (i := 633) (by decide +kernel)
theorem k_634 : Cond.methodLink RX10 184 yX0_takeOut ∈ lw_tbl := List.mem_of_getElem? (i := 634) (by decide +kernel)
theorem k_635 : Cond.instanceMethod yX0_takeOut ∈ lw_tbl := List.mem_of_getElem? (i := 635) (by decide +kernel)
theorem k_636 : Cond.selects RX0 yX0_takeOut yX0_takeOut ∈ lw_tbl := List.mem_of_getElem? (i := 636) (by decide +kernel)
theorem k_637 : Cond.code yX0_takeOut cX0_takeOut 2 none ∈ lw_tbl := List.mem_of_getElem? (i := 637) (by decide +kernel)
theorem k_638 : Cond.methodLink RL 61 yX10_flatten ∈ lw_tbl := List.mem_of_getElem? (i := 638) (by decide +kernel)
theorem k_639 : Cond.instanceMethod yX10_flatten ∈ lw_tbl := List.mem_of_getElem? (i := 639) (by decide +kernel)
theorem k_640 : Cond.selects RX10 yX10_flatten yX10_flatten ∈ lw_tbl := List.mem_of_getElem? (i := 640) (by decide +kernel)
theorem k_641 : Cond.code yX10_flatten cX10_flatten 3 (some FieldType.int) ∈ lw_tbl := List.mem_of_getElem? (i := 641) (by decide +kernel)
theorem k_642 : Cond.methodLink RX10 187 yX7_renderStack ∈ lw_tbl := List.mem_of_getElem? (i := 642) (by decide +kernel)
theorem k_643 : Cond.instanceMethod yX7_renderStack ∈ lw_tbl := List.mem_of_getElem? (i := 643) (by decide +kernel)
theorem k_644 : Cond.selects RX7 yX7_renderStack yX7_renderStack ∈ lw_tbl := List.mem_of_getElem? (i := 644) (by decide +kernel)
theorem k_645 : Cond.code yX7_renderStack cX7_renderStack 6 none ∈ lw_tbl := List.mem_of_getElem? (i := 645) (by decide +kernel)
theorem k_646 : Cond.methodLink RX7 27 yX6_copyFrom ∈ lw_tbl := List.mem_of_getElem? (i := 646) (by decide +kernel)
theorem k_647 : Cond.methodLink RX7 31 yX0_layerCount ∈ lw_tbl := List.mem_of_getElem? (i := 647) (by decide +kernel)
theorem k_648 : Cond.methodLink RX7 35 yX0_layerAt ∈ lw_tbl := List.mem_of_getElem? (i := 648) (by decide +kernel)
theorem k_649 : Cond.methodLink RX7 45 yX7_render ∈ lw_tbl := List.mem_of_getElem? (i := 649) (by decide +kernel)
theorem k_650 : Cond.instanceMethod yX7_render ∈ lw_tbl := List.mem_of_getElem? (i := 650) (by decide +kernel)
theorem k_651 : Cond.selects RX7 yX7_render yX7_render ∈ lw_tbl := List.mem_of_getElem? (i := 651) (by decide +kernel)
theorem k_652 : Cond.code yX7_render cX7_render 12 none ∈ lw_tbl := List.mem_of_getElem? (i := 652) (by decide +kernel)
theorem k_653 : Cond.methodLink RX7 49 yX6_takeSizeOf ∈ lw_tbl := List.mem_of_getElem? (i := 653) (by decide +kernel)
theorem k_654 : Cond.methodLink RX7 56 yX7_findExtremes ∈ lw_tbl := List.mem_of_getElem? (i := 654) (by decide +kernel)
theorem k_656 : Cond.instanceMethod yX7_findExtremes ∈ lw_tbl := List.mem_of_getElem? (i := 656) (by decide +kernel)
theorem k_657 : Cond.code yX7_findExtremes cX7_findExtremes 5 none ∈ lw_tbl := List.mem_of_getElem? (i := 657) (by decide +kernel)
theorem k_658 : Cond.methodLink RX7 65 yX6_at ∈ lw_tbl := List.mem_of_getElem? (i := 658) (by decide +kernel)
theorem k_659 : Cond.methodLink RX7 140 yJ9_min_7cf53 ∈ lw_tbl := List.mem_of_getElem? (i := 659) (by decide +kernel)
theorem k_660 : Cond.methodLink RX7 145 yJ9_max_7cf53 ∈ lw_tbl := List.mem_of_getElem? (i := 660) (by decide +kernel)
theorem k_661 : Cond.methodLink RX7 72 yX7_adjusted ∈ lw_tbl := List.mem_of_getElem? (i := 661) (by decide +kernel)
theorem k_663 : Cond.instanceMethod yX7_adjusted ∈ lw_tbl := List.mem_of_getElem? (i := 663) (by decide +kernel)
theorem k_664 : Cond.code yX7_adjusted cX7_adjusted 8 (some FieldType.int) ∈ lw_tbl := List.mem_of_getElem? (i := 664) (by decide +kernel)
theorem k_665 : Cond.methodLink RX7 107 yX3_seesNeighbourhood ∈ lw_tbl := List.mem_of_getElem? (i := 665) (by decide +kernel)
theorem k_666 : Cond.methodLink RX7 111 yX7_gatherNeighbours ∈ lw_tbl := List.mem_of_getElem? (i := 666) (by decide +kernel)
theorem k_668 : Cond.instanceMethod yX7_gatherNeighbours ∈ lw_tbl := List.mem_of_getElem? (i := 668) (by decide +kernel)
theorem k_669 : Cond.code yX7_gatherNeighbours cX7_gatherNeighbours 9 none ∈ lw_tbl := List.mem_of_getElem? (i := 669) (by decide +kernel)
theorem k_670 : Cond.methodLinkNest RX7 94 yX10_divided RX10 ∈ lw_tbl := List.mem_of_getElem? (i := 670) (by decide +kernel)
theorem k_671 : Cond.methodLinkNest RX7 115 yX10_clamped RX10 ∈ lw_tbl := List.mem_of_getElem? (i := 671) (by decide +kernel)
theorem k_672 : Cond.static yX10_clamped ∈ lw_tbl := List.mem_of_getElem? (i := 672) (by decide +kernel)
theorem k_673 : Cond.code yX10_clamped cX10_clamped 1 (some FieldType.int) ∈ lw_tbl := List.mem_of_getElem? (i := 673) (by decide +kernel)
theorem k_674 : Cond.methodLink RX7 119 yX7_average ∈ lw_tbl := List.mem_of_getElem? (i := 674) (by decide +kernel)
theorem k_676 : Cond.instanceMethod yX7_average ∈ lw_tbl := List.mem_of_getElem? (i := 676) (by decide +kernel)
theorem k_677 : Cond.code yX7_average cX7_average 3 (some FieldType.int) ∈ lw_tbl := List.mem_of_getElem? (i := 677) (by decide +kernel)
theorem k_678 : Cond.methodLink RX7 122 yX7_median ∈ lw_tbl := List.mem_of_getElem? (i := 678) (by decide +kernel)
theorem k_680 : Cond.instanceMethod yX7_median ∈ lw_tbl := List.mem_of_getElem? (i := 680) (by decide +kernel)
theorem k_681 : Cond.code yX7_median cX7_median 2 (some FieldType.int) ∈ lw_tbl := List.mem_of_getElem? (i := 681) (by decide +kernel)
theorem k_682 : Cond.methodLink RX7 151 yX7_sortNeighbours ∈ lw_tbl := List.mem_of_getElem? (i := 682) (by decide +kernel)
theorem k_684 : Cond.instanceMethod yX7_sortNeighbours ∈ lw_tbl := List.mem_of_getElem? (i := 684) (by decide +kernel)
theorem k_685 : Cond.code yX7_sortNeighbours cX7_sortNeighbours 4 none ∈ lw_tbl := List.mem_of_getElem? (i := 685) (by decide +kernel)
theorem k_686 : Cond.methodLink RX7 125 yX7_greatest ∈ lw_tbl := List.mem_of_getElem? (i := 686) (by decide +kernel)
theorem k_688 : Cond.instanceMethod yX7_greatest ∈ lw_tbl := List.mem_of_getElem? (i := 688) (by decide +kernel)
theorem k_689 : Cond.code yX7_greatest cX7_greatest 3 (some FieldType.int) ∈ lw_tbl := List.mem_of_getElem? (i := 689) (by decide +kernel)
theorem k_690 : Cond.methodLink RX7 128 yX7_smallest ∈ lw_tbl := List.mem_of_getElem? (i := 690) (by decide +kernel)
theorem k_692 : Cond.instanceMethod yX7_smallest ∈ lw_tbl := List.mem_of_getElem? (i := 692) (by decide +kernel)
theorem k_693 : Cond.code yX7_smallest cX7_smallest 3 (some FieldType.int) ∈ lw_tbl := List.mem_of_getElem? (i := 693) (by decide +kernel)
theorem k_694 : Cond.methodLink RX7 131 yX6_atNearest ∈ lw_tbl := List.mem_of_getElem? (i := 694) (by decide +kernel)
theorem k_695 : Cond.instanceMethod yX6_atNearest ∈ lw_tbl := List.mem_of_getElem? (i := 695) (by decide +kernel)
theorem k_696 : Cond.selects RX6 yX6_atNearest yX6_atNearest ∈ lw_tbl := List.mem_of_getElem? (i := 696) (by decide +kernel)
theorem k_697 : Cond.code yX6_atNearest cX6_atNearest 3 (some FieldType.int) ∈ lw_tbl := List.mem_of_getElem? (i := 697) (by decide +kernel)
theorem k_698 : Cond.methodLink RX6 26 yJ9_min_7cf53 ∈ lw_tbl := List.mem_of_getElem? (i := 698) (by decide +kernel)
theorem k_699 : Cond.methodLink RX6 32 yJ9_max_7cf53 ∈ lw_tbl := List.mem_of_getElem? (i := 699) (by decide +kernel)
theorem k_700 : Cond.methodLink RX7 76 yX5_blended ∈ lw_tbl := List.mem_of_getElem? (i := 700) (by decide +kernel)
theorem k_701 : Cond.static yX5_blended ∈ lw_tbl := List.mem_of_getElem? (i := 701) (by decide +kernel)
theorem k_702 : Cond.code yX5_blended cX5_blended 3 (some FieldType.int) ∈ lw_tbl := List.mem_of_getElem? (i := 702) (by decide +kernel)
theorem k_703 : Cond.methodLinkNest RX5 9 yX10_divided RX10 ∈ lw_tbl := List.mem_of_getElem? (i := 703) (by decide +kernel)
theorem k_704 : Cond.methodLink RX5 13 yJ9_max_7cf53 ∈ lw_tbl := List.mem_of_getElem? (i := 704) (by decide +kernel)
theorem k_705 : Cond.methodLink RX5 18 yJ9_min_7cf53 ∈ lw_tbl := List.mem_of_getElem? (i := 705) (by decide +kernel)
theorem k_706 : Cond.methodLink RX5 21 yJ9_abs_0f7a4 ∈ lw_tbl := List.mem_of_getElem? (i := 706) (by decide +kernel)
theorem k_707 : Cond.methodLinkNest RX5 25 yX10_clamped RX10 ∈ lw_tbl := List.mem_of_getElem? (i := 707) (by decide +kernel)
theorem k_708 : Cond.methodLink RX7 86 yX4_weightAt ∈ lw_tbl := List.mem_of_getElem? (i := 708) (by decide +kernel)
theorem k_709 : Cond.instanceMethod yX4_weightAt ∈ lw_tbl := List.mem_of_getElem? (i := 709) (by decide +kernel)
theorem k_710 : Cond.selects RX4 yX4_weightAt yX4_weightAt ∈ lw_tbl := List.mem_of_getElem? (i := 710) (by decide +kernel)
theorem k_711 : Cond.code yX4_weightAt cX4_weightAt 5 (some FieldType.int) ∈ lw_tbl := List.mem_of_getElem? (i := 711) (by decide +kernel)
theorem k_712 : Cond.methodLink RX4 49 yX4_rectangleWeightAt ∈ lw_tbl := List.mem_of_getElem? (i := 712) (by decide +kernel)
theorem k_714 : Cond.instanceMethod yX4_rectangleWeightAt ∈ lw_tbl := List.mem_of_getElem? (i := 714) (by decide +kernel)
theorem k_715 : Cond.code yX4_rectangleWeightAt cX4_rectangleWeightAt 7 (some FieldType.int) ∈ lw_tbl := List.mem_of_getElem? (i := 715) (by decide +kernel)
theorem k_716 : Cond.methodLink RX4 61 yJ9_max_7cf53 ∈ lw_tbl := List.mem_of_getElem? (i := 716) (by decide +kernel)
theorem k_717 : Cond.methodLink RX4 53 yX4_gradientWeightAt ∈ lw_tbl := List.mem_of_getElem? (i := 717) (by decide +kernel)
theorem k_719 : Cond.instanceMethod yX4_gradientWeightAt ∈ lw_tbl := List.mem_of_getElem? (i := 719) (by decide +kernel)
theorem k_720 : Cond.code yX4_gradientWeightAt cX4_gradientWeightAt 3 (some FieldType.int) ∈ lw_tbl := List.mem_of_getElem? (i := 720) (by decide +kernel)
theorem k_721 : Cond.methodLink RX4 57 yX4_isDabbed ∈ lw_tbl := List.mem_of_getElem? (i := 721) (by decide +kernel)
theorem k_723 : Cond.instanceMethod yX4_isDabbed ∈ lw_tbl := List.mem_of_getElem? (i := 723) (by decide +kernel)
theorem k_724 : Cond.code yX4_isDabbed cX4_isDabbed 8 (some FieldType.boolean) ∈ lw_tbl := List.mem_of_getElem? (i := 724) (by decide +kernel)
theorem k_725 : Cond.methodLink RX7 97 yX6_put ∈ lw_tbl := List.mem_of_getElem? (i := 725) (by decide +kernel)
theorem k_726 : Cond.methodLink RX10 191 yX6_copyFrom ∈ lw_tbl := List.mem_of_getElem? (i := 726) (by decide +kernel)
theorem k_727 : Cond.methodLink RX10 195 yX9_removeLowest ∈ lw_tbl := List.mem_of_getElem? (i := 727) (by decide +kernel)
theorem k_728 : Cond.instanceMethod yX9_removeLowest ∈ lw_tbl := List.mem_of_getElem? (i := 728) (by decide +kernel)
theorem k_729 : Cond.selects RX9 yX9_removeLowest yX9_removeLowest ∈ lw_tbl := List.mem_of_getElem? (i := 729) (by decide +kernel)
theorem k_730 : Cond.code yX9_removeLowest cX9_removeLowest 6 none ∈ lw_tbl := List.mem_of_getElem? (i := 730) (by decide +kernel)
theorem k_731 : Cond.methodLink RX9 78 yX6_copyFrom ∈ lw_tbl := List.mem_of_getElem? (i := 731) (by decide +kernel)
theorem k_732 : Cond.methodLink RL 65 yX10_layer ∈ lw_tbl := List.mem_of_getElem? (i := 732) (by decide +kernel)
theorem k_733 : Cond.instanceMethod yX10_layer ∈ lw_tbl := List.mem_of_getElem? (i := 733) (by decide +kernel)
theorem k_734 : Cond.selects RX10 yX10_layer yX10_layer ∈ lw_tbl := List.mem_of_getElem? (i := 734) (by decide +kernel)
theorem k_735 : Cond.code yX10_layer cX10_layer 4 (some FieldType.int) ∈ lw_tbl := List.mem_of_getElem? (i := 735) (by decide +kernel)
theorem k_736 : Cond.methodLink RL 69 yX10_setMask ∈ lw_tbl := List.mem_of_getElem? (i := 736) (by decide +kernel)
theorem k_737 : Cond.instanceMethod yX10_setMask ∈ lw_tbl := List.mem_of_getElem? (i := 737) (by decide +kernel)
theorem k_738 : Cond.selects RX10 yX10_setMask yX10_setMask ∈ lw_tbl := List.mem_of_getElem? (i := 738) (by decide +kernel)
theorem k_739 : Cond.code yX10_setMask cX10_setMask 9 (some FieldType.int) ∈ lw_tbl := List.mem_of_getElem? (i := 739) (by decide +kernel)
theorem k_740 : Cond.methodLink RX10 212 yX4_allows ∈ lw_tbl := List.mem_of_getElem? (i := 740) (by decide +kernel)
theorem k_741 : Cond.static yX4_allows ∈ lw_tbl := List.mem_of_getElem? (i := 741) (by decide +kernel)
theorem k_742 : Cond.code yX4_allows cX4_allows 5 (some FieldType.boolean) ∈ lw_tbl := List.mem_of_getElem? (i := 742) (by decide +kernel)
theorem k_743 : Cond.methodLinkNest RX4 15 yX10_within RX10 ∈ lw_tbl := List.mem_of_getElem? (i := 743) (by decide +kernel)
theorem k_744 : Cond.methodLink RX10 216 yX4_define ∈ lw_tbl := List.mem_of_getElem? (i := 744) (by decide +kernel)
theorem k_745 : Cond.methodLink RL 74 yX10_setFeather ∈ lw_tbl := List.mem_of_getElem? (i := 745) (by decide +kernel)
theorem k_746 : Cond.instanceMethod yX10_setFeather ∈ lw_tbl := List.mem_of_getElem? (i := 746) (by decide +kernel)
theorem k_747 : Cond.selects RX10 yX10_setFeather yX10_setFeather ∈ lw_tbl := List.mem_of_getElem? (i := 747) (by decide +kernel)
theorem k_748 : Cond.code yX10_setFeather cX10_setFeather 5 (some FieldType.int) ∈ lw_tbl := List.mem_of_getElem? (i := 748) (by decide +kernel)
theorem k_749 : Cond.methodLink RL 78 yX10_invertMask ∈ lw_tbl := List.mem_of_getElem? (i := 749) (by decide +kernel)
theorem k_750 : Cond.instanceMethod yX10_invertMask ∈ lw_tbl := List.mem_of_getElem? (i := 750) (by decide +kernel)
theorem k_751 : Cond.selects RX10 yX10_invertMask yX10_invertMask ∈ lw_tbl := List.mem_of_getElem? (i := 751) (by decide +kernel)
theorem k_752 : Cond.code yX10_invertMask cX10_invertMask 3 (some FieldType.int) ∈ lw_tbl := List.mem_of_getElem? (i := 752) (by decide +kernel)
theorem k_753 : Cond.methodLink RL 82 yX10_dab ∈ lw_tbl := List.mem_of_getElem? (i := 753) (by decide +kernel)
theorem k_754 : Cond.instanceMethod yX10_dab ∈ lw_tbl := List.mem_of_getElem? (i := 754) (by decide +kernel)
theorem k_755 : Cond.selects RX10 yX10_dab yX10_dab ∈ lw_tbl := List.mem_of_getElem? (i := 755) (by decide +kernel)
theorem k_756 : Cond.code yX10_dab cX10_dab 6 (some FieldType.int) ∈ lw_tbl := List.mem_of_getElem? (i := 756) (by decide +kernel)
theorem k_757 : Cond.methodLink RX10 226 yX4_addDab ∈ lw_tbl := List.mem_of_getElem? (i := 757) (by decide +kernel)
theorem k_758 : Cond.instanceMethod yX4_addDab ∈ lw_tbl := List.mem_of_getElem? (i := 758) (by decide +kernel)
theorem k_759 : Cond.selects RX4 yX4_addDab yX4_addDab ∈ lw_tbl := List.mem_of_getElem? (i := 759) (by decide +kernel)
theorem k_760 : Cond.code yX4_addDab cX4_addDab 5 none ∈ lw_tbl := List.mem_of_getElem? (i := 760) (by decide +kernel)
theorem k_761 : Cond.methodLink RL 87 yX10_maskValue ∈ lw_tbl := List.mem_of_getElem? (i := 761) (by decide +kernel)
theorem k_762 : Cond.instanceMethod yX10_maskValue ∈ lw_tbl := List.mem_of_getElem? (i := 762) (by decide +kernel)
theorem k_763 : Cond.selects RX10 yX10_maskValue yX10_maskValue ∈ lw_tbl := List.mem_of_getElem? (i := 763) (by decide +kernel)
theorem k_764 : Cond.code yX10_maskValue cX10_maskValue 5 (some FieldType.int) ∈ lw_tbl := List.mem_of_getElem? (i := 764) (by decide +kernel)
theorem k_765 : Cond.methodLink RX10 229 yX6_at ∈ lw_tbl := List.mem_of_getElem? (i := 765) (by decide +kernel)
theorem k_766 : Cond.methodLink RX10 232 yX4_weightAt ∈ lw_tbl := List.mem_of_getElem? (i := 766) (by decide +kernel)
theorem k_767 : Cond.methodLink RL 91 yX10_append ∈ lw_tbl := List.mem_of_getElem? (i := 767) (by decide +kernel)
theorem k_768 : Cond.instanceMethod yX10_append ∈ lw_tbl := List.mem_of_getElem? (i := 768) (by decide +kernel)
theorem k_769 : Cond.selects RX10 yX10_append yX10_append ∈ lw_tbl := List.mem_of_getElem? (i := 769) (by decide +kernel)
theorem k_770 : Cond.code yX10_append cX10_append 2 (some FieldType.int) ∈ lw_tbl := List.mem_of_getElem? (i := 770) (by decide +kernel)
theorem k_771 : Cond.methodLink RX10 239 yX8_add ∈ lw_tbl := List.mem_of_getElem? (i := 771) (by decide +kernel)
theorem k_772 : Cond.instanceMethod yX8_add ∈ lw_tbl := List.mem_of_getElem? (i := 772) (by decide +kernel)
theorem k_773 : Cond.selects RX8 yX8_add yX8_add ∈ lw_tbl := List.mem_of_getElem? (i := 773) (by decide +kernel)
theorem k_774 : Cond.code yX8_add cX8_add 2 none ∈ lw_tbl := List.mem_of_getElem? (i := 774) (by decide +kernel)
theorem k_775 : Cond.methodLink RL 95 yX10_clearText ∈ lw_tbl := List.mem_of_getElem? (i := 775) (by decide +kernel)
theorem k_776 : Cond.instanceMethod yX10_clearText ∈ lw_tbl := List.mem_of_getElem? (i := 776) (by decide +kernel)
theorem k_777 : Cond.selects RX10 yX10_clearText yX10_clearText ∈ lw_tbl := List.mem_of_getElem? (i := 777) (by decide +kernel)
theorem k_778 : Cond.code yX10_clearText cX10_clearText 2 (some FieldType.int) ∈ lw_tbl := List.mem_of_getElem? (i := 778) (by decide +kernel)
theorem k_779 : Cond.methodLink RL 100 yX10_loadStack ∈ lw_tbl := List.mem_of_getElem? (i := 779) (by decide +kernel)
theorem k_780 : Cond.instanceMethod yX10_loadStack ∈ lw_tbl := List.mem_of_getElem? (i := 780) (by decide +kernel)
theorem k_781 : Cond.selects RX10 yX10_loadStack yX10_loadStack ∈ lw_tbl := List.mem_of_getElem? (i := 781) (by decide +kernel)
theorem k_782 : Cond.code yX10_loadStack cX10_loadStack 2 (some FieldType.int) ∈ lw_tbl := List.mem_of_getElem? (i := 782) (by decide +kernel)
theorem k_783 : Cond.methodLink RX10 242 yX8_readInto ∈ lw_tbl := List.mem_of_getElem? (i := 783) (by decide +kernel)
theorem k_784 : Cond.instanceMethod yX8_readInto ∈ lw_tbl := List.mem_of_getElem? (i := 784) (by decide +kernel)
theorem k_785 : Cond.selects RX8 yX8_readInto yX8_readInto ∈ lw_tbl := List.mem_of_getElem? (i := 785) (by decide +kernel)
theorem k_786 : Cond.code yX8_readInto cX8_readInto 3 (some FieldType.int) ∈ lw_tbl := List.mem_of_getElem? (i := 786) (by decide +kernel)
theorem k_787 : Cond.methodLink RX8 19 yX0_removeLayers ∈ lw_tbl := List.mem_of_getElem? (i := 787) (by decide +kernel)
theorem k_788 : Cond.methodLink RX8 31 yX8_nextToken ∈ lw_tbl := List.mem_of_getElem? (i := 788) (by decide +kernel)
theorem k_790 : Cond.instanceMethod yX8_nextToken ∈ lw_tbl := List.mem_of_getElem? (i := 790) (by decide +kernel)
theorem k_791 : Cond.code yX8_nextToken cX8_nextToken 2 none ∈ lw_tbl := List.mem_of_getElem? (i := 791) (by decide +kernel)
theorem k_792 : Cond.methodLink RX8 135 yX8_endOfRun ∈ lw_tbl := List.mem_of_getElem? (i := 792) (by decide +kernel)
theorem k_794 : Cond.instanceMethod yX8_endOfRun ∈ lw_tbl := List.mem_of_getElem? (i := 794) (by decide +kernel)
theorem k_795 : Cond.code yX8_endOfRun cX8_endOfRun 5 (some FieldType.int) ∈ lw_tbl := List.mem_of_getElem? (i := 795) (by decide +kernel)
theorem k_796 : Cond.methodLink RX8 132 yX8_characterAt ∈ lw_tbl := List.mem_of_getElem? (i := 796) (by decide +kernel)
theorem k_798 : Cond.instanceMethod yX8_characterAt ∈ lw_tbl := List.mem_of_getElem? (i := 798) (by decide +kernel)
theorem k_799 : Cond.code yX8_characterAt cX8_characterAt 2 (some FieldType.char) ∈ lw_tbl := List.mem_of_getElem? (i := 799) (by decide +kernel)
theorem k_800 : Cond.methodLink RX8 139 yX8_isNumber ∈ lw_tbl := List.mem_of_getElem? (i := 800) (by decide +kernel)
theorem k_802 : Cond.instanceMethod yX8_isNumber ∈ lw_tbl := List.mem_of_getElem? (i := 802) (by decide +kernel)
theorem k_803 : Cond.code yX8_isNumber cX8_isNumber 2 (some FieldType.boolean) ∈ lw_tbl := List.mem_of_getElem? (i := 803) (by decide +kernel)
theorem k_804 : Cond.methodLink RX8 142 yX8_valueOfDigits ∈ lw_tbl := List.mem_of_getElem? (i := 804) (by decide +kernel)
theorem k_806 : Cond.instanceMethod yX8_valueOfDigits ∈ lw_tbl := List.mem_of_getElem? (i := 806) (by decide +kernel)
theorem k_807 : Cond.code yX8_valueOfDigits cX8_valueOfDigits 3 (some FieldType.int) ∈ lw_tbl := List.mem_of_getElem? (i := 807) (by decide +kernel)
theorem k_808 : Cond.methodLink RX8 37 yX8_readLayer ∈ lw_tbl := List.mem_of_getElem? (i := 808) (by decide +kernel)
theorem k_810 : Cond.instanceMethod yX8_readLayer ∈ lw_tbl := List.mem_of_getElem? (i := 810) (by decide +kernel)
theorem k_811 : Cond.code yX8_readLayer cX8_readLayer 7 none ∈ lw_tbl := List.mem_of_getElem? (i := 811) (by decide +kernel)
theorem k_812 : Cond.methodLink RX8 44 yX8_kindOfWord ∈ lw_tbl := List.mem_of_getElem? (i := 812) (by decide +kernel)
theorem k_814 : Cond.instanceMethod yX8_kindOfWord ∈ lw_tbl := List.mem_of_getElem? (i := 814) (by decide +kernel)
theorem k_815 : Cond.code yX8_kindOfWord cX8_kindOfWord 2 (some FieldType.int) ∈ lw_tbl := List.mem_of_getElem? (i := 815) (by decide +kernel)
theorem k_816 : Cond.methodLink RX8 109 yX2_nameOf ∈ lw_tbl := List.mem_of_getElem? (i := 816) (by decide +kernel)
theorem k_817 : Cond.static yX2_nameOf ∈ lw_tbl := List.mem_of_getElem? (i := 817) (by decide +kernel)
theorem k_818 : Cond.code yX2_nameOf cX2_nameOf 1 (some (FieldType.object "java/lang/String")) ∈ lw_tbl := List.mem_of_getElem? (i := 818) (by decide +kernel)
theorem k_834 : Cond.methodLink RX8 113 yX8_wordIs ∈ lw_tbl := List.mem_of_getElem? (i := 834) (by decide +kernel)
theorem k_836 : Cond.instanceMethod yX8_wordIs ∈ lw_tbl := List.mem_of_getElem? (i := 836) (by decide +kernel)
theorem k_837 : Cond.code yX8_wordIs cX8_wordIs 3 (some FieldType.boolean) ∈ lw_tbl := List.mem_of_getElem? (i := 837) (by decide +kernel)
theorem k_838 : Cond.methodLink RX8 124 yJ0_length_8abf5 ∈ lw_tbl := List.mem_of_getElem? (i := 838) (by decide +kernel)
theorem k_839 : Cond.instanceMethod yJ0_length_8abf5 ∈ lw_tbl := List.mem_of_getElem? (i := 839) (by decide +kernel)
theorem k_840 : Cond.selects RJ0 yJ0_length_8abf5 yJ0_length_8abf5 ∈ lw_tbl := List.mem_of_getElem? (i := 840) (by decide +kernel)
theorem k_841 : Cond.code yJ0_length_8abf5 cJ0_length_8abf5 1 (some FieldType.int) ∈ lw_tbl := List.mem_of_getElem? (i := 841) (by decide +kernel)
theorem k_842 : Cond.methodLink RJ0 335 yJ0_coder_7d493 ∈ lw_tbl := List.mem_of_getElem? (i := 842) (by decide +kernel)
theorem k_843 : Cond.instanceMethod yJ0_coder_7d493 ∈ lw_tbl := List.mem_of_getElem? (i := 843) (by decide +kernel)
theorem k_844 : Cond.selects RJ0 yJ0_coder_7d493 yJ0_coder_7d493 ∈ lw_tbl := List.mem_of_getElem? (i := 844) (by decide +kernel)
theorem k_845 : Cond.code yJ0_coder_7d493 cJ0_coder_7d493 1 (some FieldType.byte) ∈ lw_tbl := List.mem_of_getElem? (i := 845) (by decide +kernel)
theorem k_846 : Cond.fieldLink RJ0 38 "java/lang/String" "COMPACT_STRINGS" "Z" ∈ lw_tbl := List.mem_of_getElem? (i := 846) (by decide +kernel)
theorem k_848 : Cond.methodLink RX8 128 yJ0_charAt_5068e ∈ lw_tbl := List.mem_of_getElem? (i := 848) (by decide +kernel)
theorem k_849 : Cond.instanceMethod yJ0_charAt_5068e ∈ lw_tbl := List.mem_of_getElem? (i := 849) (by decide +kernel)
theorem k_850 : Cond.selects RJ0 yJ0_charAt_5068e yJ0_charAt_5068e ∈ lw_tbl := List.mem_of_getElem? (i := 850) (by decide +kernel)
theorem k_851 : Cond.code yJ0_charAt_5068e cJ0_charAt_5068e 2 (some FieldType.char) ∈ lw_tbl := List.mem_of_getElem? (i := 851) (by decide +kernel)
theorem k_852 : Cond.methodLink RJ0 492 yJ0_isLatin1_aae02 ∈ lw_tbl := List.mem_of_getElem? (i := 852) (by decide +kernel)
theorem k_853 : Cond.instanceMethod yJ0_isLatin1_aae02 ∈ lw_tbl := List.mem_of_getElem? (i := 853) (by decide +kernel)
theorem k_854 : Cond.selects RJ0 yJ0_isLatin1_aae02 yJ0_isLatin1_aae02 ∈ lw_tbl := List.mem_of_getElem? (i := 854) (by decide +kernel)
theorem k_855 : Cond.code yJ0_isLatin1_aae02 cJ0_isLatin1_aae02 1 (some FieldType.boolean) ∈ lw_tbl := List.mem_of_getElem? (i := 855) (by decide +kernel)
theorem k_856 : Cond.methodLink RJ0 495 yJ1_charAt_3b067 ∈ lw_tbl := List.mem_of_getElem? (i := 856) (by decide +kernel)
theorem k_857 : Cond.static yJ1_charAt_3b067 ∈ lw_tbl := List.mem_of_getElem? (i := 857) (by decide +kernel)
theorem k_858 : Cond.code yJ1_charAt_3b067 cJ1_charAt_3b067 2 (some FieldType.char) ∈ lw_tbl := List.mem_of_getElem? (i := 858) (by decide +kernel)
theorem k_859 : Cond.methodLink RJ1 9 yJ0_checkIndex_df160 ∈ lw_tbl := List.mem_of_getElem? (i := 859) (by decide +kernel)
theorem k_860 : Cond.static yJ0_checkIndex_df160 ∈ lw_tbl := List.mem_of_getElem? (i := 860) (by decide +kernel)
theorem k_861 : Cond.code yJ0_checkIndex_df160 cJ0_checkIndex_df160 2 none ∈ lw_tbl := List.mem_of_getElem? (i := 861) (by decide +kernel)
theorem k_862 : Cond.fieldLink RJ0 1053 "jdk/internal/util/Preconditions" "SIOOBE_FORMATTER" "Ljava/util/function/BiFunction;" ∈ lw_tbl := List.mem_of_getElem? (i := 862) (by decide +kernel)
theorem k_864 : Cond.methodLink RJ0 1059 yJ3_checkIndex_8e157 ∈ lw_tbl := List.mem_of_getElem? (i := 864) (by decide +kernel)
theorem k_865 : Cond.static yJ3_checkIndex_8e157 ∈ lw_tbl := List.mem_of_getElem? (i := 865) (by decide +kernel)
theorem k_866 : Cond.code yJ3_checkIndex_8e157 cJ3_checkIndex_8e157 3 (some FieldType.int) ∈ lw_tbl := List.mem_of_getElem? (i := 866) (by decide +kernel)
theorem k_886 : Cond.methodLink RX8 48 yX0_isFull ∈ lw_tbl := List.mem_of_getElem? (i := 886) (by decide +kernel)
theorem k_887 : Cond.methodLink RX8 52 yX2_parametersOf ∈ lw_tbl := List.mem_of_getElem? (i := 887) (by decide +kernel)
theorem k_888 : Cond.static yX2_parametersOf ∈ lw_tbl := List.mem_of_getElem? (i := 888) (by decide +kernel)
theorem k_889 : Cond.code yX2_parametersOf cX2_parametersOf 1 (some FieldType.int) ∈ lw_tbl := List.mem_of_getElem? (i := 889) (by decide +kernel)
theorem k_890 : Cond.fieldLink RX2 29 RX2 (zStN 0) "[I" ∈ lw_tbl := List.mem_of_getElem? (i := 890) (by decide +kernel)
theorem k_892 : Cond.methodLink RX8 58 yX2_lowestA ∈ lw_tbl := List.mem_of_getElem? (i := 892) (by decide +kernel)
theorem k_893 : Cond.methodLink RX8 61 yX2_highestA ∈ lw_tbl := List.mem_of_getElem? (i := 893) (by decide +kernel)
theorem k_894 : Cond.methodLink RX8 64 yX8_readNumber ∈ lw_tbl := List.mem_of_getElem? (i := 894) (by decide +kernel)
theorem k_896 : Cond.instanceMethod yX8_readNumber ∈ lw_tbl := List.mem_of_getElem? (i := 896) (by decide +kernel)
theorem k_897 : Cond.code yX8_readNumber cX8_readNumber 5 (some FieldType.int) ∈ lw_tbl := List.mem_of_getElem? (i := 897) (by decide +kernel)
theorem k_898 : Cond.methodLinkNest RX8 85 yX10_within RX10 ∈ lw_tbl := List.mem_of_getElem? (i := 898) (by decide +kernel)
theorem k_899 : Cond.methodLink RX8 68 yX2_lowestB ∈ lw_tbl := List.mem_of_getElem? (i := 899) (by decide +kernel)
theorem k_900 : Cond.methodLink RX8 71 yX2_highestB ∈ lw_tbl := List.mem_of_getElem? (i := 900) (by decide +kernel)
theorem k_901 : Cond.methodLink RX8 74 yX0_addFresh ∈ lw_tbl := List.mem_of_getElem? (i := 901) (by decide +kernel)
theorem k_902 : Cond.methodLink RX8 78 yX8_readOptions ∈ lw_tbl := List.mem_of_getElem? (i := 902) (by decide +kernel)
theorem k_904 : Cond.instanceMethod yX8_readOptions ∈ lw_tbl := List.mem_of_getElem? (i := 904) (by decide +kernel)
theorem k_905 : Cond.code yX8_readOptions cX8_readOptions 5 none ∈ lw_tbl := List.mem_of_getElem? (i := 905) (by decide +kernel)
theorem k_906 : Cond.methodLink RX8 89 yX8_optionOfWord ∈ lw_tbl := List.mem_of_getElem? (i := 906) (by decide +kernel)
theorem k_908 : Cond.instanceMethod yX8_optionOfWord ∈ lw_tbl := List.mem_of_getElem? (i := 908) (by decide +kernel)
theorem k_909 : Cond.code yX8_optionOfWord cX8_optionOfWord 1 (some FieldType.int) ∈ lw_tbl := List.mem_of_getElem? (i := 909) (by decide +kernel)
theorem k_913 : Cond.methodLink RX8 100 yX8_readMode ∈ lw_tbl := List.mem_of_getElem? (i := 913) (by decide +kernel)
theorem k_915 : Cond.instanceMethod yX8_readMode ∈ lw_tbl := List.mem_of_getElem? (i := 915) (by decide +kernel)
theorem k_916 : Cond.code yX8_readMode cX8_readMode 3 none ∈ lw_tbl := List.mem_of_getElem? (i := 916) (by decide +kernel)
theorem k_917 : Cond.methodLink RX8 103 yX8_modeOfWord ∈ lw_tbl := List.mem_of_getElem? (i := 917) (by decide +kernel)
theorem k_919 : Cond.instanceMethod yX8_modeOfWord ∈ lw_tbl := List.mem_of_getElem? (i := 919) (by decide +kernel)
theorem k_920 : Cond.code yX8_modeOfWord cX8_modeOfWord 2 (some FieldType.int) ∈ lw_tbl := List.mem_of_getElem? (i := 920) (by decide +kernel)
theorem k_921 : Cond.methodLink RX8 119 yX5_nameOf ∈ lw_tbl := List.mem_of_getElem? (i := 921) (by decide +kernel)
theorem k_922 : Cond.static yX5_nameOf ∈ lw_tbl := List.mem_of_getElem? (i := 922) (by decide +kernel)
theorem k_923 : Cond.code yX5_nameOf cX5_nameOf 1 (some (FieldType.object "java/lang/String")) ∈ lw_tbl := List.mem_of_getElem? (i := 923) (by decide +kernel)
theorem k_933 : Cond.methodLink RX10 246 yX0_copyLayersFrom ∈ lw_tbl := List.mem_of_getElem? (i := 933) (by decide +kernel)
theorem k_935 : Cond.methodLink RL 104 yX10_pixel ∈ lw_tbl := List.mem_of_getElem? (i := 935) (by decide +kernel)
theorem k_936 : Cond.instanceMethod yX10_pixel ∈ lw_tbl := List.mem_of_getElem? (i := 936) (by decide +kernel)
theorem k_937 : Cond.selects RX10 yX10_pixel yX10_pixel ∈ lw_tbl := List.mem_of_getElem? (i := 937) (by decide +kernel)
theorem k_938 : Cond.code yX10_pixel cX10_pixel 5 (some FieldType.int) ∈ lw_tbl := List.mem_of_getElem? (i := 938) (by decide +kernel)
theorem k_939 : Cond.methodLink RX10 249 yX10_hasOutput ∈ lw_tbl := List.mem_of_getElem? (i := 939) (by decide +kernel)
theorem k_941 : Cond.instanceMethod yX10_hasOutput ∈ lw_tbl := List.mem_of_getElem? (i := 941) (by decide +kernel)
theorem k_942 : Cond.code yX10_hasOutput cX10_hasOutput 2 (some FieldType.boolean) ∈ lw_tbl := List.mem_of_getElem? (i := 942) (by decide +kernel)
theorem k_943 : Cond.methodLink RX10 256 yX10_requestTile ∈ lw_tbl := List.mem_of_getElem? (i := 943) (by decide +kernel)
theorem k_945 : Cond.instanceMethod yX10_requestTile ∈ lw_tbl := List.mem_of_getElem? (i := 945) (by decide +kernel)
theorem k_946 : Cond.code yX10_requestTile cX10_requestTile 9 none ∈ lw_tbl := List.mem_of_getElem? (i := 946) (by decide +kernel)
theorem k_947 : Cond.methodLink RX10 259 yX0_enabledAtMost ∈ lw_tbl := List.mem_of_getElem? (i := 947) (by decide +kernel)
theorem k_948 : Cond.instanceMethod yX0_enabledAtMost ∈ lw_tbl := List.mem_of_getElem? (i := 948) (by decide +kernel)
theorem k_949 : Cond.selects RX0 yX0_enabledAtMost yX0_enabledAtMost ∈ lw_tbl := List.mem_of_getElem? (i := 949) (by decide +kernel)
theorem k_950 : Cond.code yX0_enabledAtMost cX0_enabledAtMost 4 (some FieldType.int) ∈ lw_tbl := List.mem_of_getElem? (i := 950) (by decide +kernel)
theorem k_951 : Cond.methodLink RX10 272 yX9_holds ∈ lw_tbl := List.mem_of_getElem? (i := 951) (by decide +kernel)
theorem k_952 : Cond.instanceMethod yX9_holds ∈ lw_tbl := List.mem_of_getElem? (i := 952) (by decide +kernel)
theorem k_953 : Cond.selects RX9 yX9_holds yX9_holds ∈ lw_tbl := List.mem_of_getElem? (i := 953) (by decide +kernel)
theorem k_954 : Cond.code yX9_holds cX9_holds 5 (some FieldType.boolean) ∈ lw_tbl := List.mem_of_getElem? (i := 954) (by decide +kernel)
theorem k_955 : Cond.methodLink RX10 296 yX9_noteFound ∈ lw_tbl := List.mem_of_getElem? (i := 955) (by decide +kernel)
theorem k_956 : Cond.instanceMethod yX9_noteFound ∈ lw_tbl := List.mem_of_getElem? (i := 956) (by decide +kernel)
theorem k_957 : Cond.selects RX9 yX9_noteFound yX9_noteFound ∈ lw_tbl := List.mem_of_getElem? (i := 957) (by decide +kernel)
theorem k_958 : Cond.code yX9_noteFound cX9_noteFound 4 none ∈ lw_tbl := List.mem_of_getElem? (i := 958) (by decide +kernel)
theorem k_959 : Cond.methodLink RX9 40 yX9_use ∈ lw_tbl := List.mem_of_getElem? (i := 959) (by decide +kernel)
theorem k_961 : Cond.instanceMethod yX9_use ∈ lw_tbl := List.mem_of_getElem? (i := 961) (by decide +kernel)
theorem k_962 : Cond.code yX9_use cX9_use 2 none ∈ lw_tbl := List.mem_of_getElem? (i := 962) (by decide +kernel)
theorem k_963 : Cond.methodLink RX10 299 yX10_requestInput ∈ lw_tbl := List.mem_of_getElem? (i := 963) (by decide +kernel)
theorem k_965 : Cond.instanceMethod yX10_requestInput ∈ lw_tbl := List.mem_of_getElem? (i := 965) (by decide +kernel)
theorem k_966 : Cond.code yX10_requestInput cX10_requestInput 12 none ∈ lw_tbl := List.mem_of_getElem? (i := 966) (by decide +kernel)
theorem k_967 : Cond.methodLink RX10 303 yX9_outputAt ∈ lw_tbl := List.mem_of_getElem? (i := 967) (by decide +kernel)
theorem k_968 : Cond.instanceMethod yX9_outputAt ∈ lw_tbl := List.mem_of_getElem? (i := 968) (by decide +kernel)
theorem k_969 : Cond.selects RX9 yX9_outputAt yX9_outputAt ∈ lw_tbl := List.mem_of_getElem? (i := 969) (by decide +kernel)
theorem k_970 : Cond.code yX9_outputAt cX9_outputAt 2 (some (FieldType.object "AdjustmentStack$Picture")) ∈ lw_tbl := List.mem_of_getElem? (i := 970) (by decide +kernel)
theorem k_971 : Cond.methodLink RX10 262 yX10_pictureOf ∈ lw_tbl := List.mem_of_getElem? (i := 971) (by decide +kernel)
theorem k_973 : Cond.instanceMethod yX10_pictureOf ∈ lw_tbl := List.mem_of_getElem? (i := 973) (by decide +kernel)
theorem k_974 : Cond.code yX10_pictureOf cX10_pictureOf 3 (some (FieldType.object "AdjustmentStack$Picture")) ∈ lw_tbl := List.mem_of_getElem? (i := 974) (by decide +kernel)
theorem k_975 : Cond.methodLink RX10 306 yX7_render ∈ lw_tbl := List.mem_of_getElem? (i := 975) (by decide +kernel)
theorem k_976 : Cond.methodLink RX10 310 yX9_noteComputed ∈ lw_tbl := List.mem_of_getElem? (i := 976) (by decide +kernel)
theorem k_977 : Cond.instanceMethod yX9_noteComputed ∈ lw_tbl := List.mem_of_getElem? (i := 977) (by decide +kernel)
theorem k_978 : Cond.selects RX9 yX9_noteComputed yX9_noteComputed ∈ lw_tbl := List.mem_of_getElem? (i := 978) (by decide +kernel)
theorem k_979 : Cond.code yX9_noteComputed cX9_noteComputed 4 none ∈ lw_tbl := List.mem_of_getElem? (i := 979) (by decide +kernel)
theorem k_980 : Cond.methodLink RX10 266 yX9_dropSurplus ∈ lw_tbl := List.mem_of_getElem? (i := 980) (by decide +kernel)
theorem k_981 : Cond.instanceMethod yX9_dropSurplus ∈ lw_tbl := List.mem_of_getElem? (i := 981) (by decide +kernel)
theorem k_982 : Cond.selects RX9 yX9_dropSurplus yX9_dropSurplus ∈ lw_tbl := List.mem_of_getElem? (i := 982) (by decide +kernel)
theorem k_983 : Cond.code yX9_dropSurplus cX9_dropSurplus 3 (some FieldType.int) ∈ lw_tbl := List.mem_of_getElem? (i := 983) (by decide +kernel)
theorem k_984 : Cond.methodLink RX9 58 yX9_oldestSlot ∈ lw_tbl := List.mem_of_getElem? (i := 984) (by decide +kernel)
theorem k_985 : Cond.instanceMethod yX9_oldestSlot ∈ lw_tbl := List.mem_of_getElem? (i := 985) (by decide +kernel)
theorem k_986 : Cond.selects RX9 yX9_oldestSlot yX9_oldestSlot ∈ lw_tbl := List.mem_of_getElem? (i := 986) (by decide +kernel)
theorem k_987 : Cond.code yX9_oldestSlot cX9_oldestSlot 4 (some FieldType.int) ∈ lw_tbl := List.mem_of_getElem? (i := 987) (by decide +kernel)
theorem k_988 : Cond.methodLink RL 108 yX10_prefetch ∈ lw_tbl := List.mem_of_getElem? (i := 988) (by decide +kernel)
theorem k_989 : Cond.instanceMethod yX10_prefetch ∈ lw_tbl := List.mem_of_getElem? (i := 989) (by decide +kernel)
theorem k_990 : Cond.selects RX10 yX10_prefetch yX10_prefetch ∈ lw_tbl := List.mem_of_getElem? (i := 990) (by decide +kernel)
theorem k_991 : Cond.code yX10_prefetch cX10_prefetch 5 (some FieldType.int) ∈ lw_tbl := List.mem_of_getElem? (i := 991) (by decide +kernel)
theorem k_992 : Cond.methodLink RL 112 yX10_setCacheLimit ∈ lw_tbl := List.mem_of_getElem? (i := 992) (by decide +kernel)
theorem k_993 : Cond.instanceMethod yX10_setCacheLimit ∈ lw_tbl := List.mem_of_getElem? (i := 993) (by decide +kernel)
theorem k_994 : Cond.selects RX10 yX10_setCacheLimit yX10_setCacheLimit ∈ lw_tbl := List.mem_of_getElem? (i := 994) (by decide +kernel)
theorem k_995 : Cond.code yX10_setCacheLimit cX10_setCacheLimit 2 (some FieldType.int) ∈ lw_tbl := List.mem_of_getElem? (i := 995) (by decide +kernel)
theorem k_996 : Cond.methodLink RL 116 yX10_setTileSize ∈ lw_tbl := List.mem_of_getElem? (i := 996) (by decide +kernel)
theorem k_997 : Cond.instanceMethod yX10_setTileSize ∈ lw_tbl := List.mem_of_getElem? (i := 997) (by decide +kernel)
theorem k_998 : Cond.selects RX10 yX10_setTileSize yX10_setTileSize ∈ lw_tbl := List.mem_of_getElem? (i := 998) (by decide +kernel)
theorem k_999 : Cond.code yX10_setTileSize cX10_setTileSize 2 (some FieldType.int) ∈ lw_tbl := List.mem_of_getElem? (i := 999) (by decide +kernel)
theorem k_1000 : Cond.methodLink RL 120 yX10_clearCache ∈ lw_tbl := List.mem_of_getElem? (i := 1000) (by decide +kernel)
theorem k_1001 : Cond.instanceMethod yX10_clearCache ∈ lw_tbl := List.mem_of_getElem? (i := 1001) (by decide +kernel)
theorem k_1002 : Cond.selects RX10 yX10_clearCache yX10_clearCache ∈ lw_tbl := List.mem_of_getElem? (i := 1002) (by decide +kernel)
theorem k_1003 : Cond.code yX10_clearCache cX10_clearCache 1 (some FieldType.int) ∈ lw_tbl := List.mem_of_getElem? (i := 1003) (by decide +kernel)
theorem k_1004 : Cond.methodLink RL 124 yX10_isCached ∈ lw_tbl := List.mem_of_getElem? (i := 1004) (by decide +kernel)
theorem k_1005 : Cond.instanceMethod yX10_isCached ∈ lw_tbl := List.mem_of_getElem? (i := 1005) (by decide +kernel)
theorem k_1006 : Cond.selects RX10 yX10_isCached yX10_isCached ∈ lw_tbl := List.mem_of_getElem? (i := 1006) (by decide +kernel)
theorem k_1007 : Cond.code yX10_isCached cX10_isCached 4 (some FieldType.int) ∈ lw_tbl := List.mem_of_getElem? (i := 1007) (by decide +kernel)
theorem k_1008 : Cond.methodLink RL 128 yX10_cachedTiles ∈ lw_tbl := List.mem_of_getElem? (i := 1008) (by decide +kernel)
theorem k_1009 : Cond.instanceMethod yX10_cachedTiles ∈ lw_tbl := List.mem_of_getElem? (i := 1009) (by decide +kernel)
theorem k_1010 : Cond.selects RX10 yX10_cachedTiles yX10_cachedTiles ∈ lw_tbl := List.mem_of_getElem? (i := 1010) (by decide +kernel)
theorem k_1011 : Cond.code yX10_cachedTiles cX10_cachedTiles 2 (some FieldType.int) ∈ lw_tbl := List.mem_of_getElem? (i := 1011) (by decide +kernel)
theorem k_1012 : Cond.methodLink RX10 275 yX9_tilesOf ∈ lw_tbl := List.mem_of_getElem? (i := 1012) (by decide +kernel)
theorem k_1013 : Cond.instanceMethod yX9_tilesOf ∈ lw_tbl := List.mem_of_getElem? (i := 1013) (by decide +kernel)
theorem k_1014 : Cond.selects RX9 yX9_tilesOf yX9_tilesOf ∈ lw_tbl := List.mem_of_getElem? (i := 1014) (by decide +kernel)
theorem k_1015 : Cond.code yX9_tilesOf cX9_tilesOf 5 (some FieldType.int) ∈ lw_tbl := List.mem_of_getElem? (i := 1015) (by decide +kernel)
theorem k_1016 : Cond.methodLink RL 132 yX10_counter ∈ lw_tbl := List.mem_of_getElem? (i := 1016) (by decide +kernel)
theorem k_1017 : Cond.instanceMethod yX10_counter ∈ lw_tbl := List.mem_of_getElem? (i := 1017) (by decide +kernel)
theorem k_1018 : Cond.selects RX10 yX10_counter yX10_counter ∈ lw_tbl := List.mem_of_getElem? (i := 1018) (by decide +kernel)
theorem k_1019 : Cond.code yX10_counter cX10_counter 2 (some FieldType.int) ∈ lw_tbl := List.mem_of_getElem? (i := 1019) (by decide +kernel)
theorem k_1020 : Cond.methodLink RL 136 yX10_oldestTile ∈ lw_tbl := List.mem_of_getElem? (i := 1020) (by decide +kernel)
theorem k_1021 : Cond.instanceMethod yX10_oldestTile ∈ lw_tbl := List.mem_of_getElem? (i := 1021) (by decide +kernel)
theorem k_1022 : Cond.selects RX10 yX10_oldestTile yX10_oldestTile ∈ lw_tbl := List.mem_of_getElem? (i := 1022) (by decide +kernel)
theorem k_1023 : Cond.code yX10_oldestTile cX10_oldestTile 2 (some FieldType.int) ∈ lw_tbl := List.mem_of_getElem? (i := 1023) (by decide +kernel)
theorem k_1024 : Cond.methodLink RX10 284 yX9_oldestSlot ∈ lw_tbl := List.mem_of_getElem? (i := 1024) (by decide +kernel)
theorem k_1025 : Cond.methodLink RX10 287 yX9_layerOf ∈ lw_tbl := List.mem_of_getElem? (i := 1025) (by decide +kernel)
theorem k_1026 : Cond.static yX9_layerOf ∈ lw_tbl := List.mem_of_getElem? (i := 1026) (by decide +kernel)
theorem k_1027 : Cond.code yX9_layerOf cX9_layerOf 1 (some FieldType.int) ∈ lw_tbl := List.mem_of_getElem? (i := 1027) (by decide +kernel)
theorem k_1028 : Cond.methodLink RX10 290 yX9_columnOf ∈ lw_tbl := List.mem_of_getElem? (i := 1028) (by decide +kernel)
theorem k_1029 : Cond.static yX9_columnOf ∈ lw_tbl := List.mem_of_getElem? (i := 1029) (by decide +kernel)
theorem k_1030 : Cond.code yX9_columnOf cX9_columnOf 1 (some FieldType.int) ∈ lw_tbl := List.mem_of_getElem? (i := 1030) (by decide +kernel)
theorem k_1031 : Cond.methodLink RX10 293 yX9_rowOf ∈ lw_tbl := List.mem_of_getElem? (i := 1031) (by decide +kernel)
theorem k_1032 : Cond.static yX9_rowOf ∈ lw_tbl := List.mem_of_getElem? (i := 1032) (by decide +kernel)
theorem k_1033 : Cond.code yX9_rowOf cX9_rowOf 1 (some FieldType.int) ∈ lw_tbl := List.mem_of_getElem? (i := 1033) (by decide +kernel)
theorem k_1034 : Cond.methodLink RL 140 yX10_histogram ∈ lw_tbl := List.mem_of_getElem? (i := 1034) (by decide +kernel)
theorem k_1035 : Cond.instanceMethod yX10_histogram ∈ lw_tbl := List.mem_of_getElem? (i := 1035) (by decide +kernel)
theorem k_1036 : Cond.selects RX10 yX10_histogram yX10_histogram ∈ lw_tbl := List.mem_of_getElem? (i := 1036) (by decide +kernel)
theorem k_1037 : Cond.code yX10_histogram cX10_histogram 7 (some FieldType.int) ∈ lw_tbl := List.mem_of_getElem? (i := 1037) (by decide +kernel)
theorem k_1038 : Cond.methodLink RL 144 yX10_sum ∈ lw_tbl := List.mem_of_getElem? (i := 1038) (by decide +kernel)
theorem k_1039 : Cond.instanceMethod yX10_sum ∈ lw_tbl := List.mem_of_getElem? (i := 1039) (by decide +kernel)
theorem k_1040 : Cond.selects RX10 yX10_sum yX10_sum ∈ lw_tbl := List.mem_of_getElem? (i := 1040) (by decide +kernel)
theorem k_1041 : Cond.code yX10_sum cX10_sum 5 (some FieldType.int) ∈ lw_tbl := List.mem_of_getElem? (i := 1041) (by decide +kernel)
theorem k_1042 : Cond.methodLink RL 148 yX10_effect ∈ lw_tbl := List.mem_of_getElem? (i := 1042) (by decide +kernel)
theorem k_1043 : Cond.instanceMethod yX10_effect ∈ lw_tbl := List.mem_of_getElem? (i := 1043) (by decide +kernel)
theorem k_1044 : Cond.selects RX10 yX10_effect yX10_effect ∈ lw_tbl := List.mem_of_getElem? (i := 1044) (by decide +kernel)
theorem k_1045 : Cond.code yX10_effect cX10_effect 2 (some FieldType.int) ∈ lw_tbl := List.mem_of_getElem? (i := 1045) (by decide +kernel)
theorem k_1046 : Cond.methodLink RX10 313 yX10_changeWithout ∈ lw_tbl := List.mem_of_getElem? (i := 1046) (by decide +kernel)
theorem k_1048 : Cond.instanceMethod yX10_changeWithout ∈ lw_tbl := List.mem_of_getElem? (i := 1048) (by decide +kernel)
theorem k_1049 : Cond.code yX10_changeWithout cX10_changeWithout 3 (some FieldType.int) ∈ lw_tbl := List.mem_of_getElem? (i := 1049) (by decide +kernel)
theorem k_1050 : Cond.methodLink RX10 316 yX0_copyFrom ∈ lw_tbl := List.mem_of_getElem? (i := 1050) (by decide +kernel)
theorem k_1051 : Cond.methodLink RX10 325 yX6_absoluteDifference ∈ lw_tbl := List.mem_of_getElem? (i := 1051) (by decide +kernel)
theorem k_1052 : Cond.instanceMethod yX6_absoluteDifference ∈ lw_tbl := List.mem_of_getElem? (i := 1052) (by decide +kernel)
theorem k_1053 : Cond.selects RX6 yX6_absoluteDifference yX6_absoluteDifference ∈ lw_tbl := List.mem_of_getElem? (i := 1053) (by decide +kernel)
theorem k_1054 : Cond.code yX6_absoluteDifference cX6_absoluteDifference 5 (some FieldType.int) ∈ lw_tbl := List.mem_of_getElem? (i := 1054) (by decide +kernel)
theorem k_1055 : Cond.methodLink RX6 42 yJ9_abs_0f7a4 ∈ lw_tbl := List.mem_of_getElem? (i := 1055) (by decide +kernel)
theorem k_1056 : Cond.methodLink RL 152 yX10_strongestLayer ∈ lw_tbl := List.mem_of_getElem? (i := 1056) (by decide +kernel)
theorem k_1057 : Cond.instanceMethod yX10_strongestLayer ∈ lw_tbl := List.mem_of_getElem? (i := 1057) (by decide +kernel)
theorem k_1058 : Cond.selects RX10 yX10_strongestLayer yX10_strongestLayer ∈ lw_tbl := List.mem_of_getElem? (i := 1058) (by decide +kernel)
theorem k_1059 : Cond.code yX10_strongestLayer cX10_strongestLayer 5 (some FieldType.int) ∈ lw_tbl := List.mem_of_getElem? (i := 1059) (by decide +kernel)
theorem k_1060 : Cond.methodLink RL 156 yX10_exchangeDifference ∈ lw_tbl := List.mem_of_getElem? (i := 1060) (by decide +kernel)
theorem k_1061 : Cond.instanceMethod yX10_exchangeDifference ∈ lw_tbl := List.mem_of_getElem? (i := 1061) (by decide +kernel)
theorem k_1062 : Cond.selects RX10 yX10_exchangeDifference yX10_exchangeDifference ∈ lw_tbl := List.mem_of_getElem? (i := 1062) (by decide +kernel)
theorem k_1063 : Cond.code yX10_exchangeDifference cX10_exchangeDifference 2 (some FieldType.int) ∈ lw_tbl := List.mem_of_getElem? (i := 1063) (by decide +kernel)
theorem k_1064 : Cond.methodLink RX10 318 yX10_pixelsThatDiffer ∈ lw_tbl := List.mem_of_getElem? (i := 1064) (by decide +kernel)
theorem k_1066 : Cond.instanceMethod yX10_pixelsThatDiffer ∈ lw_tbl := List.mem_of_getElem? (i := 1066) (by decide +kernel)
theorem k_1067 : Cond.code yX10_pixelsThatDiffer cX10_pixelsThatDiffer 2 (some FieldType.int) ∈ lw_tbl := List.mem_of_getElem? (i := 1067) (by decide +kernel)
theorem k_1068 : Cond.methodLink RX10 329 yX6_differingPixels ∈ lw_tbl := List.mem_of_getElem? (i := 1068) (by decide +kernel)
theorem k_1069 : Cond.instanceMethod yX6_differingPixels ∈ lw_tbl := List.mem_of_getElem? (i := 1069) (by decide +kernel)
theorem k_1070 : Cond.selects RX6 yX6_differingPixels yX6_differingPixels ∈ lw_tbl := List.mem_of_getElem? (i := 1070) (by decide +kernel)
theorem k_1071 : Cond.code yX6_differingPixels cX6_differingPixels 5 (some FieldType.int) ∈ lw_tbl := List.mem_of_getElem? (i := 1071) (by decide +kernel)
theorem k_1072 : Cond.methodLink RL 160 yX10_snapshotDifference ∈ lw_tbl := List.mem_of_getElem? (i := 1072) (by decide +kernel)
theorem k_1073 : Cond.instanceMethod yX10_snapshotDifference ∈ lw_tbl := List.mem_of_getElem? (i := 1073) (by decide +kernel)
theorem k_1074 : Cond.selects RX10 yX10_snapshotDifference yX10_snapshotDifference ∈ lw_tbl := List.mem_of_getElem? (i := 1074) (by decide +kernel)
theorem k_1075 : Cond.code yX10_snapshotDifference cX10_snapshotDifference 3 (some FieldType.int) ∈ lw_tbl := List.mem_of_getElem? (i := 1075) (by decide +kernel)
theorem k_1076 : Cond.methodLink RX10 321 yX6_hasSizeOf ∈ lw_tbl := List.mem_of_getElem? (i := 1076) (by decide +kernel)
theorem k_1077 : Cond.instanceMethod yX6_hasSizeOf ∈ lw_tbl := List.mem_of_getElem? (i := 1077) (by decide +kernel)
theorem k_1078 : Cond.selects RX6 yX6_hasSizeOf yX6_hasSizeOf ∈ lw_tbl := List.mem_of_getElem? (i := 1078) (by decide +kernel)
theorem k_1079 : Cond.code yX6_hasSizeOf cX6_hasSizeOf 2 (some FieldType.boolean) ∈ lw_tbl := List.mem_of_getElem? (i := 1079) (by decide +kernel)
theorem k_1080 : Cond.methodLink RL 164 yX10_undo ∈ lw_tbl := List.mem_of_getElem? (i := 1080) (by decide +kernel)
theorem k_1081 : Cond.instanceMethod yX10_undo ∈ lw_tbl := List.mem_of_getElem? (i := 1081) (by decide +kernel)
theorem k_1082 : Cond.selects RX10 yX10_undo yX10_undo ∈ lw_tbl := List.mem_of_getElem? (i := 1082) (by decide +kernel)
theorem k_1083 : Cond.code yX10_undo cX10_undo 1 (some FieldType.int) ∈ lw_tbl := List.mem_of_getElem? (i := 1083) (by decide +kernel)
theorem k_1084 : Cond.methodLink RX10 335 yX1_pop ∈ lw_tbl := List.mem_of_getElem? (i := 1084) (by decide +kernel)
theorem k_1085 : Cond.instanceMethod yX1_pop ∈ lw_tbl := List.mem_of_getElem? (i := 1085) (by decide +kernel)
theorem k_1086 : Cond.selects RX1 yX1_pop yX1_pop ∈ lw_tbl := List.mem_of_getElem? (i := 1086) (by decide +kernel)
theorem k_1087 : Cond.code yX1_pop cX1_pop 3 none ∈ lw_tbl := List.mem_of_getElem? (i := 1087) (by decide +kernel)
theorem k_1088 : Cond.methodLink RL 168 yX10_save ∈ lw_tbl := List.mem_of_getElem? (i := 1088) (by decide +kernel)
theorem k_1089 : Cond.instanceMethod yX10_save ∈ lw_tbl := List.mem_of_getElem? (i := 1089) (by decide +kernel)
theorem k_1090 : Cond.selects RX10 yX10_save yX10_save ∈ lw_tbl := List.mem_of_getElem? (i := 1090) (by decide +kernel)
theorem k_1091 : Cond.code yX10_save cX10_save 3 (some FieldType.int) ∈ lw_tbl := List.mem_of_getElem? (i := 1091) (by decide +kernel)
theorem k_1092 : Cond.methodLink RL 172 yX10_restore ∈ lw_tbl := List.mem_of_getElem? (i := 1092) (by decide +kernel)
theorem k_1093 : Cond.instanceMethod yX10_restore ∈ lw_tbl := List.mem_of_getElem? (i := 1093) (by decide +kernel)
theorem k_1094 : Cond.selects RX10 yX10_restore yX10_restore ∈ lw_tbl := List.mem_of_getElem? (i := 1094) (by decide +kernel)
theorem k_1095 : Cond.code yX10_restore cX10_restore 3 (some FieldType.int) ∈ lw_tbl := List.mem_of_getElem? (i := 1095) (by decide +kernel)
theorem k_1096 : Cond.classLink RL 10 RX11 ∈ lw_tbl := List.mem_of_getElem? (i := 1096) (by decide +kernel)
theorem k_1097 : Cond.instantiable RX11 40 ∈ lw_tbl := List.mem_of_getElem? (i := 1097) (by decide +kernel)
theorem k_1098 : Cond.methodLink RL 12 yX11_init ∈ lw_tbl := List.mem_of_getElem? (i := 1098) (by decide +kernel)
theorem k_1099 : Cond.instanceMethod yX11_init ∈ lw_tbl := List.mem_of_getElem? (i := 1099) (by decide +kernel)
theorem k_1100 : Cond.code yX11_init cX11_init 1 none ∈ lw_tbl := List.mem_of_getElem? (i := 1100) (by decide +kernel)
theorem k_1101 : Cond.methodLink RX11 1 Lib.objectInit ∈ lw_tbl := List.mem_of_getElem? (i := 1101) (by decide +kernel)
theorem k_1102 : Cond.methodLink RX11 84 yX11_makeImage ∈ lw_tbl := List.mem_of_getElem? (i := 1102) (by decide +kernel)
theorem k_1104 : Cond.instanceMethod yX11_makeImage ∈ lw_tbl := List.mem_of_getElem? (i := 1104) (by decide +kernel)
theorem k_1105 : Cond.code yX11_makeImage cX11_makeImage 4 none ∈ lw_tbl := List.mem_of_getElem? (i := 1105) (by decide +kernel)
theorem k_1106 : Cond.methodLink RX11 88 yX11_in ∈ lw_tbl := List.mem_of_getElem? (i := 1106) (by decide +kernel)
theorem k_1107 : Cond.static yX11_in ∈ lw_tbl := List.mem_of_getElem? (i := 1107) (by decide +kernel)
theorem k_1108 : Cond.code yX11_in cX11_in 3 (some FieldType.boolean) ∈ lw_tbl := List.mem_of_getElem? (i := 1108) (by decide +kernel)
theorem k_1109 : Cond.fieldLink RX11 81 RX11 (TX11 0).2.1 (TX11 0).2.2.1 ∈ lw_tbl := List.mem_of_getElem? (i := 1109) (by decide +kernel)
theorem k_1110 : Cond.fieldLink RX11 7 RX11 (TX11 1).2.1 (TX11 1).2.2.1 ∈ lw_tbl := List.mem_of_getElem? (i := 1110) (by decide +kernel)
theorem k_1111 : Cond.fieldLink RX11 13 RX11 (TX11 2).2.1 (TX11 2).2.2.1 ∈ lw_tbl := List.mem_of_getElem? (i := 1111) (by decide +kernel)
theorem k_1112 : Cond.fieldLink RX11 92 RX11 (TX11 3).2.1 (TX11 3).2.2.1 ∈ lw_tbl := List.mem_of_getElem? (i := 1112) (by decide +kernel)
theorem k_1113 : Cond.fieldLink RX11 16 RX11 (TX11 4).2.1 (TX11 4).2.2.1 ∈ lw_tbl := List.mem_of_getElem? (i := 1113) (by decide +kernel)
theorem k_1114 : Cond.fieldLink RX11 19 RX11 (TX11 5).2.1 (TX11 5).2.2.1 ∈ lw_tbl := List.mem_of_getElem? (i := 1114) (by decide +kernel)
theorem k_1115 : Cond.fieldLink RX11 23 RX11 (TX11 6).2.1 (TX11 6).2.2.1 ∈ lw_tbl := List.mem_of_getElem? (i := 1115) (by decide +kernel)
theorem k_1116 : Cond.fieldLink RX11 260 RX11 (TX11 7).2.1 (TX11 7).2.2.1 ∈ lw_tbl := List.mem_of_getElem? (i := 1116) (by decide +kernel)
theorem k_1117 : Cond.fieldLink RX11 26 RX11 (TX11 8).2.1 (TX11 8).2.2.1 ∈ lw_tbl := List.mem_of_getElem? (i := 1117) (by decide +kernel)
theorem k_1118 : Cond.fieldLink RX11 30 RX11 (TX11 9).2.1 (TX11 9).2.2.1 ∈ lw_tbl := List.mem_of_getElem? (i := 1118) (by decide +kernel)
theorem k_1119 : Cond.fieldLink RX11 33 RX11 (TX11 10).2.1 (TX11 10).2.2.1 ∈ lw_tbl := List.mem_of_getElem? (i := 1119) (by decide +kernel)
theorem k_1120 : Cond.fieldLink RX11 122 RX11 (TX11 11).2.1 (TX11 11).2.2.1 ∈ lw_tbl := List.mem_of_getElem? (i := 1120) (by decide +kernel)
theorem k_1121 : Cond.fieldLink RX11 36 RX11 (TX11 12).2.1 (TX11 12).2.2.1 ∈ lw_tbl := List.mem_of_getElem? (i := 1121) (by decide +kernel)
theorem k_1122 : Cond.fieldLink RX11 39 RX11 (TX11 13).2.1 (TX11 13).2.2.1 ∈ lw_tbl := List.mem_of_getElem? (i := 1122) (by decide +kernel)
theorem k_1123 : Cond.fieldLink RX11 42 RX11 (TX11 14).2.1 (TX11 14).2.2.1 ∈ lw_tbl := List.mem_of_getElem? (i := 1123) (by decide +kernel)
theorem k_1124 : Cond.fieldLink RX11 45 RX11 (TX11 15).2.1 (TX11 15).2.2.1 ∈ lw_tbl := List.mem_of_getElem? (i := 1124) (by decide +kernel)
theorem k_1125 : Cond.fieldLink RX11 48 RX11 (TX11 16).2.1 (TX11 16).2.2.1 ∈ lw_tbl := List.mem_of_getElem? (i := 1125) (by decide +kernel)
theorem k_1126 : Cond.fieldLink RX11 51 RX11 (TX11 17).2.1 (TX11 17).2.2.1 ∈ lw_tbl := List.mem_of_getElem? (i := 1126) (by decide +kernel)
theorem k_1127 : Cond.fieldLink RX11 54 RX11 (TX11 18).2.1 (TX11 18).2.2.1 ∈ lw_tbl := List.mem_of_getElem? (i := 1127) (by decide +kernel)
theorem k_1128 : Cond.fieldLink RX11 57 RX11 (TX11 19).2.1 (TX11 19).2.2.1 ∈ lw_tbl := List.mem_of_getElem? (i := 1128) (by decide +kernel)
theorem k_1129 : Cond.fieldLink RX11 60 RX11 (TX11 20).2.1 (TX11 20).2.2.1 ∈ lw_tbl := List.mem_of_getElem? (i := 1129) (by decide +kernel)
theorem k_1130 : Cond.fieldLink RX11 63 RX11 (TX11 21).2.1 (TX11 21).2.2.1 ∈ lw_tbl := List.mem_of_getElem? (i := 1130) (by decide +kernel)
theorem k_1131 : Cond.fieldLink RX11 116 RX11 (TX11 22).2.1 (TX11 22).2.2.1 ∈ lw_tbl := List.mem_of_getElem? (i := 1131) (by decide +kernel)
theorem k_1132 : Cond.fieldLink RX11 66 RX11 (TX11 23).2.1 (TX11 23).2.2.1 ∈ lw_tbl := List.mem_of_getElem? (i := 1132) (by decide +kernel)
theorem k_1133 : Cond.fieldLink RX11 69 RX11 (TX11 24).2.1 (TX11 24).2.2.1 ∈ lw_tbl := List.mem_of_getElem? (i := 1133) (by decide +kernel)
theorem k_1134 : Cond.fieldLink RX11 153 RX11 (TX11 25).2.1 (TX11 25).2.2.1 ∈ lw_tbl := List.mem_of_getElem? (i := 1134) (by decide +kernel)
theorem k_1135 : Cond.fieldLink RX11 156 RX11 (TX11 26).2.1 (TX11 26).2.2.1 ∈ lw_tbl := List.mem_of_getElem? (i := 1135) (by decide +kernel)
theorem k_1136 : Cond.fieldLink RX11 263 RX11 (TX11 27).2.1 (TX11 27).2.2.1 ∈ lw_tbl := List.mem_of_getElem? (i := 1136) (by decide +kernel)
theorem k_1137 : Cond.fieldLink RX11 276 RX11 (TX11 28).2.1 (TX11 28).2.2.1 ∈ lw_tbl := List.mem_of_getElem? (i := 1137) (by decide +kernel)
theorem k_1138 : Cond.fieldLink RX11 266 RX11 (TX11 29).2.1 (TX11 29).2.2.1 ∈ lw_tbl := List.mem_of_getElem? (i := 1138) (by decide +kernel)
theorem k_1139 : Cond.fieldLink RX11 269 RX11 (TX11 30).2.1 (TX11 30).2.2.1 ∈ lw_tbl := List.mem_of_getElem? (i := 1139) (by decide +kernel)
theorem k_1140 : Cond.fieldLink RX11 284 RX11 (TX11 31).2.1 (TX11 31).2.2.1 ∈ lw_tbl := List.mem_of_getElem? (i := 1140) (by decide +kernel)
theorem k_1141 : Cond.fieldLink RX11 293 RX11 (TX11 32).2.1 (TX11 32).2.2.1 ∈ lw_tbl := List.mem_of_getElem? (i := 1141) (by decide +kernel)
theorem k_1142 : Cond.fieldLink RX11 72 RX11 (TX11 33).2.1 (TX11 33).2.2.1 ∈ lw_tbl := List.mem_of_getElem? (i := 1142) (by decide +kernel)
theorem k_1143 : Cond.fieldLink RX11 376 RX11 (TX11 34).2.1 (TX11 34).2.2.1 ∈ lw_tbl := List.mem_of_getElem? (i := 1143) (by decide +kernel)
theorem k_1144 : Cond.fieldLink RX11 353 RX11 (TX11 35).2.1 (TX11 35).2.2.1 ∈ lw_tbl := List.mem_of_getElem? (i := 1144) (by decide +kernel)
theorem k_1145 : Cond.fieldLink RX11 362 RX11 (TX11 36).2.1 (TX11 36).2.2.1 ∈ lw_tbl := List.mem_of_getElem? (i := 1145) (by decide +kernel)
theorem k_1146 : Cond.fieldLink RX11 370 RX11 (TX11 37).2.1 (TX11 37).2.2.1 ∈ lw_tbl := List.mem_of_getElem? (i := 1146) (by decide +kernel)
theorem k_1147 : Cond.fieldLink RX11 75 RX11 (TX11 38).2.1 (TX11 38).2.2.1 ∈ lw_tbl := List.mem_of_getElem? (i := 1147) (by decide +kernel)
theorem k_1148 : Cond.fieldLink RX11 78 RX11 (TX11 39).2.1 (TX11 39).2.2.1 ∈ lw_tbl := List.mem_of_getElem? (i := 1148) (by decide +kernel)
theorem k_1230 : Cond.arrayClass .boolean ∈ lw_tbl := List.mem_of_getElem? (i := 1230) (by decide +kernel)
theorem k_1231 : Cond.methodLink RL 17 yX11_newImage ∈ lw_tbl := List.mem_of_getElem? (i := 1231) (by decide +kernel)
theorem k_1232 : Cond.instanceMethod yX11_newImage ∈ lw_tbl := List.mem_of_getElem? (i := 1232) (by decide +kernel)
theorem k_1233 : Cond.selects RX11 yX11_newImage yX11_newImage ∈ lw_tbl := List.mem_of_getElem? (i := 1233) (by decide +kernel)
theorem k_1234 : Cond.code yX11_newImage cX11_newImage 3 (some FieldType.int) ∈ lw_tbl := List.mem_of_getElem? (i := 1234) (by decide +kernel)
theorem k_1235 : Cond.methodLink RX11 199 yX11_keep ∈ lw_tbl := List.mem_of_getElem? (i := 1235) (by decide +kernel)
theorem k_1237 : Cond.instanceMethod yX11_keep ∈ lw_tbl := List.mem_of_getElem? (i := 1237) (by decide +kernel)
theorem k_1238 : Cond.code yX11_keep cX11_keep 2 none ∈ lw_tbl := List.mem_of_getElem? (i := 1238) (by decide +kernel)
theorem k_1239 : Cond.methodLink RX11 202 yX11_removeAll ∈ lw_tbl := List.mem_of_getElem? (i := 1239) (by decide +kernel)
theorem k_1241 : Cond.instanceMethod yX11_removeAll ∈ lw_tbl := List.mem_of_getElem? (i := 1241) (by decide +kernel)
theorem k_1242 : Cond.code yX11_removeAll cX11_removeAll 1 (some FieldType.int) ∈ lw_tbl := List.mem_of_getElem? (i := 1242) (by decide +kernel)
theorem k_1243 : Cond.methodLink RX11 196 yX11_removeTiles ∈ lw_tbl := List.mem_of_getElem? (i := 1243) (by decide +kernel)
theorem k_1245 : Cond.instanceMethod yX11_removeTiles ∈ lw_tbl := List.mem_of_getElem? (i := 1245) (by decide +kernel)
theorem k_1246 : Cond.code yX11_removeTiles cX11_removeTiles 5 (some FieldType.int) ∈ lw_tbl := List.mem_of_getElem? (i := 1246) (by decide +kernel)
theorem k_1247 : Cond.methodLink RL 22 yX11_setPixel ∈ lw_tbl := List.mem_of_getElem? (i := 1247) (by decide +kernel)
theorem k_1248 : Cond.instanceMethod yX11_setPixel ∈ lw_tbl := List.mem_of_getElem? (i := 1248) (by decide +kernel)
theorem k_1249 : Cond.selects RX11 yX11_setPixel yX11_setPixel ∈ lw_tbl := List.mem_of_getElem? (i := 1249) (by decide +kernel)
theorem k_1250 : Cond.code yX11_setPixel cX11_setPixel 4 (some FieldType.int) ∈ lw_tbl := List.mem_of_getElem? (i := 1250) (by decide +kernel)
theorem k_1251 : Cond.methodLink RX11 138 yX11_isPixel ∈ lw_tbl := List.mem_of_getElem? (i := 1251) (by decide +kernel)
theorem k_1253 : Cond.instanceMethod yX11_isPixel ∈ lw_tbl := List.mem_of_getElem? (i := 1253) (by decide +kernel)
theorem k_1254 : Cond.code yX11_isPixel cX11_isPixel 3 (some FieldType.boolean) ∈ lw_tbl := List.mem_of_getElem? (i := 1254) (by decide +kernel)
theorem k_1255 : Cond.methodLink RX11 205 yX11_removeAfter ∈ lw_tbl := List.mem_of_getElem? (i := 1255) (by decide +kernel)
theorem k_1257 : Cond.instanceMethod yX11_removeAfter ∈ lw_tbl := List.mem_of_getElem? (i := 1257) (by decide +kernel)
theorem k_1258 : Cond.code yX11_removeAfter cX11_removeAfter 15 (some FieldType.int) ∈ lw_tbl := List.mem_of_getElem? (i := 1258) (by decide +kernel)
theorem k_1259 : Cond.methodLink RX11 102 yX11_isOn ∈ lw_tbl := List.mem_of_getElem? (i := 1259) (by decide +kernel)
theorem k_1261 : Cond.instanceMethod yX11_isOn ∈ lw_tbl := List.mem_of_getElem? (i := 1261) (by decide +kernel)
theorem k_1262 : Cond.code yX11_isOn cX11_isOn 2 (some FieldType.boolean) ∈ lw_tbl := List.mem_of_getElem? (i := 1262) (by decide +kernel)
theorem k_1263 : Cond.methodLink RX11 95 yX11_at ∈ lw_tbl := List.mem_of_getElem? (i := 1263) (by decide +kernel)
theorem k_1264 : Cond.static yX11_at ∈ lw_tbl := List.mem_of_getElem? (i := 1264) (by decide +kernel)
theorem k_1265 : Cond.code yX11_at cX11_at 1 (some FieldType.int) ∈ lw_tbl := List.mem_of_getElem? (i := 1265) (by decide +kernel)
theorem k_1266 : Cond.methodLink RX11 106 yX11_reach ∈ lw_tbl := List.mem_of_getElem? (i := 1266) (by decide +kernel)
theorem k_1268 : Cond.instanceMethod yX11_reach ∈ lw_tbl := List.mem_of_getElem? (i := 1268) (by decide +kernel)
theorem k_1269 : Cond.code yX11_reach cX11_reach 5 (some FieldType.int) ∈ lw_tbl := List.mem_of_getElem? (i := 1269) (by decide +kernel)
theorem k_1270 : Cond.methodLink RX11 99 yX11_abs ∈ lw_tbl := List.mem_of_getElem? (i := 1270) (by decide +kernel)
theorem k_1271 : Cond.static yX11_abs ∈ lw_tbl := List.mem_of_getElem? (i := 1271) (by decide +kernel)
theorem k_1272 : Cond.code yX11_abs cX11_abs 1 (some FieldType.int) ∈ lw_tbl := List.mem_of_getElem? (i := 1272) (by decide +kernel)
theorem k_1273 : Cond.methodLink RL 27 yX11_fillRectangle ∈ lw_tbl := List.mem_of_getElem? (i := 1273) (by decide +kernel)
theorem k_1274 : Cond.instanceMethod yX11_fillRectangle ∈ lw_tbl := List.mem_of_getElem? (i := 1274) (by decide +kernel)
theorem k_1275 : Cond.selects RX11 yX11_fillRectangle yX11_fillRectangle ∈ lw_tbl := List.mem_of_getElem? (i := 1275) (by decide +kernel)
theorem k_1276 : Cond.code yX11_fillRectangle cX11_fillRectangle 9 (some FieldType.int) ∈ lw_tbl := List.mem_of_getElem? (i := 1276) (by decide +kernel)
theorem k_1277 : Cond.methodLink RL 32 yX11_size ∈ lw_tbl := List.mem_of_getElem? (i := 1277) (by decide +kernel)
theorem k_1278 : Cond.instanceMethod yX11_size ∈ lw_tbl := List.mem_of_getElem? (i := 1278) (by decide +kernel)
theorem k_1279 : Cond.selects RX11 yX11_size yX11_size ∈ lw_tbl := List.mem_of_getElem? (i := 1279) (by decide +kernel)
theorem k_1280 : Cond.code yX11_size cX11_size 2 (some FieldType.int) ∈ lw_tbl := List.mem_of_getElem? (i := 1280) (by decide +kernel)
theorem k_1281 : Cond.methodLink RX11 208 yX11_columns ∈ lw_tbl := List.mem_of_getElem? (i := 1281) (by decide +kernel)
theorem k_1283 : Cond.instanceMethod yX11_columns ∈ lw_tbl := List.mem_of_getElem? (i := 1283) (by decide +kernel)
theorem k_1284 : Cond.code yX11_columns cX11_columns 1 (some FieldType.int) ∈ lw_tbl := List.mem_of_getElem? (i := 1284) (by decide +kernel)
theorem k_1285 : Cond.methodLink RX11 211 yX11_rows ∈ lw_tbl := List.mem_of_getElem? (i := 1285) (by decide +kernel)
theorem k_1287 : Cond.instanceMethod yX11_rows ∈ lw_tbl := List.mem_of_getElem? (i := 1287) (by decide +kernel)
theorem k_1288 : Cond.code yX11_rows cX11_rows 1 (some FieldType.int) ∈ lw_tbl := List.mem_of_getElem? (i := 1288) (by decide +kernel)
theorem k_1289 : Cond.methodLink RL 36 yX11_addLayer ∈ lw_tbl := List.mem_of_getElem? (i := 1289) (by decide +kernel)
theorem k_1290 : Cond.instanceMethod yX11_addLayer ∈ lw_tbl := List.mem_of_getElem? (i := 1290) (by decide +kernel)
theorem k_1291 : Cond.selects RX11 yX11_addLayer yX11_addLayer ∈ lw_tbl := List.mem_of_getElem? (i := 1291) (by decide +kernel)
theorem k_1292 : Cond.code yX11_addLayer cX11_addLayer 4 (some FieldType.int) ∈ lw_tbl := List.mem_of_getElem? (i := 1292) (by decide +kernel)
theorem k_1293 : Cond.methodLink RX11 226 yX11_isPossible ∈ lw_tbl := List.mem_of_getElem? (i := 1293) (by decide +kernel)
theorem k_1294 : Cond.static yX11_isPossible ∈ lw_tbl := List.mem_of_getElem? (i := 1294) (by decide +kernel)
theorem k_1295 : Cond.code yX11_isPossible cX11_isPossible 3 (some FieldType.boolean) ∈ lw_tbl := List.mem_of_getElem? (i := 1295) (by decide +kernel)
theorem k_1296 : Cond.methodLink RX11 214 yX11_leastA ∈ lw_tbl := List.mem_of_getElem? (i := 1296) (by decide +kernel)
theorem k_1297 : Cond.static yX11_leastA ∈ lw_tbl := List.mem_of_getElem? (i := 1297) (by decide +kernel)
theorem k_1298 : Cond.code yX11_leastA cX11_leastA 1 (some FieldType.int) ∈ lw_tbl := List.mem_of_getElem? (i := 1298) (by decide +kernel)
theorem k_1299 : Cond.methodLink RX11 217 yX11_mostA ∈ lw_tbl := List.mem_of_getElem? (i := 1299) (by decide +kernel)
theorem k_1300 : Cond.static yX11_mostA ∈ lw_tbl := List.mem_of_getElem? (i := 1300) (by decide +kernel)
theorem k_1301 : Cond.code yX11_mostA cX11_mostA 1 (some FieldType.int) ∈ lw_tbl := List.mem_of_getElem? (i := 1301) (by decide +kernel)
theorem k_1302 : Cond.methodLink RX11 220 yX11_leastB ∈ lw_tbl := List.mem_of_getElem? (i := 1302) (by decide +kernel)
theorem k_1303 : Cond.static yX11_leastB ∈ lw_tbl := List.mem_of_getElem? (i := 1303) (by decide +kernel)
theorem k_1304 : Cond.code yX11_leastB cX11_leastB 2 (some FieldType.int) ∈ lw_tbl := List.mem_of_getElem? (i := 1304) (by decide +kernel)
theorem k_1305 : Cond.methodLink RX11 223 yX11_mostB ∈ lw_tbl := List.mem_of_getElem? (i := 1305) (by decide +kernel)
theorem k_1306 : Cond.static yX11_mostB ∈ lw_tbl := List.mem_of_getElem? (i := 1306) (by decide +kernel)
theorem k_1307 : Cond.code yX11_mostB cX11_mostB 1 (some FieldType.int) ∈ lw_tbl := List.mem_of_getElem? (i := 1307) (by decide +kernel)
theorem k_1308 : Cond.methodLink RX11 229 yX11_layLayer ∈ lw_tbl := List.mem_of_getElem? (i := 1308) (by decide +kernel)
theorem k_1310 : Cond.instanceMethod yX11_layLayer ∈ lw_tbl := List.mem_of_getElem? (i := 1310) (by decide +kernel)
theorem k_1311 : Cond.code yX11_layLayer cX11_layLayer 7 none ∈ lw_tbl := List.mem_of_getElem? (i := 1311) (by decide +kernel)
theorem k_1312 : Cond.methodLink RL 40 yX11_setParameters ∈ lw_tbl := List.mem_of_getElem? (i := 1312) (by decide +kernel)
theorem k_1313 : Cond.instanceMethod yX11_setParameters ∈ lw_tbl := List.mem_of_getElem? (i := 1313) (by decide +kernel)
theorem k_1314 : Cond.selects RX11 yX11_setParameters yX11_setParameters ∈ lw_tbl := List.mem_of_getElem? (i := 1314) (by decide +kernel)
theorem k_1315 : Cond.code yX11_setParameters cX11_setParameters 5 (some FieldType.int) ∈ lw_tbl := List.mem_of_getElem? (i := 1315) (by decide +kernel)
theorem k_1316 : Cond.methodLink RX11 233 yX11_isLayer ∈ lw_tbl := List.mem_of_getElem? (i := 1316) (by decide +kernel)
theorem k_1318 : Cond.instanceMethod yX11_isLayer ∈ lw_tbl := List.mem_of_getElem? (i := 1318) (by decide +kernel)
theorem k_1319 : Cond.code yX11_isLayer cX11_isLayer 2 (some FieldType.boolean) ∈ lw_tbl := List.mem_of_getElem? (i := 1319) (by decide +kernel)
theorem k_1320 : Cond.methodLink RL 44 yX11_setBlend ∈ lw_tbl := List.mem_of_getElem? (i := 1320) (by decide +kernel)
theorem k_1321 : Cond.instanceMethod yX11_setBlend ∈ lw_tbl := List.mem_of_getElem? (i := 1321) (by decide +kernel)
theorem k_1322 : Cond.selects RX11 yX11_setBlend yX11_setBlend ∈ lw_tbl := List.mem_of_getElem? (i := 1322) (by decide +kernel)
theorem k_1323 : Cond.code yX11_setBlend cX11_setBlend 5 (some FieldType.int) ∈ lw_tbl := List.mem_of_getElem? (i := 1323) (by decide +kernel)
theorem k_1324 : Cond.methodLink RL 48 yX11_setEnabled ∈ lw_tbl := List.mem_of_getElem? (i := 1324) (by decide +kernel)
theorem k_1325 : Cond.instanceMethod yX11_setEnabled ∈ lw_tbl := List.mem_of_getElem? (i := 1325) (by decide +kernel)
theorem k_1326 : Cond.selects RX11 yX11_setEnabled yX11_setEnabled ∈ lw_tbl := List.mem_of_getElem? (i := 1326) (by decide +kernel)
theorem k_1327 : Cond.code yX11_setEnabled cX11_setEnabled 5 (some FieldType.int) ∈ lw_tbl := List.mem_of_getElem? (i := 1327) (by decide +kernel)
theorem k_1328 : Cond.methodLink RL 52 yX11_moveLayer ∈ lw_tbl := List.mem_of_getElem? (i := 1328) (by decide +kernel)
theorem k_1329 : Cond.instanceMethod yX11_moveLayer ∈ lw_tbl := List.mem_of_getElem? (i := 1329) (by decide +kernel)
theorem k_1330 : Cond.selects RX11 yX11_moveLayer yX11_moveLayer ∈ lw_tbl := List.mem_of_getElem? (i := 1330) (by decide +kernel)
theorem k_1331 : Cond.code yX11_moveLayer cX11_moveLayer 5 (some FieldType.int) ∈ lw_tbl := List.mem_of_getElem? (i := 1331) (by decide +kernel)
theorem k_1332 : Cond.methodLink RX11 236 yX11_exchange ∈ lw_tbl := List.mem_of_getElem? (i := 1332) (by decide +kernel)
theorem k_1334 : Cond.instanceMethod yX11_exchange ∈ lw_tbl := List.mem_of_getElem? (i := 1334) (by decide +kernel)
theorem k_1335 : Cond.code yX11_exchange cX11_exchange 5 none ∈ lw_tbl := List.mem_of_getElem? (i := 1335) (by decide +kernel)
theorem k_1336 : Cond.methodLink RL 56 yX11_duplicateLayer ∈ lw_tbl := List.mem_of_getElem? (i := 1336) (by decide +kernel)
theorem k_1337 : Cond.instanceMethod yX11_duplicateLayer ∈ lw_tbl := List.mem_of_getElem? (i := 1337) (by decide +kernel)
theorem k_1338 : Cond.selects RX11 yX11_duplicateLayer yX11_duplicateLayer ∈ lw_tbl := List.mem_of_getElem? (i := 1338) (by decide +kernel)
theorem k_1339 : Cond.code yX11_duplicateLayer cX11_duplicateLayer 3 (some FieldType.int) ∈ lw_tbl := List.mem_of_getElem? (i := 1339) (by decide +kernel)
theorem k_1340 : Cond.methodLink RL 60 yX11_removeLayer ∈ lw_tbl := List.mem_of_getElem? (i := 1340) (by decide +kernel)
theorem k_1341 : Cond.instanceMethod yX11_removeLayer ∈ lw_tbl := List.mem_of_getElem? (i := 1341) (by decide +kernel)
theorem k_1342 : Cond.selects RX11 yX11_removeLayer yX11_removeLayer ∈ lw_tbl := List.mem_of_getElem? (i := 1342) (by decide +kernel)
theorem k_1343 : Cond.code yX11_removeLayer cX11_removeLayer 2 (some FieldType.int) ∈ lw_tbl := List.mem_of_getElem? (i := 1343) (by decide +kernel)
theorem k_1344 : Cond.methodLink RX11 239 yX11_cutLayers ∈ lw_tbl := List.mem_of_getElem? (i := 1344) (by decide +kernel)
theorem k_1346 : Cond.instanceMethod yX11_cutLayers ∈ lw_tbl := List.mem_of_getElem? (i := 1346) (by decide +kernel)
theorem k_1347 : Cond.code yX11_cutLayers cX11_cutLayers 4 none ∈ lw_tbl := List.mem_of_getElem? (i := 1347) (by decide +kernel)
theorem k_1348 : Cond.methodLink RL 64 yX11_flatten ∈ lw_tbl := List.mem_of_getElem? (i := 1348) (by decide +kernel)
theorem k_1349 : Cond.instanceMethod yX11_flatten ∈ lw_tbl := List.mem_of_getElem? (i := 1349) (by decide +kernel)
theorem k_1350 : Cond.selects RX11 yX11_flatten yX11_flatten ∈ lw_tbl := List.mem_of_getElem? (i := 1350) (by decide +kernel)
theorem k_1351 : Cond.code yX11_flatten cX11_flatten 5 (some FieldType.int) ∈ lw_tbl := List.mem_of_getElem? (i := 1351) (by decide +kernel)
theorem k_1352 : Cond.methodLink RX11 242 yX11_compute ∈ lw_tbl := List.mem_of_getElem? (i := 1352) (by decide +kernel)
theorem k_1354 : Cond.instanceMethod yX11_compute ∈ lw_tbl := List.mem_of_getElem? (i := 1354) (by decide +kernel)
theorem k_1355 : Cond.code yX11_compute cX11_compute 3 (some FieldType.int) ∈ lw_tbl := List.mem_of_getElem? (i := 1355) (by decide +kernel)
theorem k_1356 : Cond.methodLink RX11 193 yX11_computeLayer ∈ lw_tbl := List.mem_of_getElem? (i := 1356) (by decide +kernel)
theorem k_1358 : Cond.instanceMethod yX11_computeLayer ∈ lw_tbl := List.mem_of_getElem? (i := 1358) (by decide +kernel)
theorem k_1359 : Cond.code yX11_computeLayer cX11_computeLayer 9 none ∈ lw_tbl := List.mem_of_getElem? (i := 1359) (by decide +kernel)
theorem k_1360 : Cond.methodLink RX11 181 yX11_findRange ∈ lw_tbl := List.mem_of_getElem? (i := 1360) (by decide +kernel)
theorem k_1362 : Cond.instanceMethod yX11_findRange ∈ lw_tbl := List.mem_of_getElem? (i := 1362) (by decide +kernel)
theorem k_1363 : Cond.code yX11_findRange cX11_findRange 3 none ∈ lw_tbl := List.mem_of_getElem? (i := 1363) (by decide +kernel)
theorem k_1364 : Cond.methodLink RX11 142 yX11_inputAt ∈ lw_tbl := List.mem_of_getElem? (i := 1364) (by decide +kernel)
theorem k_1366 : Cond.instanceMethod yX11_inputAt ∈ lw_tbl := List.mem_of_getElem? (i := 1366) (by decide +kernel)
theorem k_1367 : Cond.code yX11_inputAt cX11_inputAt 4 (some FieldType.int) ∈ lw_tbl := List.mem_of_getElem? (i := 1367) (by decide +kernel)
theorem k_1368 : Cond.methodLink RX11 184 yX11_adjusted ∈ lw_tbl := List.mem_of_getElem? (i := 1368) (by decide +kernel)
theorem k_1370 : Cond.instanceMethod yX11_adjusted ∈ lw_tbl := List.mem_of_getElem? (i := 1370) (by decide +kernel)
theorem k_1371 : Cond.code yX11_adjusted cX11_adjusted 9 (some FieldType.int) ∈ lw_tbl := List.mem_of_getElem? (i := 1371) (by decide +kernel)
theorem k_1372 : Cond.methodLink RX11 159 yX11_blur ∈ lw_tbl := List.mem_of_getElem? (i := 1372) (by decide +kernel)
theorem k_1374 : Cond.instanceMethod yX11_blur ∈ lw_tbl := List.mem_of_getElem? (i := 1374) (by decide +kernel)
theorem k_1375 : Cond.code yX11_blur cX11_blur 9 (some FieldType.int) ∈ lw_tbl := List.mem_of_getElem? (i := 1375) (by decide +kernel)
theorem k_1376 : Cond.methodLink RX11 163 yX11_gather ∈ lw_tbl := List.mem_of_getElem? (i := 1376) (by decide +kernel)
theorem k_1378 : Cond.instanceMethod yX11_gather ∈ lw_tbl := List.mem_of_getElem? (i := 1378) (by decide +kernel)
theorem k_1379 : Cond.code yX11_gather cX11_gather 10 (some FieldType.int) ∈ lw_tbl := List.mem_of_getElem? (i := 1379) (by decide +kernel)
theorem k_1380 : Cond.methodLink RX11 149 yX11_floor ∈ lw_tbl := List.mem_of_getElem? (i := 1380) (by decide +kernel)
theorem k_1381 : Cond.static yX11_floor ∈ lw_tbl := List.mem_of_getElem? (i := 1381) (by decide +kernel)
theorem k_1382 : Cond.code yX11_floor cX11_floor 2 (some FieldType.int) ∈ lw_tbl := List.mem_of_getElem? (i := 1382) (by decide +kernel)
theorem k_1383 : Cond.methodLink RX11 146 yX11_clamp ∈ lw_tbl := List.mem_of_getElem? (i := 1383) (by decide +kernel)
theorem k_1384 : Cond.static yX11_clamp ∈ lw_tbl := List.mem_of_getElem? (i := 1384) (by decide +kernel)
theorem k_1385 : Cond.code yX11_clamp cX11_clamp 1 (some FieldType.int) ∈ lw_tbl := List.mem_of_getElem? (i := 1385) (by decide +kernel)
theorem k_1386 : Cond.methodLink RX11 166 yX11_nearest ∈ lw_tbl := List.mem_of_getElem? (i := 1386) (by decide +kernel)
theorem k_1387 : Cond.static yX11_nearest ∈ lw_tbl := List.mem_of_getElem? (i := 1387) (by decide +kernel)
theorem k_1388 : Cond.code yX11_nearest cX11_nearest 2 (some FieldType.int) ∈ lw_tbl := List.mem_of_getElem? (i := 1388) (by decide +kernel)
theorem k_1389 : Cond.methodLink RX11 169 yX11_point ∈ lw_tbl := List.mem_of_getElem? (i := 1389) (by decide +kernel)
theorem k_1391 : Cond.instanceMethod yX11_point ∈ lw_tbl := List.mem_of_getElem? (i := 1391) (by decide +kernel)
theorem k_1392 : Cond.code yX11_point cX11_point 5 (some FieldType.int) ∈ lw_tbl := List.mem_of_getElem? (i := 1392) (by decide +kernel)
theorem k_1393 : Cond.methodLink RX11 187 yX11_blend ∈ lw_tbl := List.mem_of_getElem? (i := 1393) (by decide +kernel)
theorem k_1394 : Cond.static yX11_blend ∈ lw_tbl := List.mem_of_getElem? (i := 1394) (by decide +kernel)
theorem k_1395 : Cond.code yX11_blend cX11_blend 3 (some FieldType.int) ∈ lw_tbl := List.mem_of_getElem? (i := 1395) (by decide +kernel)
theorem k_1396 : Cond.methodLink RX11 190 yX11_maskAt ∈ lw_tbl := List.mem_of_getElem? (i := 1396) (by decide +kernel)
theorem k_1398 : Cond.instanceMethod yX11_maskAt ∈ lw_tbl := List.mem_of_getElem? (i := 1398) (by decide +kernel)
theorem k_1399 : Cond.code yX11_maskAt cX11_maskAt 6 (some FieldType.int) ∈ lw_tbl := List.mem_of_getElem? (i := 1399) (by decide +kernel)
theorem k_1400 : Cond.methodLink RX11 178 yX11_plainMask ∈ lw_tbl := List.mem_of_getElem? (i := 1400) (by decide +kernel)
theorem k_1402 : Cond.instanceMethod yX11_plainMask ∈ lw_tbl := List.mem_of_getElem? (i := 1402) (by decide +kernel)
theorem k_1403 : Cond.code yX11_plainMask cX11_plainMask 13 (some FieldType.int) ∈ lw_tbl := List.mem_of_getElem? (i := 1403) (by decide +kernel)
theorem k_1404 : Cond.methodLink RX11 172 yX11_beyond ∈ lw_tbl := List.mem_of_getElem? (i := 1404) (by decide +kernel)
theorem k_1405 : Cond.static yX11_beyond ∈ lw_tbl := List.mem_of_getElem? (i := 1405) (by decide +kernel)
theorem k_1406 : Cond.code yX11_beyond cX11_beyond 3 (some FieldType.int) ∈ lw_tbl := List.mem_of_getElem? (i := 1406) (by decide +kernel)
theorem k_1407 : Cond.methodLink RX11 175 yX11_isDabbed ∈ lw_tbl := List.mem_of_getElem? (i := 1407) (by decide +kernel)
theorem k_1409 : Cond.instanceMethod yX11_isDabbed ∈ lw_tbl := List.mem_of_getElem? (i := 1409) (by decide +kernel)
theorem k_1410 : Cond.code yX11_isDabbed cX11_isDabbed 9 (some FieldType.boolean) ∈ lw_tbl := List.mem_of_getElem? (i := 1410) (by decide +kernel)
theorem k_1411 : Cond.methodLink RX11 245 yX11_pixels ∈ lw_tbl := List.mem_of_getElem? (i := 1411) (by decide +kernel)
theorem k_1413 : Cond.instanceMethod yX11_pixels ∈ lw_tbl := List.mem_of_getElem? (i := 1413) (by decide +kernel)
theorem k_1414 : Cond.code yX11_pixels cX11_pixels 1 (some FieldType.int) ∈ lw_tbl := List.mem_of_getElem? (i := 1414) (by decide +kernel)
theorem k_1415 : Cond.methodLink RL 68 yX11_layer ∈ lw_tbl := List.mem_of_getElem? (i := 1415) (by decide +kernel)
theorem k_1416 : Cond.instanceMethod yX11_layer ∈ lw_tbl := List.mem_of_getElem? (i := 1416) (by decide +kernel)
theorem k_1417 : Cond.selects RX11 yX11_layer yX11_layer ∈ lw_tbl := List.mem_of_getElem? (i := 1417) (by decide +kernel)
theorem k_1418 : Cond.code yX11_layer cX11_layer 4 (some FieldType.int) ∈ lw_tbl := List.mem_of_getElem? (i := 1418) (by decide +kernel)
theorem k_1419 : Cond.methodLink RL 73 yX11_setMask ∈ lw_tbl := List.mem_of_getElem? (i := 1419) (by decide +kernel)
theorem k_1420 : Cond.instanceMethod yX11_setMask ∈ lw_tbl := List.mem_of_getElem? (i := 1420) (by decide +kernel)
theorem k_1421 : Cond.selects RX11 yX11_setMask yX11_setMask ∈ lw_tbl := List.mem_of_getElem? (i := 1421) (by decide +kernel)
theorem k_1422 : Cond.code yX11_setMask cX11_setMask 8 (some FieldType.int) ∈ lw_tbl := List.mem_of_getElem? (i := 1422) (by decide +kernel)
theorem k_1423 : Cond.methodLink RX11 252 yX11_isMask ∈ lw_tbl := List.mem_of_getElem? (i := 1423) (by decide +kernel)
theorem k_1424 : Cond.static yX11_isMask ∈ lw_tbl := List.mem_of_getElem? (i := 1424) (by decide +kernel)
theorem k_1425 : Cond.code yX11_isMask cX11_isMask 5 (some FieldType.boolean) ∈ lw_tbl := List.mem_of_getElem? (i := 1425) (by decide +kernel)
theorem k_1426 : Cond.methodLink RX11 248 yX11_isNothing ∈ lw_tbl := List.mem_of_getElem? (i := 1426) (by decide +kernel)
theorem k_1427 : Cond.static yX11_isNothing ∈ lw_tbl := List.mem_of_getElem? (i := 1427) (by decide +kernel)
theorem k_1428 : Cond.code yX11_isNothing cX11_isNothing 4 (some FieldType.boolean) ∈ lw_tbl := List.mem_of_getElem? (i := 1428) (by decide +kernel)
theorem k_1429 : Cond.methodLink RX11 256 yX11_setMaskOf ∈ lw_tbl := List.mem_of_getElem? (i := 1429) (by decide +kernel)
theorem k_1431 : Cond.instanceMethod yX11_setMaskOf ∈ lw_tbl := List.mem_of_getElem? (i := 1431) (by decide +kernel)
theorem k_1432 : Cond.code yX11_setMaskOf cX11_setMaskOf 7 none ∈ lw_tbl := List.mem_of_getElem? (i := 1432) (by decide +kernel)
theorem k_1433 : Cond.methodLink RL 77 yX11_setFeather ∈ lw_tbl := List.mem_of_getElem? (i := 1433) (by decide +kernel)
theorem k_1434 : Cond.instanceMethod yX11_setFeather ∈ lw_tbl := List.mem_of_getElem? (i := 1434) (by decide +kernel)
theorem k_1435 : Cond.selects RX11 yX11_setFeather yX11_setFeather ∈ lw_tbl := List.mem_of_getElem? (i := 1435) (by decide +kernel)
theorem k_1436 : Cond.code yX11_setFeather cX11_setFeather 4 (some FieldType.int) ∈ lw_tbl := List.mem_of_getElem? (i := 1436) (by decide +kernel)
theorem k_1437 : Cond.methodLink RL 81 yX11_invertMask ∈ lw_tbl := List.mem_of_getElem? (i := 1437) (by decide +kernel)
theorem k_1438 : Cond.instanceMethod yX11_invertMask ∈ lw_tbl := List.mem_of_getElem? (i := 1438) (by decide +kernel)
theorem k_1439 : Cond.selects RX11 yX11_invertMask yX11_invertMask ∈ lw_tbl := List.mem_of_getElem? (i := 1439) (by decide +kernel)
theorem k_1440 : Cond.code yX11_invertMask cX11_invertMask 2 (some FieldType.int) ∈ lw_tbl := List.mem_of_getElem? (i := 1440) (by decide +kernel)
theorem k_1441 : Cond.methodLink RL 86 yX11_dab ∈ lw_tbl := List.mem_of_getElem? (i := 1441) (by decide +kernel)
theorem k_1442 : Cond.instanceMethod yX11_dab ∈ lw_tbl := List.mem_of_getElem? (i := 1442) (by decide +kernel)
theorem k_1443 : Cond.selects RX11 yX11_dab yX11_dab ∈ lw_tbl := List.mem_of_getElem? (i := 1443) (by decide +kernel)
theorem k_1444 : Cond.code yX11_dab cX11_dab 7 (some FieldType.int) ∈ lw_tbl := List.mem_of_getElem? (i := 1444) (by decide +kernel)
theorem k_1445 : Cond.methodLink RL 90 yX11_maskValue ∈ lw_tbl := List.mem_of_getElem? (i := 1445) (by decide +kernel)
theorem k_1446 : Cond.instanceMethod yX11_maskValue ∈ lw_tbl := List.mem_of_getElem? (i := 1446) (by decide +kernel)
theorem k_1447 : Cond.selects RX11 yX11_maskValue yX11_maskValue ∈ lw_tbl := List.mem_of_getElem? (i := 1447) (by decide +kernel)
theorem k_1448 : Cond.code yX11_maskValue cX11_maskValue 5 (some FieldType.int) ∈ lw_tbl := List.mem_of_getElem? (i := 1448) (by decide +kernel)
theorem k_1449 : Cond.methodLink RL 94 yX11_append ∈ lw_tbl := List.mem_of_getElem? (i := 1449) (by decide +kernel)
theorem k_1450 : Cond.instanceMethod yX11_append ∈ lw_tbl := List.mem_of_getElem? (i := 1450) (by decide +kernel)
theorem k_1451 : Cond.selects RX11 yX11_append yX11_append ∈ lw_tbl := List.mem_of_getElem? (i := 1451) (by decide +kernel)
theorem k_1452 : Cond.code yX11_append cX11_append 2 (some FieldType.int) ∈ lw_tbl := List.mem_of_getElem? (i := 1452) (by decide +kernel)
theorem k_1453 : Cond.methodLink RL 99 yX11_clearText ∈ lw_tbl := List.mem_of_getElem? (i := 1453) (by decide +kernel)
theorem k_1454 : Cond.instanceMethod yX11_clearText ∈ lw_tbl := List.mem_of_getElem? (i := 1454) (by decide +kernel)
theorem k_1455 : Cond.selects RX11 yX11_clearText yX11_clearText ∈ lw_tbl := List.mem_of_getElem? (i := 1455) (by decide +kernel)
theorem k_1456 : Cond.code yX11_clearText cX11_clearText 2 (some FieldType.int) ∈ lw_tbl := List.mem_of_getElem? (i := 1456) (by decide +kernel)
theorem k_1457 : Cond.methodLink RL 103 yX11_loadStack ∈ lw_tbl := List.mem_of_getElem? (i := 1457) (by decide +kernel)
theorem k_1458 : Cond.instanceMethod yX11_loadStack ∈ lw_tbl := List.mem_of_getElem? (i := 1458) (by decide +kernel)
theorem k_1459 : Cond.selects RX11 yX11_loadStack yX11_loadStack ∈ lw_tbl := List.mem_of_getElem? (i := 1459) (by decide +kernel)
theorem k_1460 : Cond.code yX11_loadStack cX11_loadStack 2 (some FieldType.int) ∈ lw_tbl := List.mem_of_getElem? (i := 1460) (by decide +kernel)
theorem k_1461 : Cond.methodLink RX11 300 yX11_advance ∈ lw_tbl := List.mem_of_getElem? (i := 1461) (by decide +kernel)
theorem k_1463 : Cond.instanceMethod yX11_advance ∈ lw_tbl := List.mem_of_getElem? (i := 1463) (by decide +kernel)
theorem k_1464 : Cond.code yX11_advance cX11_advance 2 none ∈ lw_tbl := List.mem_of_getElem? (i := 1464) (by decide +kernel)
theorem k_1465 : Cond.methodLink RX11 273 yX11_here ∈ lw_tbl := List.mem_of_getElem? (i := 1465) (by decide +kernel)
theorem k_1467 : Cond.instanceMethod yX11_here ∈ lw_tbl := List.mem_of_getElem? (i := 1467) (by decide +kernel)
theorem k_1468 : Cond.code yX11_here cX11_here 1 (some FieldType.int) ∈ lw_tbl := List.mem_of_getElem? (i := 1468) (by decide +kernel)
theorem k_1469 : Cond.methodLink RX11 287 yX11_readWord ∈ lw_tbl := List.mem_of_getElem? (i := 1469) (by decide +kernel)
theorem k_1471 : Cond.instanceMethod yX11_readWord ∈ lw_tbl := List.mem_of_getElem? (i := 1471) (by decide +kernel)
theorem k_1472 : Cond.code yX11_readWord cX11_readWord 1 none ∈ lw_tbl := List.mem_of_getElem? (i := 1472) (by decide +kernel)
theorem k_1473 : Cond.constantLong RX11 278 (-1) ∈ lw_tbl := List.mem_of_getElem? (i := 1473) (by decide +kernel)
theorem k_1474 : Cond.constantLong RX11 280 27 ∈ lw_tbl := List.mem_of_getElem? (i := 1474) (by decide +kernel)
theorem k_1475 : Cond.constantLong RX11 282 97 ∈ lw_tbl := List.mem_of_getElem? (i := 1475) (by decide +kernel)
theorem k_1476 : Cond.methodLink RX11 290 yX11_readDigits ∈ lw_tbl := List.mem_of_getElem? (i := 1476) (by decide +kernel)
theorem k_1478 : Cond.instanceMethod yX11_readDigits ∈ lw_tbl := List.mem_of_getElem? (i := 1478) (by decide +kernel)
theorem k_1479 : Cond.code yX11_readDigits cX11_readDigits 2 none ∈ lw_tbl := List.mem_of_getElem? (i := 1479) (by decide +kernel)
theorem k_1480 : Cond.methodLink RX11 296 yX11_isFine ∈ lw_tbl := List.mem_of_getElem? (i := 1480) (by decide +kernel)
theorem k_1482 : Cond.instanceMethod yX11_isFine ∈ lw_tbl := List.mem_of_getElem? (i := 1482) (by decide +kernel)
theorem k_1483 : Cond.code yX11_isFine cX11_isFine 1 (some FieldType.boolean) ∈ lw_tbl := List.mem_of_getElem? (i := 1483) (by decide +kernel)
theorem k_1484 : Cond.methodLink RX11 388 yX11_readLayer ∈ lw_tbl := List.mem_of_getElem? (i := 1484) (by decide +kernel)
theorem k_1486 : Cond.instanceMethod yX11_readLayer ∈ lw_tbl := List.mem_of_getElem? (i := 1486) (by decide +kernel)
theorem k_1487 : Cond.code yX11_readLayer cX11_readLayer 5 none ∈ lw_tbl := List.mem_of_getElem? (i := 1487) (by decide +kernel)
theorem k_1488 : Cond.methodLink RX11 373 yX11_kindOf ∈ lw_tbl := List.mem_of_getElem? (i := 1488) (by decide +kernel)
theorem k_1490 : Cond.instanceMethod yX11_kindOf ∈ lw_tbl := List.mem_of_getElem? (i := 1490) (by decide +kernel)
theorem k_1491 : Cond.code yX11_kindOf cX11_kindOf 1 (some FieldType.int) ∈ lw_tbl := List.mem_of_getElem? (i := 1491) (by decide +kernel)
theorem k_1492 : Cond.constantLong RX11 303 175281103 ∈ lw_tbl := List.mem_of_getElem? (i := 1492) (by decide +kernel)
theorem k_1493 : Cond.constantLong RX11 305 20431907448697 ∈ lw_tbl := List.mem_of_getElem? (i := 1493) (by decide +kernel)
theorem k_1494 : Cond.constantLong RX11 307 37404236018 ∈ lw_tbl := List.mem_of_getElem? (i := 1494) (by decide +kernel)
theorem k_1495 : Cond.constantLong RX11 309 4683428867939 ∈ lw_tbl := List.mem_of_getElem? (i := 1495) (by decide +kernel)
theorem k_1496 : Cond.constantLong RX11 311 137017514 ∈ lw_tbl := List.mem_of_getElem? (i := 1496) (by decide +kernel)
theorem k_1497 : Cond.constantLong RX11 313 5739329134687 ∈ lw_tbl := List.mem_of_getElem? (i := 1497) (by decide +kernel)
theorem k_1498 : Cond.constantLong RX11 315 48699 ∈ lw_tbl := List.mem_of_getElem? (i := 1498) (by decide +kernel)
theorem k_1499 : Cond.constantLong RX11 317 189278330 ∈ lw_tbl := List.mem_of_getElem? (i := 1499) (by decide +kernel)
theorem k_1500 : Cond.constantLong RX11 319 62416067 ∈ lw_tbl := List.mem_of_getElem? (i := 1500) (by decide +kernel)
theorem k_1501 : Cond.constantLong RX11 321 3022547 ∈ lw_tbl := List.mem_of_getElem? (i := 1501) (by decide +kernel)
theorem k_1502 : Cond.constantLong RX11 323 7476678095 ∈ lw_tbl := List.mem_of_getElem? (i := 1502) (by decide +kernel)
theorem k_1503 : Cond.constantLong RX11 325 218554355 ∈ lw_tbl := List.mem_of_getElem? (i := 1503) (by decide +kernel)
theorem k_1504 : Cond.constantLong RX11 327 124995 ∈ lw_tbl := List.mem_of_getElem? (i := 1504) (by decide +kernel)
theorem k_1505 : Cond.constantLong RX11 329 7657646453 ∈ lw_tbl := List.mem_of_getElem? (i := 1505) (by decide +kernel)
theorem k_1506 : Cond.methodLink RX11 347 yX11_take ∈ lw_tbl := List.mem_of_getElem? (i := 1506) (by decide +kernel)
theorem k_1508 : Cond.instanceMethod yX11_take ∈ lw_tbl := List.mem_of_getElem? (i := 1508) (by decide +kernel)
theorem k_1509 : Cond.code yX11_take cX11_take 2 none ∈ lw_tbl := List.mem_of_getElem? (i := 1509) (by decide +kernel)
theorem k_1510 : Cond.methodLink RX11 379 yX11_hasA ∈ lw_tbl := List.mem_of_getElem? (i := 1510) (by decide +kernel)
theorem k_1511 : Cond.static yX11_hasA ∈ lw_tbl := List.mem_of_getElem? (i := 1511) (by decide +kernel)
theorem k_1512 : Cond.code yX11_hasA cX11_hasA 1 (some FieldType.boolean) ∈ lw_tbl := List.mem_of_getElem? (i := 1512) (by decide +kernel)
theorem k_1513 : Cond.methodLink RX11 357 yX11_readNumber ∈ lw_tbl := List.mem_of_getElem? (i := 1513) (by decide +kernel)
theorem k_1515 : Cond.instanceMethod yX11_readNumber ∈ lw_tbl := List.mem_of_getElem? (i := 1515) (by decide +kernel)
theorem k_1516 : Cond.code yX11_readNumber cX11_readNumber 5 (some FieldType.int) ∈ lw_tbl := List.mem_of_getElem? (i := 1516) (by decide +kernel)
theorem k_1517 : Cond.methodLink RX11 382 yX11_hasB ∈ lw_tbl := List.mem_of_getElem? (i := 1517) (by decide +kernel)
theorem k_1518 : Cond.static yX11_hasB ∈ lw_tbl := List.mem_of_getElem? (i := 1518) (by decide +kernel)
theorem k_1519 : Cond.code yX11_hasB cX11_hasB 1 (some FieldType.boolean) ∈ lw_tbl := List.mem_of_getElem? (i := 1519) (by decide +kernel)
theorem k_1520 : Cond.methodLink RX11 385 yX11_readOption ∈ lw_tbl := List.mem_of_getElem? (i := 1520) (by decide +kernel)
theorem k_1522 : Cond.instanceMethod yX11_readOption ∈ lw_tbl := List.mem_of_getElem? (i := 1522) (by decide +kernel)
theorem k_1523 : Cond.code yX11_readOption cX11_readOption 3 none ∈ lw_tbl := List.mem_of_getElem? (i := 1523) (by decide +kernel)
theorem k_1524 : Cond.constantLong RX11 351 6041487463 ∈ lw_tbl := List.mem_of_getElem? (i := 1524) (by decide +kernel)
theorem k_1525 : Cond.constantLong RX11 360 266927 ∈ lw_tbl := List.mem_of_getElem? (i := 1525) (by decide +kernel)
theorem k_1526 : Cond.methodLink RX11 365 yX11_modeOf ∈ lw_tbl := List.mem_of_getElem? (i := 1526) (by decide +kernel)
theorem k_1528 : Cond.instanceMethod yX11_modeOf ∈ lw_tbl := List.mem_of_getElem? (i := 1528) (by decide +kernel)
theorem k_1529 : Cond.code yX11_modeOf cX11_modeOf 1 (some FieldType.int) ∈ lw_tbl := List.mem_of_getElem? (i := 1529) (by decide +kernel)
theorem k_1530 : Cond.constantLong RX11 331 209220123 ∈ lw_tbl := List.mem_of_getElem? (i := 1530) (by decide +kernel)
theorem k_1531 : Cond.constantLong RX11 333 144303426772 ∈ lw_tbl := List.mem_of_getElem? (i := 1531) (by decide +kernel)
theorem k_1532 : Cond.constantLong RX11 335 274581644 ∈ lw_tbl := List.mem_of_getElem? (i := 1532) (by decide +kernel)
theorem k_1533 : Cond.constantLong RX11 337 4782078311 ∈ lw_tbl := List.mem_of_getElem? (i := 1533) (by decide +kernel)
theorem k_1534 : Cond.constantLong RX11 339 58289531 ∈ lw_tbl := List.mem_of_getElem? (i := 1534) (by decide +kernel)
theorem k_1535 : Cond.constantLong RX11 341 33109423829609 ∈ lw_tbl := List.mem_of_getElem? (i := 1535) (by decide +kernel)
theorem k_1536 : Cond.constantLong RX11 343 841 ∈ lw_tbl := List.mem_of_getElem? (i := 1536) (by decide +kernel)
theorem k_1537 : Cond.constantLong RX11 345 206922222884 ∈ lw_tbl := List.mem_of_getElem? (i := 1537) (by decide +kernel)
theorem k_1538 : Cond.constantLong RX11 368 11103 ∈ lw_tbl := List.mem_of_getElem? (i := 1538) (by decide +kernel)
theorem k_1539 : Cond.methodLink RL 107 yX11_pixel ∈ lw_tbl := List.mem_of_getElem? (i := 1539) (by decide +kernel)
theorem k_1540 : Cond.instanceMethod yX11_pixel ∈ lw_tbl := List.mem_of_getElem? (i := 1540) (by decide +kernel)
theorem k_1541 : Cond.selects RX11 yX11_pixel yX11_pixel ∈ lw_tbl := List.mem_of_getElem? (i := 1541) (by decide +kernel)
theorem k_1542 : Cond.code yX11_pixel cX11_pixel 5 (some FieldType.int) ∈ lw_tbl := List.mem_of_getElem? (i := 1542) (by decide +kernel)
theorem k_1543 : Cond.methodLink RX11 391 yX11_request ∈ lw_tbl := List.mem_of_getElem? (i := 1543) (by decide +kernel)
theorem k_1545 : Cond.instanceMethod yX11_request ∈ lw_tbl := List.mem_of_getElem? (i := 1545) (by decide +kernel)
theorem k_1546 : Cond.code yX11_request cX11_request 5 none ∈ lw_tbl := List.mem_of_getElem? (i := 1546) (by decide +kernel)
theorem k_1547 : Cond.methodLink RX11 119 yX11_enabledFrom ∈ lw_tbl := List.mem_of_getElem? (i := 1547) (by decide +kernel)
theorem k_1549 : Cond.instanceMethod yX11_enabledFrom ∈ lw_tbl := List.mem_of_getElem? (i := 1549) (by decide +kernel)
theorem k_1550 : Cond.code yX11_enabledFrom cX11_enabledFrom 3 (some FieldType.int) ∈ lw_tbl := List.mem_of_getElem? (i := 1550) (by decide +kernel)
theorem k_1551 : Cond.methodLink RX11 125 yX11_push ∈ lw_tbl := List.mem_of_getElem? (i := 1551) (by decide +kernel)
theorem k_1553 : Cond.instanceMethod yX11_push ∈ lw_tbl := List.mem_of_getElem? (i := 1553) (by decide +kernel)
theorem k_1554 : Cond.code yX11_push cX11_push 3 none ∈ lw_tbl := List.mem_of_getElem? (i := 1554) (by decide +kernel)
theorem k_1555 : Cond.methodLink RX11 128 yX11_use ∈ lw_tbl := List.mem_of_getElem? (i := 1555) (by decide +kernel)
theorem k_1557 : Cond.instanceMethod yX11_use ∈ lw_tbl := List.mem_of_getElem? (i := 1557) (by decide +kernel)
theorem k_1558 : Cond.code yX11_use cX11_use 3 none ∈ lw_tbl := List.mem_of_getElem? (i := 1558) (by decide +kernel)
theorem k_1559 : Cond.methodLink RX11 131 yX11_goOn ∈ lw_tbl := List.mem_of_getElem? (i := 1559) (by decide +kernel)
theorem k_1561 : Cond.instanceMethod yX11_goOn ∈ lw_tbl := List.mem_of_getElem? (i := 1561) (by decide +kernel)
theorem k_1562 : Cond.code yX11_goOn cX11_goOn 2 none ∈ lw_tbl := List.mem_of_getElem? (i := 1562) (by decide +kernel)
theorem k_1563 : Cond.methodLink RX11 135 yX11_begin ∈ lw_tbl := List.mem_of_getElem? (i := 1563) (by decide +kernel)
theorem k_1565 : Cond.instanceMethod yX11_begin ∈ lw_tbl := List.mem_of_getElem? (i := 1565) (by decide +kernel)
theorem k_1566 : Cond.code yX11_begin cX11_begin 9 none ∈ lw_tbl := List.mem_of_getElem? (i := 1566) (by decide +kernel)
theorem k_1567 : Cond.methodLink RX11 394 yX11_trim ∈ lw_tbl := List.mem_of_getElem? (i := 1567) (by decide +kernel)
theorem k_1569 : Cond.instanceMethod yX11_trim ∈ lw_tbl := List.mem_of_getElem? (i := 1569) (by decide +kernel)
theorem k_1570 : Cond.code yX11_trim cX11_trim 3 (some FieldType.int) ∈ lw_tbl := List.mem_of_getElem? (i := 1570) (by decide +kernel)
theorem k_1571 : Cond.methodLink RX11 109 yX11_cached ∈ lw_tbl := List.mem_of_getElem? (i := 1571) (by decide +kernel)
theorem k_1573 : Cond.instanceMethod yX11_cached ∈ lw_tbl := List.mem_of_getElem? (i := 1573) (by decide +kernel)
theorem k_1574 : Cond.code yX11_cached cX11_cached 3 (some FieldType.int) ∈ lw_tbl := List.mem_of_getElem? (i := 1574) (by decide +kernel)
theorem k_1575 : Cond.methodLink RX11 113 yX11_oldest ∈ lw_tbl := List.mem_of_getElem? (i := 1575) (by decide +kernel)
theorem k_1577 : Cond.instanceMethod yX11_oldest ∈ lw_tbl := List.mem_of_getElem? (i := 1577) (by decide +kernel)
theorem k_1578 : Cond.code yX11_oldest cX11_oldest 3 (some FieldType.int) ∈ lw_tbl := List.mem_of_getElem? (i := 1578) (by decide +kernel)
theorem k_1579 : Cond.methodLink RL 111 yX11_prefetch ∈ lw_tbl := List.mem_of_getElem? (i := 1579) (by decide +kernel)
theorem k_1580 : Cond.instanceMethod yX11_prefetch ∈ lw_tbl := List.mem_of_getElem? (i := 1580) (by decide +kernel)
theorem k_1581 : Cond.selects RX11 yX11_prefetch yX11_prefetch ∈ lw_tbl := List.mem_of_getElem? (i := 1581) (by decide +kernel)
theorem k_1582 : Cond.code yX11_prefetch cX11_prefetch 5 (some FieldType.int) ∈ lw_tbl := List.mem_of_getElem? (i := 1582) (by decide +kernel)
theorem k_1583 : Cond.methodLink RL 115 yX11_setCacheLimit ∈ lw_tbl := List.mem_of_getElem? (i := 1583) (by decide +kernel)
theorem k_1584 : Cond.instanceMethod yX11_setCacheLimit ∈ lw_tbl := List.mem_of_getElem? (i := 1584) (by decide +kernel)
theorem k_1585 : Cond.selects RX11 yX11_setCacheLimit yX11_setCacheLimit ∈ lw_tbl := List.mem_of_getElem? (i := 1585) (by decide +kernel)
theorem k_1586 : Cond.code yX11_setCacheLimit cX11_setCacheLimit 2 (some FieldType.int) ∈ lw_tbl := List.mem_of_getElem? (i := 1586) (by decide +kernel)
theorem k_1587 : Cond.methodLink RL 119 yX11_setTileSize ∈ lw_tbl := List.mem_of_getElem? (i := 1587) (by decide +kernel)
theorem k_1588 : Cond.instanceMethod yX11_setTileSize ∈ lw_tbl := List.mem_of_getElem? (i := 1588) (by decide +kernel)
theorem k_1589 : Cond.selects RX11 yX11_setTileSize yX11_setTileSize ∈ lw_tbl := List.mem_of_getElem? (i := 1589) (by decide +kernel)
theorem k_1590 : Cond.code yX11_setTileSize cX11_setTileSize 2 (some FieldType.int) ∈ lw_tbl := List.mem_of_getElem? (i := 1590) (by decide +kernel)
theorem k_1591 : Cond.methodLink RL 123 yX11_clearCache ∈ lw_tbl := List.mem_of_getElem? (i := 1591) (by decide +kernel)
theorem k_1592 : Cond.instanceMethod yX11_clearCache ∈ lw_tbl := List.mem_of_getElem? (i := 1592) (by decide +kernel)
theorem k_1593 : Cond.selects RX11 yX11_clearCache yX11_clearCache ∈ lw_tbl := List.mem_of_getElem? (i := 1593) (by decide +kernel)
theorem k_1594 : Cond.code yX11_clearCache cX11_clearCache 1 (some FieldType.int) ∈ lw_tbl := List.mem_of_getElem? (i := 1594) (by decide +kernel)
theorem k_1595 : Cond.methodLink RL 127 yX11_isCached ∈ lw_tbl := List.mem_of_getElem? (i := 1595) (by decide +kernel)
theorem k_1596 : Cond.instanceMethod yX11_isCached ∈ lw_tbl := List.mem_of_getElem? (i := 1596) (by decide +kernel)
theorem k_1597 : Cond.selects RX11 yX11_isCached yX11_isCached ∈ lw_tbl := List.mem_of_getElem? (i := 1597) (by decide +kernel)
theorem k_1598 : Cond.code yX11_isCached cX11_isCached 4 (some FieldType.int) ∈ lw_tbl := List.mem_of_getElem? (i := 1598) (by decide +kernel)
theorem k_1599 : Cond.methodLink RL 131 yX11_cachedTiles ∈ lw_tbl := List.mem_of_getElem? (i := 1599) (by decide +kernel)
theorem k_1600 : Cond.instanceMethod yX11_cachedTiles ∈ lw_tbl := List.mem_of_getElem? (i := 1600) (by decide +kernel)
theorem k_1601 : Cond.selects RX11 yX11_cachedTiles yX11_cachedTiles ∈ lw_tbl := List.mem_of_getElem? (i := 1601) (by decide +kernel)
theorem k_1602 : Cond.code yX11_cachedTiles cX11_cachedTiles 4 (some FieldType.int) ∈ lw_tbl := List.mem_of_getElem? (i := 1602) (by decide +kernel)
theorem k_1603 : Cond.methodLink RL 135 yX11_counter ∈ lw_tbl := List.mem_of_getElem? (i := 1603) (by decide +kernel)
theorem k_1604 : Cond.instanceMethod yX11_counter ∈ lw_tbl := List.mem_of_getElem? (i := 1604) (by decide +kernel)
theorem k_1605 : Cond.selects RX11 yX11_counter yX11_counter ∈ lw_tbl := List.mem_of_getElem? (i := 1605) (by decide +kernel)
theorem k_1606 : Cond.code yX11_counter cX11_counter 2 (some FieldType.int) ∈ lw_tbl := List.mem_of_getElem? (i := 1606) (by decide +kernel)
theorem k_1607 : Cond.methodLink RL 139 yX11_oldestTile ∈ lw_tbl := List.mem_of_getElem? (i := 1607) (by decide +kernel)
theorem k_1608 : Cond.instanceMethod yX11_oldestTile ∈ lw_tbl := List.mem_of_getElem? (i := 1608) (by decide +kernel)
theorem k_1609 : Cond.selects RX11 yX11_oldestTile yX11_oldestTile ∈ lw_tbl := List.mem_of_getElem? (i := 1609) (by decide +kernel)
theorem k_1610 : Cond.code yX11_oldestTile cX11_oldestTile 2 (some FieldType.int) ∈ lw_tbl := List.mem_of_getElem? (i := 1610) (by decide +kernel)
theorem k_1611 : Cond.methodLink RL 143 yX11_histogram ∈ lw_tbl := List.mem_of_getElem? (i := 1611) (by decide +kernel)
theorem k_1612 : Cond.instanceMethod yX11_histogram ∈ lw_tbl := List.mem_of_getElem? (i := 1612) (by decide +kernel)
theorem k_1613 : Cond.selects RX11 yX11_histogram yX11_histogram ∈ lw_tbl := List.mem_of_getElem? (i := 1613) (by decide +kernel)
theorem k_1614 : Cond.code yX11_histogram cX11_histogram 7 (some FieldType.int) ∈ lw_tbl := List.mem_of_getElem? (i := 1614) (by decide +kernel)
theorem k_1615 : Cond.methodLink RX11 397 yX11_isOutput ∈ lw_tbl := List.mem_of_getElem? (i := 1615) (by decide +kernel)
theorem k_1617 : Cond.instanceMethod yX11_isOutput ∈ lw_tbl := List.mem_of_getElem? (i := 1617) (by decide +kernel)
theorem k_1618 : Cond.code yX11_isOutput cX11_isOutput 2 (some FieldType.boolean) ∈ lw_tbl := List.mem_of_getElem? (i := 1618) (by decide +kernel)
theorem k_1619 : Cond.methodLink RL 147 yX11_sum ∈ lw_tbl := List.mem_of_getElem? (i := 1619) (by decide +kernel)
theorem k_1620 : Cond.instanceMethod yX11_sum ∈ lw_tbl := List.mem_of_getElem? (i := 1620) (by decide +kernel)
theorem k_1621 : Cond.selects RX11 yX11_sum yX11_sum ∈ lw_tbl := List.mem_of_getElem? (i := 1621) (by decide +kernel)
theorem k_1622 : Cond.code yX11_sum cX11_sum 5 (some FieldType.int) ∈ lw_tbl := List.mem_of_getElem? (i := 1622) (by decide +kernel)
theorem k_1623 : Cond.methodLink RL 151 yX11_effect ∈ lw_tbl := List.mem_of_getElem? (i := 1623) (by decide +kernel)
theorem k_1624 : Cond.instanceMethod yX11_effect ∈ lw_tbl := List.mem_of_getElem? (i := 1624) (by decide +kernel)
theorem k_1625 : Cond.selects RX11 yX11_effect yX11_effect ∈ lw_tbl := List.mem_of_getElem? (i := 1625) (by decide +kernel)
theorem k_1626 : Cond.code yX11_effect cX11_effect 2 (some FieldType.int) ∈ lw_tbl := List.mem_of_getElem? (i := 1626) (by decide +kernel)
theorem k_1627 : Cond.methodLink RX11 406 yX11_effectOf ∈ lw_tbl := List.mem_of_getElem? (i := 1627) (by decide +kernel)
theorem k_1629 : Cond.instanceMethod yX11_effectOf ∈ lw_tbl := List.mem_of_getElem? (i := 1629) (by decide +kernel)
theorem k_1630 : Cond.code yX11_effectOf cX11_effectOf 6 (some FieldType.int) ∈ lw_tbl := List.mem_of_getElem? (i := 1630) (by decide +kernel)
theorem k_1631 : Cond.methodLink RX11 403 yX11_layBeside ∈ lw_tbl := List.mem_of_getElem? (i := 1631) (by decide +kernel)
theorem k_1633 : Cond.instanceMethod yX11_layBeside ∈ lw_tbl := List.mem_of_getElem? (i := 1633) (by decide +kernel)
theorem k_1634 : Cond.code yX11_layBeside cX11_layBeside 3 none ∈ lw_tbl := List.mem_of_getElem? (i := 1634) (by decide +kernel)
theorem k_1635 : Cond.methodLink RX11 400 yX11_top ∈ lw_tbl := List.mem_of_getElem? (i := 1635) (by decide +kernel)
theorem k_1637 : Cond.instanceMethod yX11_top ∈ lw_tbl := List.mem_of_getElem? (i := 1637) (by decide +kernel)
theorem k_1638 : Cond.code yX11_top cX11_top 1 (some FieldType.int) ∈ lw_tbl := List.mem_of_getElem? (i := 1638) (by decide +kernel)
theorem k_1639 : Cond.methodLink RL 155 yX11_strongestLayer ∈ lw_tbl := List.mem_of_getElem? (i := 1639) (by decide +kernel)
theorem k_1640 : Cond.instanceMethod yX11_strongestLayer ∈ lw_tbl := List.mem_of_getElem? (i := 1640) (by decide +kernel)
theorem k_1641 : Cond.selects RX11 yX11_strongestLayer yX11_strongestLayer ∈ lw_tbl := List.mem_of_getElem? (i := 1641) (by decide +kernel)
theorem k_1642 : Cond.code yX11_strongestLayer cX11_strongestLayer 5 (some FieldType.int) ∈ lw_tbl := List.mem_of_getElem? (i := 1642) (by decide +kernel)
theorem k_1643 : Cond.methodLink RL 159 yX11_exchangeDifference ∈ lw_tbl := List.mem_of_getElem? (i := 1643) (by decide +kernel)
theorem k_1644 : Cond.instanceMethod yX11_exchangeDifference ∈ lw_tbl := List.mem_of_getElem? (i := 1644) (by decide +kernel)
theorem k_1645 : Cond.selects RX11 yX11_exchangeDifference yX11_exchangeDifference ∈ lw_tbl := List.mem_of_getElem? (i := 1645) (by decide +kernel)
theorem k_1646 : Cond.code yX11_exchangeDifference cX11_exchangeDifference 3 (some FieldType.int) ∈ lw_tbl := List.mem_of_getElem? (i := 1646) (by decide +kernel)
theorem k_1647 : Cond.methodLink RX11 409 yX11_differences ∈ lw_tbl := List.mem_of_getElem? (i := 1647) (by decide +kernel)
theorem k_1649 : Cond.instanceMethod yX11_differences ∈ lw_tbl := List.mem_of_getElem? (i := 1649) (by decide +kernel)
theorem k_1650 : Cond.code yX11_differences cX11_differences 4 (some FieldType.int) ∈ lw_tbl := List.mem_of_getElem? (i := 1650) (by decide +kernel)
theorem k_1651 : Cond.methodLink RL 163 yX11_snapshotDifference ∈ lw_tbl := List.mem_of_getElem? (i := 1651) (by decide +kernel)
theorem k_1652 : Cond.instanceMethod yX11_snapshotDifference ∈ lw_tbl := List.mem_of_getElem? (i := 1652) (by decide +kernel)
theorem k_1653 : Cond.selects RX11 yX11_snapshotDifference yX11_snapshotDifference ∈ lw_tbl := List.mem_of_getElem? (i := 1653) (by decide +kernel)
theorem k_1654 : Cond.code yX11_snapshotDifference cX11_snapshotDifference 4 (some FieldType.int) ∈ lw_tbl := List.mem_of_getElem? (i := 1654) (by decide +kernel)
theorem k_1655 : Cond.methodLink RL 167 yX11_undo ∈ lw_tbl := List.mem_of_getElem? (i := 1655) (by decide +kernel)
theorem k_1656 : Cond.instanceMethod yX11_undo ∈ lw_tbl := List.mem_of_getElem? (i := 1656) (by decide +kernel)
theorem k_1657 : Cond.selects RX11 yX11_undo yX11_undo ∈ lw_tbl := List.mem_of_getElem? (i := 1657) (by decide +kernel)
theorem k_1658 : Cond.code yX11_undo cX11_undo 2 (some FieldType.int) ∈ lw_tbl := List.mem_of_getElem? (i := 1658) (by decide +kernel)
theorem k_1659 : Cond.methodLink RL 171 yX11_save ∈ lw_tbl := List.mem_of_getElem? (i := 1659) (by decide +kernel)
theorem k_1660 : Cond.instanceMethod yX11_save ∈ lw_tbl := List.mem_of_getElem? (i := 1660) (by decide +kernel)
theorem k_1661 : Cond.selects RX11 yX11_save yX11_save ∈ lw_tbl := List.mem_of_getElem? (i := 1661) (by decide +kernel)
theorem k_1662 : Cond.code yX11_save cX11_save 3 (some FieldType.int) ∈ lw_tbl := List.mem_of_getElem? (i := 1662) (by decide +kernel)
theorem k_1663 : Cond.methodLink RL 175 yX11_restore ∈ lw_tbl := List.mem_of_getElem? (i := 1663) (by decide +kernel)
theorem k_1664 : Cond.instanceMethod yX11_restore ∈ lw_tbl := List.mem_of_getElem? (i := 1664) (by decide +kernel)
theorem k_1665 : Cond.selects RX11 yX11_restore yX11_restore ∈ lw_tbl := List.mem_of_getElem? (i := 1665) (by decide +kernel)
theorem k_1666 : Cond.code yX11_restore cX11_restore 3 (some FieldType.int) ∈ lw_tbl := List.mem_of_getElem? (i := 1666) (by decide +kernel)
theorem k_1667 : Cond.fieldLink RJ0 9 "java/lang/String" "value" "[B" ∈ lw_tbl := List.mem_of_getElem? (i := 1667) (by decide +kernel)
theorem k_1668 : Cond.fieldLink RJ0 15 "java/lang/String" "coder" "B" ∈ lw_tbl := List.mem_of_getElem? (i := 1668) (by decide +kernel)
theorem ykX0_init : zYok yX0_init 0 := by unfold zYok; decide +kernel
theorem ykX0_layerCount : zYok yX0_layerCount 0 := by unfold zYok; decide +kernel
theorem ykX0_isFull : zYok yX0_isFull 0 := by unfold zYok; decide +kernel
theorem ykX0_layerAt : zYok yX0_layerAt 1 := by unfold zYok; decide +kernel
theorem ykX0_enabledCount : zYok yX0_enabledCount 0 := by unfold zYok; decide +kernel
theorem ykX0_enabledAtMost : zYok yX0_enabledAtMost 1 := by unfold zYok; decide +kernel
theorem ykX0_copyFrom : zYok yX0_copyFrom 1 := by unfold zYok; decide +kernel
theorem ykX0_copyLayersFrom : zYok yX0_copyLayersFrom 1 := by unfold zYok; decide +kernel
theorem ykX0_removeLayers : zYok yX0_removeLayers 0 := by unfold zYok; decide +kernel
theorem ykX0_addFresh : zYok yX0_addFresh 3 := by unfold zYok; decide +kernel
theorem ykX0_addCopyAbove : zYok yX0_addCopyAbove 1 := by unfold zYok; decide +kernel
theorem ykX0_takeOut : zYok yX0_takeOut 1 := by unfold zYok; decide +kernel
theorem ykX0_shift : zYok yX0_shift 2 := by unfold zYok; decide +kernel
theorem ykX0_nextLayer : zYok yX0_nextLayer 0 := by unfold zYok; decide +kernel
theorem ykX1_init : zYok yX1_init 0 := by unfold zYok; decide +kernel
theorem ykX1_push : zYok yX1_push 1 := by unfold zYok; decide +kernel
theorem ykX1_pop : zYok yX1_pop 1 := by unfold zYok; decide +kernel
theorem ykX1_discardOldest : zYok yX1_discardOldest 0 := by unfold zYok; decide +kernel
theorem ykX2_allow : zYok yX2_allow 3 := by unfold zYok; decide +kernel
theorem ykX2_parametersOf : zYok yX2_parametersOf 1 := by unfold zYok; decide +kernel
theorem ykX2_lowestA : zYok yX2_lowestA 1 := by unfold zYok; decide +kernel
theorem ykX2_highestA : zYok yX2_highestA 1 := by unfold zYok; decide +kernel
theorem ykX2_lowestB : zYok yX2_lowestB 2 := by unfold zYok; decide +kernel
theorem ykX2_highestB : zYok yX2_highestB 1 := by unfold zYok; decide +kernel
theorem ykX2_entry : zYok yX2_entry 2 := by unfold zYok; decide +kernel
theorem ykX2_nameOf : zYok yX2_nameOf 1 := by unfold zYok; decide +kernel
theorem ykX3_init : zYok yX3_init 0 := by unfold zYok; decide +kernel
theorem ykX3_startAs : zYok yX3_startAs 3 := by unfold zYok; decide +kernel
theorem ykX3_copyFrom : zYok yX3_copyFrom 1 := by unfold zYok; decide +kernel
theorem ykX3_seesNeighbourhood : zYok yX3_seesNeighbourhood 0 := by unfold zYok; decide +kernel
theorem ykX3_reach : zYok yX3_reach 0 := by unfold zYok; decide +kernel
theorem ykX4_init : zYok yX4_init 0 := by unfold zYok; decide +kernel
theorem ykX4_allows : zYok yX4_allows 5 := by unfold zYok; decide +kernel
theorem ykX4_define : zYok yX4_define 5 := by unfold zYok; decide +kernel
theorem ykX4_startAnew : zYok yX4_startAnew 0 := by unfold zYok; decide +kernel
theorem ykX4_copyFrom : zYok yX4_copyFrom 1 := by unfold zYok; decide +kernel
theorem ykX4_addDab : zYok yX4_addDab 3 := by unfold zYok; decide +kernel
theorem ykX4_weightAt : zYok yX4_weightAt 3 := by unfold zYok; decide +kernel
theorem ykX4_rectangleWeightAt : zYok yX4_rectangleWeightAt 2 := by unfold zYok; decide +kernel
theorem ykX4_gradientWeightAt : zYok yX4_gradientWeightAt 1 := by unfold zYok; decide +kernel
theorem ykX4_isDabbed : zYok yX4_isDabbed 2 := by unfold zYok; decide +kernel
theorem ykX5_blended : zYok yX5_blended 3 := by unfold zYok; decide +kernel
theorem ykX5_nameOf : zYok yX5_nameOf 1 := by unfold zYok; decide +kernel
theorem ykX6_init : zYok yX6_init 0 := by unfold zYok; decide +kernel
theorem ykX6_startAs : zYok yX6_startAs 2 := by unfold zYok; decide +kernel
theorem ykX6_contains : zYok yX6_contains 2 := by unfold zYok; decide +kernel
theorem ykX6_at : zYok yX6_at 2 := by unfold zYok; decide +kernel
theorem ykX6_atNearest : zYok yX6_atNearest 2 := by unfold zYok; decide +kernel
theorem ykX6_put : zYok yX6_put 3 := by unfold zYok; decide +kernel
theorem ykX6_copyFrom : zYok yX6_copyFrom 1 := by unfold zYok; decide +kernel
theorem ykX6_takeSizeOf : zYok yX6_takeSizeOf 1 := by unfold zYok; decide +kernel
theorem ykX6_hasSizeOf : zYok yX6_hasSizeOf 1 := by unfold zYok; decide +kernel
theorem ykX6_absoluteDifference : zYok yX6_absoluteDifference 1 := by unfold zYok; decide +kernel
theorem ykX6_differingPixels : zYok yX6_differingPixels 1 := by unfold zYok; decide +kernel
theorem ykX7_init : zYok yX7_init 0 := by unfold zYok; decide +kernel
theorem ykX7_renderStack : zYok yX7_renderStack 3 := by unfold zYok; decide +kernel
theorem ykX7_render : zYok yX7_render 6 := by unfold zYok; decide +kernel
theorem ykX7_adjusted : zYok yX7_adjusted 4 := by unfold zYok; decide +kernel
theorem ykX7_findExtremes : zYok yX7_findExtremes 1 := by unfold zYok; decide +kernel
theorem ykX7_gatherNeighbours : zYok yX7_gatherNeighbours 4 := by unfold zYok; decide +kernel
theorem ykX7_average : zYok yX7_average 0 := by unfold zYok; decide +kernel
theorem ykX7_median : zYok yX7_median 0 := by unfold zYok; decide +kernel
theorem ykX7_sortNeighbours : zYok yX7_sortNeighbours 0 := by unfold zYok; decide +kernel
theorem ykX7_greatest : zYok yX7_greatest 0 := by unfold zYok; decide +kernel
theorem ykX7_smallest : zYok yX7_smallest 0 := by unfold zYok; decide +kernel
theorem ykX8_init : zYok yX8_init 0 := by unfold zYok; decide +kernel
theorem ykX8_add : zYok yX8_add 1 := by unfold zYok; decide +kernel
theorem ykX8_readInto : zYok yX8_readInto 1 := by unfold zYok; decide +kernel
theorem ykX8_readLayer : zYok yX8_readLayer 1 := by unfold zYok; decide +kernel
theorem ykX8_readNumber : zYok yX8_readNumber 2 := by unfold zYok; decide +kernel
theorem ykX8_readOptions : zYok yX8_readOptions 1 := by unfold zYok; decide +kernel
theorem ykX8_readMode : zYok yX8_readMode 1 := by unfold zYok; decide +kernel
theorem ykX8_kindOfWord : zYok yX8_kindOfWord 0 := by unfold zYok; decide +kernel
theorem ykX8_modeOfWord : zYok yX8_modeOfWord 0 := by unfold zYok; decide +kernel
theorem ykX8_optionOfWord : zYok yX8_optionOfWord 0 := by unfold zYok; decide +kernel
theorem ykX8_wordIs : zYok yX8_wordIs 1 := by unfold zYok; decide +kernel
theorem ykX8_nextToken : zYok yX8_nextToken 0 := by unfold zYok; decide +kernel
theorem ykX8_isNumber : zYok yX8_isNumber 0 := by unfold zYok; decide +kernel
theorem ykX8_valueOfDigits : zYok yX8_valueOfDigits 0 := by unfold zYok; decide +kernel
theorem ykX8_endOfRun : zYok yX8_endOfRun 3 := by unfold zYok; decide +kernel
theorem ykX8_characterAt : zYok yX8_characterAt 1 := by unfold zYok; decide +kernel
theorem ykX9_init : zYok yX9_init 0 := by unfold zYok; decide +kernel
theorem ykX9_layerOf : zYok yX9_layerOf 1 := by unfold zYok; decide +kernel
theorem ykX9_columnOf : zYok yX9_columnOf 1 := by unfold zYok; decide +kernel
theorem ykX9_rowOf : zYok yX9_rowOf 1 := by unfold zYok; decide +kernel
theorem ykX9_slotOf : zYok yX9_slotOf 3 := by unfold zYok; decide +kernel
theorem ykX9_tileOf : zYok yX9_tileOf 1 := by unfold zYok; decide +kernel
theorem ykX9_outputAt : zYok yX9_outputAt 1 := by unfold zYok; decide +kernel
theorem ykX9_holds : zYok yX9_holds 3 := by unfold zYok; decide +kernel
theorem ykX9_noteFound : zYok yX9_noteFound 3 := by unfold zYok; decide +kernel
theorem ykX9_noteComputed : zYok yX9_noteComputed 3 := by unfold zYok; decide +kernel
theorem ykX9_use : zYok yX9_use 1 := by unfold zYok; decide +kernel
theorem ykX9_tilesOf : zYok yX9_tilesOf 1 := by unfold zYok; decide +kernel
theorem ykX9_oldestSlot : zYok yX9_oldestSlot 0 := by unfold zYok; decide +kernel
theorem ykX9_dropSurplus : zYok yX9_dropSurplus 0 := by unfold zYok; decide +kernel
theorem ykX9_removeAll : zYok yX9_removeAll 0 := by unfold zYok; decide +kernel
theorem ykX9_removeFrom : zYok yX9_removeFrom 1 := by unfold zYok; decide +kernel
theorem ykX9_removeTouched : zYok yX9_removeTouched 5 := by unfold zYok; decide +kernel
theorem ykX9_removeLowest : zYok yX9_removeLowest 1 := by unfold zYok; decide +kernel
theorem ykX9_removeSlots : zYok yX9_removeSlots 2 := by unfold zYok; decide +kernel
theorem ykX9_remove : zYok yX9_remove 1 := by unfold zYok; decide +kernel
theorem ykX10_init : zYok yX10_init 0 := by unfold zYok; decide +kernel
theorem ykX10_newImage : zYok yX10_newImage 2 := by unfold zYok; decide +kernel
theorem ykX10_setPixel : zYok yX10_setPixel 3 := by unfold zYok; decide +kernel
theorem ykX10_fillRectangle : zYok yX10_fillRectangle 5 := by unfold zYok; decide +kernel
theorem ykX10_size : zYok yX10_size 1 := by unfold zYok; decide +kernel
theorem ykX10_paint : zYok yX10_paint 5 := by unfold zYok; decide +kernel
theorem ykX10_removeTilesThatSee : zYok yX10_removeTilesThatSee 4 := by unfold zYok; decide +kernel
theorem ykX10_addLayer : zYok yX10_addLayer 3 := by unfold zYok; decide +kernel
theorem ykX10_setParameters : zYok yX10_setParameters 3 := by unfold zYok; decide +kernel
theorem ykX10_setBlend : zYok yX10_setBlend 3 := by unfold zYok; decide +kernel
theorem ykX10_setEnabled : zYok yX10_setEnabled 2 := by unfold zYok; decide +kernel
theorem ykX10_moveLayer : zYok yX10_moveLayer 2 := by unfold zYok; decide +kernel
theorem ykX10_duplicateLayer : zYok yX10_duplicateLayer 1 := by unfold zYok; decide +kernel
theorem ykX10_removeLayer : zYok yX10_removeLayer 1 := by unfold zYok; decide +kernel
theorem ykX10_flatten : zYok yX10_flatten 1 := by unfold zYok; decide +kernel
theorem ykX10_layer : zYok yX10_layer 2 := by unfold zYok; decide +kernel
theorem ykX10_startChangeOf : zYok yX10_startChangeOf 1 := by unfold zYok; decide +kernel
theorem ykX10_setMask : zYok yX10_setMask 6 := by unfold zYok; decide +kernel
theorem ykX10_setFeather : zYok yX10_setFeather 2 := by unfold zYok; decide +kernel
theorem ykX10_invertMask : zYok yX10_invertMask 1 := by unfold zYok; decide +kernel
theorem ykX10_dab : zYok yX10_dab 4 := by unfold zYok; decide +kernel
theorem ykX10_maskValue : zYok yX10_maskValue 3 := by unfold zYok; decide +kernel
theorem ykX10_append : zYok yX10_append 1 := by unfold zYok; decide +kernel
theorem ykX10_clearText : zYok yX10_clearText 0 := by unfold zYok; decide +kernel
theorem ykX10_loadStack : zYok yX10_loadStack 0 := by unfold zYok; decide +kernel
theorem ykX10_pixel : zYok yX10_pixel 3 := by unfold zYok; decide +kernel
theorem ykX10_prefetch : zYok yX10_prefetch 1 := by unfold zYok; decide +kernel
theorem ykX10_setCacheLimit : zYok yX10_setCacheLimit 1 := by unfold zYok; decide +kernel
theorem ykX10_setTileSize : zYok yX10_setTileSize 1 := by unfold zYok; decide +kernel
theorem ykX10_clearCache : zYok yX10_clearCache 0 := by unfold zYok; decide +kernel
theorem ykX10_isCached : zYok yX10_isCached 3 := by unfold zYok; decide +kernel
theorem ykX10_cachedTiles : zYok yX10_cachedTiles 1 := by unfold zYok; decide +kernel
theorem ykX10_counter : zYok yX10_counter 1 := by unfold zYok; decide +kernel
theorem ykX10_oldestTile : zYok yX10_oldestTile 0 := by unfold zYok; decide +kernel
theorem ykX10_tileColumns : zYok yX10_tileColumns 0 := by unfold zYok; decide +kernel
theorem ykX10_tileRows : zYok yX10_tileRows 0 := by unfold zYok; decide +kernel
theorem ykX10_requestTile : zYok yX10_requestTile 3 := by unfold zYok; decide +kernel
theorem ykX10_requestInput : zYok yX10_requestInput 4 := by unfold zYok; decide +kernel
theorem ykX10_pictureOf : zYok yX10_pictureOf 1 := by unfold zYok; decide +kernel
theorem ykX10_histogram : zYok yX10_histogram 3 := by unfold zYok; decide +kernel
theorem ykX10_sum : zYok yX10_sum 1 := by unfold zYok; decide +kernel
theorem ykX10_effect : zYok yX10_effect 1 := by unfold zYok; decide +kernel
theorem ykX10_strongestLayer : zYok yX10_strongestLayer 0 := by unfold zYok; decide +kernel
theorem ykX10_exchangeDifference : zYok yX10_exchangeDifference 1 := by unfold zYok; decide +kernel
theorem ykX10_snapshotDifference : zYok yX10_snapshotDifference 1 := by unfold zYok; decide +kernel
theorem ykX10_hasOutput : zYok yX10_hasOutput 1 := by unfold zYok; decide +kernel
theorem ykX10_changeWithout : zYok yX10_changeWithout 1 := by unfold zYok; decide +kernel
theorem ykX10_pixelsThatDiffer : zYok yX10_pixelsThatDiffer 1 := by unfold zYok; decide +kernel
theorem ykX10_undo : zYok yX10_undo 0 := by unfold zYok; decide +kernel
theorem ykX10_save : zYok yX10_save 1 := by unfold zYok; decide +kernel
theorem ykX10_restore : zYok yX10_restore 1 := by unfold zYok; decide +kernel
theorem ykX10_within : zYok yX10_within 3 := by unfold zYok; decide +kernel
theorem ykX10_clamped : zYok yX10_clamped 1 := by unfold zYok; decide +kernel
theorem ykX10_divided : zYok yX10_divided 2 := by unfold zYok; decide +kernel
theorem ykX11_init : zYok yX11_init 0 := by unfold zYok; decide +kernel
theorem ykX11_in : zYok yX11_in 3 := by unfold zYok; decide +kernel
theorem ykX11_floor : zYok yX11_floor 2 := by unfold zYok; decide +kernel
theorem ykX11_clamp : zYok yX11_clamp 1 := by unfold zYok; decide +kernel
theorem ykX11_abs : zYok yX11_abs 1 := by unfold zYok; decide +kernel
theorem ykX11_makeImage : zYok yX11_makeImage 2 := by unfold zYok; decide +kernel
theorem ykX11_keep : zYok yX11_keep 0 := by unfold zYok; decide +kernel
theorem ykX11_at : zYok yX11_at 1 := by unfold zYok; decide +kernel
theorem ykX11_isLayer : zYok yX11_isLayer 1 := by unfold zYok; decide +kernel
theorem ykX11_isPixel : zYok yX11_isPixel 2 := by unfold zYok; decide +kernel
theorem ykX11_isOn : zYok yX11_isOn 1 := by unfold zYok; decide +kernel
theorem ykX11_columns : zYok yX11_columns 0 := by unfold zYok; decide +kernel
theorem ykX11_rows : zYok yX11_rows 0 := by unfold zYok; decide +kernel
theorem ykX11_cached : zYok yX11_cached 0 := by unfold zYok; decide +kernel
theorem ykX11_removeTiles : zYok yX11_removeTiles 2 := by unfold zYok; decide +kernel
theorem ykX11_reach : zYok yX11_reach 1 := by unfold zYok; decide +kernel
theorem ykX11_removeAfter : zYok yX11_removeAfter 4 := by unfold zYok; decide +kernel
theorem ykX11_oldest : zYok yX11_oldest 0 := by unfold zYok; decide +kernel
theorem ykX11_trim : zYok yX11_trim 0 := by unfold zYok; decide +kernel
theorem ykX11_enabledFrom : zYok yX11_enabledFrom 1 := by unfold zYok; decide +kernel
theorem ykX11_push : zYok yX11_push 2 := by unfold zYok; decide +kernel
theorem ykX11_begin : zYok yX11_begin 1 := by unfold zYok; decide +kernel
theorem ykX11_use : zYok yX11_use 2 := by unfold zYok; decide +kernel
theorem ykX11_request : zYok yX11_request 2 := by unfold zYok; decide +kernel
theorem ykX11_goOn : zYok yX11_goOn 1 := by unfold zYok; decide +kernel
theorem ykX11_inputAt : zYok yX11_inputAt 3 := by unfold zYok; decide +kernel
theorem ykX11_nearest : zYok yX11_nearest 2 := by unfold zYok; decide +kernel
theorem ykX11_gather : zYok yX11_gather 4 := by unfold zYok; decide +kernel
theorem ykX11_blur : zYok yX11_blur 4 := by unfold zYok; decide +kernel
theorem ykX11_point : zYok yX11_point 4 := by unfold zYok; decide +kernel
theorem ykX11_findRange : zYok yX11_findRange 1 := by unfold zYok; decide +kernel
theorem ykX11_adjusted : zYok yX11_adjusted 4 := by unfold zYok; decide +kernel
theorem ykX11_blend : zYok yX11_blend 3 := by unfold zYok; decide +kernel
theorem ykX11_beyond : zYok yX11_beyond 3 := by unfold zYok; decide +kernel
theorem ykX11_isDabbed : zYok yX11_isDabbed 3 := by unfold zYok; decide +kernel
theorem ykX11_plainMask : zYok yX11_plainMask 4 := by unfold zYok; decide +kernel
theorem ykX11_maskAt : zYok yX11_maskAt 4 := by unfold zYok; decide +kernel
theorem ykX11_computeLayer : zYok yX11_computeLayer 1 := by unfold zYok; decide +kernel
theorem ykX11_compute : zYok yX11_compute 1 := by unfold zYok; decide +kernel
theorem ykX11_top : zYok yX11_top 0 := by unfold zYok; decide +kernel
theorem ykX11_pixels : zYok yX11_pixels 0 := by unfold zYok; decide +kernel
theorem ykX11_removeAll : zYok yX11_removeAll 0 := by unfold zYok; decide +kernel
theorem ykX11_newImage : zYok yX11_newImage 2 := by unfold zYok; decide +kernel
theorem ykX11_setPixel : zYok yX11_setPixel 3 := by unfold zYok; decide +kernel
theorem ykX11_fillRectangle : zYok yX11_fillRectangle 5 := by unfold zYok; decide +kernel
theorem ykX11_size : zYok yX11_size 1 := by unfold zYok; decide +kernel
theorem ykX11_leastA : zYok yX11_leastA 1 := by unfold zYok; decide +kernel
theorem ykX11_mostA : zYok yX11_mostA 1 := by unfold zYok; decide +kernel
theorem ykX11_leastB : zYok yX11_leastB 2 := by unfold zYok; decide +kernel
theorem ykX11_mostB : zYok yX11_mostB 1 := by unfold zYok; decide +kernel
theorem ykX11_isPossible : zYok yX11_isPossible 3 := by unfold zYok; decide +kernel
theorem ykX11_layLayer : zYok yX11_layLayer 5 := by unfold zYok; decide +kernel
theorem ykX11_addLayer : zYok yX11_addLayer 3 := by unfold zYok; decide +kernel
theorem ykX11_setParameters : zYok yX11_setParameters 3 := by unfold zYok; decide +kernel
theorem ykX11_setBlend : zYok yX11_setBlend 3 := by unfold zYok; decide +kernel
theorem ykX11_setEnabled : zYok yX11_setEnabled 2 := by unfold zYok; decide +kernel
theorem ykX11_exchange : zYok yX11_exchange 2 := by unfold zYok; decide +kernel
theorem ykX11_moveLayer : zYok yX11_moveLayer 2 := by unfold zYok; decide +kernel
theorem ykX11_duplicateLayer : zYok yX11_duplicateLayer 1 := by unfold zYok; decide +kernel
theorem ykX11_cutLayers : zYok yX11_cutLayers 2 := by unfold zYok; decide +kernel
theorem ykX11_removeLayer : zYok yX11_removeLayer 1 := by unfold zYok; decide +kernel
theorem ykX11_flatten : zYok yX11_flatten 1 := by unfold zYok; decide +kernel
theorem ykX11_layer : zYok yX11_layer 2 := by unfold zYok; decide +kernel
theorem ykX11_isNothing : zYok yX11_isNothing 4 := by unfold zYok; decide +kernel
theorem ykX11_isMask : zYok yX11_isMask 5 := by unfold zYok; decide +kernel
theorem ykX11_setMaskOf : zYok yX11_setMaskOf 6 := by unfold zYok; decide +kernel
theorem ykX11_setMask : zYok yX11_setMask 6 := by unfold zYok; decide +kernel
theorem ykX11_setFeather : zYok yX11_setFeather 2 := by unfold zYok; decide +kernel
theorem ykX11_invertMask : zYok yX11_invertMask 1 := by unfold zYok; decide +kernel
theorem ykX11_dab : zYok yX11_dab 4 := by unfold zYok; decide +kernel
theorem ykX11_maskValue : zYok yX11_maskValue 3 := by unfold zYok; decide +kernel
theorem ykX11_append : zYok yX11_append 1 := by unfold zYok; decide +kernel
theorem ykX11_clearText : zYok yX11_clearText 0 := by unfold zYok; decide +kernel
theorem ykX11_here : zYok yX11_here 0 := by unfold zYok; decide +kernel
theorem ykX11_readWord : zYok yX11_readWord 0 := by unfold zYok; decide +kernel
theorem ykX11_readDigits : zYok yX11_readDigits 0 := by unfold zYok; decide +kernel
theorem ykX11_advance : zYok yX11_advance 0 := by unfold zYok; decide +kernel
theorem ykX11_isFine : zYok yX11_isFine 0 := by unfold zYok; decide +kernel
theorem ykX11_take : zYok yX11_take 1 := by unfold zYok; decide +kernel
theorem ykX11_kindOf : zYok yX11_kindOf 0 := by unfold zYok; decide +kernel
theorem ykX11_modeOf : zYok yX11_modeOf 0 := by unfold zYok; decide +kernel
theorem ykX11_readNumber : zYok yX11_readNumber 2 := by unfold zYok; decide +kernel
theorem ykX11_hasA : zYok yX11_hasA 1 := by unfold zYok; decide +kernel
theorem ykX11_hasB : zYok yX11_hasB 1 := by unfold zYok; decide +kernel
theorem ykX11_readOption : zYok yX11_readOption 1 := by unfold zYok; decide +kernel
theorem ykX11_readLayer : zYok yX11_readLayer 0 := by unfold zYok; decide +kernel
theorem ykX11_loadStack : zYok yX11_loadStack 0 := by unfold zYok; decide +kernel
theorem ykX11_pixel : zYok yX11_pixel 3 := by unfold zYok; decide +kernel
theorem ykX11_prefetch : zYok yX11_prefetch 1 := by unfold zYok; decide +kernel
theorem ykX11_setCacheLimit : zYok yX11_setCacheLimit 1 := by unfold zYok; decide +kernel
theorem ykX11_setTileSize : zYok yX11_setTileSize 1 := by unfold zYok; decide +kernel
theorem ykX11_clearCache : zYok yX11_clearCache 0 := by unfold zYok; decide +kernel
theorem ykX11_isCached : zYok yX11_isCached 3 := by unfold zYok; decide +kernel
theorem ykX11_cachedTiles : zYok yX11_cachedTiles 1 := by unfold zYok; decide +kernel
theorem ykX11_counter : zYok yX11_counter 1 := by unfold zYok; decide +kernel
theorem ykX11_oldestTile : zYok yX11_oldestTile 0 := by unfold zYok; decide +kernel
theorem ykX11_isOutput : zYok yX11_isOutput 1 := by unfold zYok; decide +kernel
theorem ykX11_histogram : zYok yX11_histogram 3 := by unfold zYok; decide +kernel
theorem ykX11_sum : zYok yX11_sum 1 := by unfold zYok; decide +kernel
theorem ykX11_layBeside : zYok yX11_layBeside 0 := by unfold zYok; decide +kernel
theorem ykX11_effectOf : zYok yX11_effectOf 1 := by unfold zYok; decide +kernel
theorem ykX11_effect : zYok yX11_effect 1 := by unfold zYok; decide +kernel
theorem ykX11_strongestLayer : zYok yX11_strongestLayer 0 := by unfold zYok; decide +kernel
theorem ykX11_differences : zYok yX11_differences 0 := by unfold zYok; decide +kernel
theorem ykX11_exchangeDifference : zYok yX11_exchangeDifference 1 := by unfold zYok; decide +kernel
theorem ykX11_snapshotDifference : zYok yX11_snapshotDifference 1 := by unfold zYok; decide +kernel
theorem ykX11_undo : zYok yX11_undo 0 := by unfold zYok; decide +kernel
theorem ykX11_save : zYok yX11_save 1 := by unfold zYok; decide +kernel
theorem ykX11_restore : zYok yX11_restore 1 := by unfold zYok; decide +kernel
theorem ykJ9_floorDiv_7cf53 : zYok yJ9_floorDiv_7cf53 2 := by unfold zYok; decide +kernel
theorem ykJ9_abs_0f7a4 : zYok yJ9_abs_0f7a4 1 := by unfold zYok; decide +kernel
theorem ykJ9_max_7cf53 : zYok yJ9_max_7cf53 2 := by unfold zYok; decide +kernel
theorem ykJ9_min_7cf53 : zYok yJ9_min_7cf53 2 := by unfold zYok; decide +kernel
theorem ykJ0_length_8abf5 : zYok yJ0_length_8abf5 0 := by unfold zYok; decide +kernel
theorem ykJ0_charAt_5068e : zYok yJ0_charAt_5068e 1 := by unfold zYok; decide +kernel
theorem ykJ0_coder_7d493 : zYok yJ0_coder_7d493 0 := by unfold zYok; decide +kernel
theorem ykJ0_isLatin1_aae02 : zYok yJ0_isLatin1_aae02 0 := by unfold zYok; decide +kernel
theorem ykJ0_checkIndex_df160 : zYok yJ0_checkIndex_df160 2 := by unfold zYok; decide +kernel
theorem ykJ1_charAt_3b067 : zYok yJ1_charAt_3b067 2 := by unfold zYok; decide +kernel
theorem ykJ3_checkIndex_8e157 : zYok yJ3_checkIndex_8e157 3 := by unfold zYok; decide +kernel
theorem ykL_law : zYok yL_law 1 := by unfold zYok; decide +kernel
theorem ziX0 : ∀ w ∈ u_ws RX0 TX0 3, w ∈ lw_tbl := by decide +kernel
theorem zX0 : zCl 0 RX0 TX0 3 tyX0 := ⟨rfl, ziX0, tyX0_ok, nmX0, rfl, by decide⟩
theorem zdefX0 : ∀ j, j < 3 → ∀ t, (ztg 0)[j]? = some t → defaultValue (tyX0 j) = (match t with | 0 => .int 0 | 1 => .null | _ => .long 0) := by decide +kernel
theorem ziX1 : ∀ w ∈ u_ws RX1 TX1 2, w ∈ lw_tbl := by decide +kernel
theorem zX1 : zCl 1 RX1 TX1 2 tyX1 := ⟨rfl, ziX1, tyX1_ok, nmX1, rfl, by decide⟩
theorem zdefX1 : ∀ j, j < 2 → ∀ t, (ztg 1)[j]? = some t → defaultValue (tyX1 j) = (match t with | 0 => .int 0 | 1 => .null | _ => .long 0) := by decide +kernel
theorem ziX3 : ∀ w ∈ u_ws RX3 TX3 7, w ∈ lw_tbl := by decide +kernel
theorem zX3 : zCl 2 RX3 TX3 7 tyX3 := ⟨rfl, ziX3, tyX3_ok, nmX3, rfl, by decide⟩
theorem zdefX3 : ∀ j, j < 7 → ∀ t, (ztg 2)[j]? = some t → defaultValue (tyX3 j) = (match t with | 0 => .int 0 | 1 => .null | _ => .long 0) := by decide +kernel
theorem ziX4 : ∀ w ∈ u_ws RX4 TX4 9, w ∈ lw_tbl := by decide +kernel
theorem zX4 : zCl 3 RX4 TX4 9 tyX4 := ⟨rfl, ziX4, tyX4_ok, nmX4, rfl, by decide⟩
theorem zdefX4 : ∀ j, j < 9 → ∀ t, (ztg 3)[j]? = some t → defaultValue (tyX4 j) = (match t with | 0 => .int 0 | 1 => .null | _ => .long 0) := by decide +kernel
theorem ziX6 : ∀ w ∈ u_ws RX6 TX6 3, w ∈ lw_tbl := by decide +kernel
theorem zX6 : zCl 4 RX6 TX6 3 tyX6 := ⟨rfl, ziX6, tyX6_ok, nmX6, rfl, by decide⟩
theorem zdefX6 : ∀ j, j < 3 → ∀ t, (ztg 4)[j]? = some t → defaultValue (tyX6 j) = (match t with | 0 => .int 0 | 1 => .null | _ => .long 0) := by decide +kernel
theorem ziX7 : ∀ w ∈ u_ws RX7 TX7 5, w ∈ lw_tbl := by decide +kernel
theorem zX7 : zCl 5 RX7 TX7 5 tyX7 := ⟨rfl, ziX7, tyX7_ok, nmX7, rfl, by decide⟩
theorem zdefX7 : ∀ j, j < 5 → ∀ t, (ztg 5)[j]? = some t → defaultValue (tyX7 j) = (match t with | 0 => .int 0 | 1 => .null | _ => .long 0) := by decide +kernel
theorem ziX8 : ∀ w ∈ u_ws RX8 TX8 7, w ∈ lw_tbl := by decide +kernel
theorem zX8 : zCl 6 RX8 TX8 7 tyX8 := ⟨rfl, ziX8, tyX8_ok, nmX8, rfl, by decide⟩
theorem zdefX8 : ∀ j, j < 7 → ∀ t, (ztg 6)[j]? = some t → defaultValue (tyX8 j) = (match t with | 0 => .int 0 | 1 => .null | _ => .long 0) := by decide +kernel
theorem ziX9 : ∀ w ∈ u_ws RX9 TX9 9, w ∈ lw_tbl := by decide +kernel
theorem zX9 : zCl 7 RX9 TX9 9 tyX9 := ⟨rfl, ziX9, tyX9_ok, nmX9, rfl, by decide⟩
theorem zdefX9 : ∀ j, j < 9 → ∀ t, (ztg 7)[j]? = some t → defaultValue (tyX9 j) = (match t with | 0 => .int 0 | 1 => .null | _ => .long 0) := by decide +kernel
theorem ziX10 : ∀ w ∈ u_ws RX10 TX10 9, w ∈ lw_tbl := by decide +kernel
theorem zX10 : zCl 8 RX10 TX10 9 tyX10 := ⟨rfl, ziX10, tyX10_ok, nmX10, rfl, by decide⟩
theorem zdefX10 : ∀ j, j < 9 → ∀ t, (ztg 8)[j]? = some t → defaultValue (tyX10 j) = (match t with | 0 => .int 0 | 1 => .null | _ => .long 0) := by decide +kernel
theorem ziX11 : ∀ w ∈ u_ws RX11 TX11 40, w ∈ lw_tbl := by decide +kernel
theorem zX11 : zCl 9 RX11 TX11 40 tyX11 := ⟨rfl, ziX11, tyX11_ok, nmX11, rfl, by decide⟩
theorem zdefX11 : ∀ j, j < 40 → ∀ t, (ztg 9)[j]? = some t → defaultValue (tyX11 j) = (match t with | 0 => .int 0 | 1 => .null | _ => .long 0) := by decide +kernel
