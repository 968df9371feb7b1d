theorem dX10_prefetch_82 : decode cX10_prefetch 82 = .ok (.ireturn, 1) := by decide +kernel
theorem dX10_setCacheLimit_0 : decode cX10_setCacheLimit 0 = .ok (.iload_n 1, 1) := by decide +kernel
theorem dX10_setCacheLimit_1 : decode cX10_setCacheLimit 1 = .ok (.iconst 1, 1) := by decide +kernel
theorem dX10_setCacheLimit_2 : decode cX10_setCacheLimit 2 = .ok (.bipush 64, 2) := by decide +kernel
theorem dX10_setCacheLimit_4 : decode cX10_setCacheLimit 4 = .ok (.invokestatic 68, 3) := by decide +kernel
theorem dX10_setCacheLimit_7 : decode cX10_setCacheLimit 7 = .ok (.ifCond .ne 7, 3) := by decide +kernel
theorem dX10_setCacheLimit_10 : decode cX10_setCacheLimit 10 = .ok (.sipush (-1001), 3) := by decide +kernel
theorem dX10_setCacheLimit_13 : decode cX10_setCacheLimit 13 = .ok (.ireturn, 1) := by decide +kernel
theorem dX10_setCacheLimit_14 : decode cX10_setCacheLimit 14 = .ok (.aload_n 0, 1) := by decide +kernel
theorem dX10_setCacheLimit_15 : decode cX10_setCacheLimit 15 = .ok (.getfield 40, 3) := by decide +kernel
theorem dX10_setCacheLimit_18 : decode cX10_setCacheLimit 18 = .ok (.iload_n 1, 1) := by decide +kernel
theorem dX10_setCacheLimit_19 : decode cX10_setCacheLimit 19 = .ok (.putfield 107, 3) := by decide +kernel
theorem dX10_setCacheLimit_22 : decode cX10_setCacheLimit 22 = .ok (.aload_n 0, 1) := by decide +kernel
theorem dX10_setCacheLimit_23 : decode cX10_setCacheLimit 23 = .ok (.getfield 40, 3) := by decide +kernel
theorem dX10_setCacheLimit_26 : decode cX10_setCacheLimit 26 = .ok (.invokevirtual 266, 3) := by decide +kernel
theorem dX10_setCacheLimit_29 : decode cX10_setCacheLimit 29 = .ok (.ireturn, 1) := by decide +kernel
theorem dX10_setTileSize_0 : decode cX10_setTileSize 0 = .ok (.iload_n 1, 1) := by decide +kernel
theorem dX10_setTileSize_1 : decode cX10_setTileSize 1 = .ok (.iconst 2, 1) := by decide +kernel
theorem dX10_setTileSize_2 : decode cX10_setTileSize 2 = .ok (.bipush 8, 2) := by decide +kernel
theorem dX10_setTileSize_4 : decode cX10_setTileSize 4 = .ok (.invokestatic 68, 3) := by decide +kernel
theorem dX10_setTileSize_7 : decode cX10_setTileSize 7 = .ok (.ifCond .ne 7, 3) := by decide +kernel
theorem dX10_setTileSize_10 : decode cX10_setTileSize 10 = .ok (.sipush (-1001), 3) := by decide +kernel
theorem dX10_setTileSize_13 : decode cX10_setTileSize 13 = .ok (.ireturn, 1) := by decide +kernel
theorem dX10_setTileSize_14 : decode cX10_setTileSize 14 = .ok (.aload_n 0, 1) := by decide +kernel
theorem dX10_setTileSize_15 : decode cX10_setTileSize 15 = .ok (.getfield 40, 3) := by decide +kernel
theorem dX10_setTileSize_18 : decode cX10_setTileSize 18 = .ok (.iload_n 1, 1) := by decide +kernel
theorem dX10_setTileSize_19 : decode cX10_setTileSize 19 = .ok (.putfield 98, 3) := by decide +kernel
theorem dX10_setTileSize_22 : decode cX10_setTileSize 22 = .ok (.aload_n 0, 1) := by decide +kernel
theorem dX10_setTileSize_23 : decode cX10_setTileSize 23 = .ok (.getfield 40, 3) := by decide +kernel
theorem dX10_setTileSize_26 : decode cX10_setTileSize 26 = .ok (.invokevirtual 76, 3) := by decide +kernel
theorem dX10_setTileSize_29 : decode cX10_setTileSize 29 = .ok (.ireturn, 1) := by decide +kernel
theorem dX10_clearCache_0 : decode cX10_clearCache 0 = .ok (.aload_n 0, 1) := by decide +kernel
theorem dX10_clearCache_1 : decode cX10_clearCache 1 = .ok (.getfield 40, 3) := by decide +kernel
theorem dX10_clearCache_4 : decode cX10_clearCache 4 = .ok (.invokevirtual 76, 3) := by decide +kernel
theorem dX10_clearCache_7 : decode cX10_clearCache 7 = .ok (.ireturn, 1) := by decide +kernel
theorem dX10_cachedTiles_0 : decode cX10_cachedTiles 0 = .ok (.aload_n 0, 1) := by decide +kernel
theorem dX10_cachedTiles_1 : decode cX10_cachedTiles 1 = .ok (.getfield 10, 3) := by decide +kernel
theorem dX10_cachedTiles_4 : decode cX10_cachedTiles 4 = .ok (.iload_n 1, 1) := by decide +kernel
theorem dX10_cachedTiles_5 : decode cX10_cachedTiles 5 = .ok (.invokevirtual 118, 3) := by decide +kernel
theorem dX10_cachedTiles_8 : decode cX10_cachedTiles 8 = .ok (.ifnonnull 7, 3) := by decide +kernel
theorem dX10_cachedTiles_11 : decode cX10_cachedTiles 11 = .ok (.sipush (-1001), 3) := by decide +kernel
theorem dX10_cachedTiles_14 : decode cX10_cachedTiles 14 = .ok (.ireturn, 1) := by decide +kernel
theorem dX10_cachedTiles_15 : decode cX10_cachedTiles 15 = .ok (.aload_n 0, 1) := by decide +kernel
theorem dX10_cachedTiles_16 : decode cX10_cachedTiles 16 = .ok (.getfield 40, 3) := by decide +kernel
theorem dX10_cachedTiles_19 : decode cX10_cachedTiles 19 = .ok (.iload_n 1, 1) := by decide +kernel
theorem dX10_cachedTiles_20 : decode cX10_cachedTiles 20 = .ok (.invokevirtual 275, 3) := by decide +kernel
theorem dX10_cachedTiles_23 : decode cX10_cachedTiles 23 = .ok (.ireturn, 1) := by decide +kernel
theorem dX10_counter_0 : decode cX10_counter 0 = .ok (.iload_n 1, 1) := by decide +kernel
theorem dX10_counter_1 : decode cX10_counter 1 = .ok (.tableswitch 51 0 2 #[27, 35, 43], 27) := by decide +kernel
theorem dX10_counter_28 : decode cX10_counter 28 = .ok (.aload_n 0, 1) := by decide +kernel
theorem dX10_counter_29 : decode cX10_counter 29 = .ok (.getfield 40, 3) := by decide +kernel
theorem dX10_counter_32 : decode cX10_counter 32 = .ok (.getfield 269, 3) := by decide +kernel
theorem dX10_counter_35 : decode cX10_counter 35 = .ok (.ireturn, 1) := by decide +kernel
theorem dX10_counter_36 : decode cX10_counter 36 = .ok (.aload_n 0, 1) := by decide +kernel
theorem dX10_counter_37 : decode cX10_counter 37 = .ok (.getfield 40, 3) := by decide +kernel
theorem dX10_counter_40 : decode cX10_counter 40 = .ok (.getfield 278, 3) := by decide +kernel
theorem dX10_counter_43 : decode cX10_counter 43 = .ok (.ireturn, 1) := by decide +kernel
theorem dX10_counter_44 : decode cX10_counter 44 = .ok (.aload_n 0, 1) := by decide +kernel
theorem dX10_counter_45 : decode cX10_counter 45 = .ok (.getfield 40, 3) := by decide +kernel
theorem dX10_counter_48 : decode cX10_counter 48 = .ok (.getfield 281, 3) := by decide +kernel
theorem dX10_counter_51 : decode cX10_counter 51 = .ok (.ireturn, 1) := by decide +kernel
theorem dX10_counter_52 : decode cX10_counter 52 = .ok (.sipush (-1001), 3) := by decide +kernel
theorem dX10_counter_55 : decode cX10_counter 55 = .ok (.ireturn, 1) := by decide +kernel
theorem dX10_tileColumns_0 : decode cX10_tileColumns 0 = .ok (.aload_n 0, 1) := by decide +kernel
theorem dX10_tileColumns_1 : decode cX10_tileColumns 1 = .ok (.getfield 40, 3) := by decide +kernel
theorem dX10_tileColumns_4 : decode cX10_tileColumns 4 = .ok (.aload_n 0, 1) := by decide +kernel
theorem dX10_tileColumns_5 : decode cX10_tileColumns 5 = .ok (.getfield 10, 3) := by decide +kernel
theorem dX10_tileColumns_8 : decode cX10_tileColumns 8 = .ok (.getfield 61, 3) := by decide +kernel
theorem dX10_tileColumns_11 : decode cX10_tileColumns 11 = .ok (.getfield 88, 3) := by decide +kernel
theorem dX10_tileColumns_14 : decode cX10_tileColumns 14 = .ok (.iconst 1, 1) := by decide +kernel
theorem dX10_tileColumns_15 : decode cX10_tileColumns 15 = .ok (.isub, 1) := by decide +kernel
theorem dX10_tileColumns_16 : decode cX10_tileColumns 16 = .ok (.invokevirtual 253, 3) := by decide +kernel
theorem dX10_tileColumns_19 : decode cX10_tileColumns 19 = .ok (.iconst 1, 1) := by decide +kernel
theorem dX10_tileColumns_20 : decode cX10_tileColumns 20 = .ok (.iadd, 1) := by decide +kernel
theorem dX10_tileColumns_21 : decode cX10_tileColumns 21 = .ok (.ireturn, 1) := by decide +kernel
theorem dX10_tileRows_0 : decode cX10_tileRows 0 = .ok (.aload_n 0, 1) := by decide +kernel
theorem dX10_tileRows_1 : decode cX10_tileRows 1 = .ok (.getfield 40, 3) := by decide +kernel
theorem dX10_tileRows_4 : decode cX10_tileRows 4 = .ok (.aload_n 0, 1) := by decide +kernel
theorem dX10_tileRows_5 : decode cX10_tileRows 5 = .ok (.getfield 10, 3) := by decide +kernel
theorem dX10_tileRows_8 : decode cX10_tileRows 8 = .ok (.getfield 61, 3) := by decide +kernel
theorem dX10_tileRows_11 : decode cX10_tileRows 11 = .ok (.getfield 92, 3) := by decide +kernel
theorem dX10_tileRows_14 : decode cX10_tileRows 14 = .ok (.iconst 1, 1) := by decide +kernel
theorem dX10_tileRows_15 : decode cX10_tileRows 15 = .ok (.isub, 1) := by decide +kernel
theorem dX10_tileRows_16 : decode cX10_tileRows 16 = .ok (.invokevirtual 253, 3) := by decide +kernel
theorem dX10_tileRows_19 : decode cX10_tileRows 19 = .ok (.iconst 1, 1) := by decide +kernel
theorem dX10_tileRows_20 : decode cX10_tileRows 20 = .ok (.iadd, 1) := by decide +kernel
theorem dX10_tileRows_21 : decode cX10_tileRows 21 = .ok (.ireturn, 1) := by decide +kernel
theorem dX10_requestTile_0 : decode cX10_requestTile 0 = .ok (.aload_n 0, 1) := by decide +kernel
theorem dX10_requestTile_1 : decode cX10_requestTile 1 = .ok (.getfield 10, 3) := by decide +kernel
theorem dX10_requestTile_4 : decode cX10_requestTile 4 = .ok (.iload_n 1, 1) := by decide +kernel
theorem dX10_requestTile_5 : decode cX10_requestTile 5 = .ok (.invokevirtual 259, 3) := by decide +kernel
theorem dX10_requestTile_8 : decode cX10_requestTile 8 = .ok (.istore 4, 2) := by decide +kernel
theorem dX10_requestTile_10 : decode cX10_requestTile 10 = .ok (.aload_n 0, 1) := by decide +kernel
theorem dX10_requestTile_11 : decode cX10_requestTile 11 = .ok (.getfield 10, 3) := by decide +kernel
theorem dX10_requestTile_14 : decode cX10_requestTile 14 = .ok (.iload 4, 2) := by decide +kernel
theorem dX10_requestTile_16 : decode cX10_requestTile 16 = .ok (.invokevirtual 118, 3) := by decide +kernel
theorem dX10_requestTile_19 : decode cX10_requestTile 19 = .ok (.astore 5, 2) := by decide +kernel
theorem dX10_requestTile_21 : decode cX10_requestTile 21 = .ok (.aload 5, 2) := by decide +kernel
theorem dX10_requestTile_23 : decode cX10_requestTile 23 = .ok (.ifnonnull 4, 3) := by decide +kernel
theorem dX10_requestTile_26 : decode cX10_requestTile 26 = .ok (.return_, 1) := by decide +kernel
theorem dX10_requestTile_27 : decode cX10_requestTile 27 = .ok (.aload_n 0, 1) := by decide +kernel
theorem dX10_requestTile_28 : decode cX10_requestTile 28 = .ok (.getfield 40, 3) := by decide +kernel
theorem dX10_requestTile_31 : decode cX10_requestTile 31 = .ok (.iload 4, 2) := by decide +kernel
theorem dX10_requestTile_33 : decode cX10_requestTile 33 = .ok (.iload_n 2, 1) := by decide +kernel
theorem dX10_requestTile_34 : decode cX10_requestTile 34 = .ok (.iload_n 3, 1) := by decide +kernel
theorem dX10_requestTile_35 : decode cX10_requestTile 35 = .ok (.invokevirtual 272, 3) := by decide +kernel
theorem dX10_requestTile_38 : decode cX10_requestTile 38 = .ok (.ifCond .eq 15, 3) := by decide +kernel
theorem dX10_requestTile_41 : decode cX10_requestTile 41 = .ok (.aload_n 0, 1) := by decide +kernel
theorem dX10_requestTile_42 : decode cX10_requestTile 42 = .ok (.getfield 40, 3) := by decide +kernel
theorem dX10_requestTile_45 : decode cX10_requestTile 45 = .ok (.iload 4, 2) := by decide +kernel
theorem dX10_requestTile_47 : decode cX10_requestTile 47 = .ok (.iload_n 2, 1) := by decide +kernel
theorem dX10_requestTile_48 : decode cX10_requestTile 48 = .ok (.iload_n 3, 1) := by decide +kernel
theorem dX10_requestTile_49 : decode cX10_requestTile 49 = .ok (.invokevirtual 296, 3) := by decide +kernel
theorem dX10_requestTile_52 : decode cX10_requestTile 52 = .ok (.return_, 1) := by decide +kernel
theorem dX10_requestTile_53 : decode cX10_requestTile 53 = .ok (.aload_n 0, 1) := by decide +kernel
theorem dX10_requestTile_54 : decode cX10_requestTile 54 = .ok (.iload 4, 2) := by decide +kernel
theorem dX10_requestTile_56 : decode cX10_requestTile 56 = .ok (.iconst 1, 1) := by decide +kernel
theorem dX10_requestTile_57 : decode cX10_requestTile 57 = .ok (.isub, 1) := by decide +kernel
theorem dX10_requestTile_58 : decode cX10_requestTile 58 = .ok (.iload_n 2, 1) := by decide +kernel
theorem dX10_requestTile_59 : decode cX10_requestTile 59 = .ok (.iload_n 3, 1) := by decide +kernel
theorem dX10_requestTile_60 : decode cX10_requestTile 60 = .ok (.aload 5, 2) := by decide +kernel
theorem dX10_requestTile_62 : decode cX10_requestTile 62 = .ok (.invokevirtual 128, 3) := by decide +kernel
theorem dX10_requestTile_65 : decode cX10_requestTile 65 = .ok (.invokevirtual 299, 3) := by decide +kernel
theorem dX10_requestTile_68 : decode cX10_requestTile 68 = .ok (.aload_n 0, 1) := by decide +kernel
theorem dX10_requestTile_69 : decode cX10_requestTile 69 = .ok (.getfield 40, 3) := by decide +kernel
theorem dX10_requestTile_72 : decode cX10_requestTile 72 = .ok (.iload 4, 2) := by decide +kernel
theorem dX10_requestTile_74 : decode cX10_requestTile 74 = .ok (.invokevirtual 303, 3) := by decide +kernel
theorem dX10_requestTile_77 : decode cX10_requestTile 77 = .ok (.astore 6, 2) := by decide +kernel
theorem dX10_requestTile_79 : decode cX10_requestTile 79 = .ok (.aload 6, 2) := by decide +kernel
theorem dX10_requestTile_81 : decode cX10_requestTile 81 = .ok (.ifnonnull 4, 3) := by decide +kernel
theorem dX10_requestTile_84 : decode cX10_requestTile 84 = .ok (.return_, 1) := by decide +kernel
theorem dX10_requestTile_85 : decode cX10_requestTile 85 = .ok (.aload_n 0, 1) := by decide +kernel
theorem dX10_requestTile_86 : decode cX10_requestTile 86 = .ok (.getfield 40, 3) := by decide +kernel
theorem dX10_requestTile_89 : decode cX10_requestTile 89 = .ok (.getfield 98, 3) := by decide +kernel
theorem dX10_requestTile_92 : decode cX10_requestTile 92 = .ok (.istore 7, 2) := by decide +kernel
theorem dX10_requestTile_94 : decode cX10_requestTile 94 = .ok (.aload_n 0, 1) := by decide +kernel
theorem dX10_requestTile_95 : decode cX10_requestTile 95 = .ok (.aload_n 0, 1) := by decide +kernel
theorem dX10_requestTile_96 : decode cX10_requestTile 96 = .ok (.getfield 10, 3) := by decide +kernel
theorem dX10_requestTile_99 : decode cX10_requestTile 99 = .ok (.iload 4, 2) := by decide +kernel
theorem dX10_requestTile_101 : decode cX10_requestTile 101 = .ok (.iconst 1, 1) := by decide +kernel
theorem dX10_requestTile_102 : decode cX10_requestTile 102 = .ok (.isub, 1) := by decide +kernel
theorem dX10_requestTile_103 : decode cX10_requestTile 103 = .ok (.invokevirtual 259, 3) := by decide +kernel
theorem dX10_requestTile_106 : decode cX10_requestTile 106 = .ok (.invokevirtual 262, 3) := by decide +kernel
theorem dX10_requestTile_109 : decode cX10_requestTile 109 = .ok (.astore 8, 2) := by decide +kernel
theorem dX10_requestTile_111 : decode cX10_requestTile 111 = .ok (.aload_n 0, 1) := by decide +kernel
theorem dX10_requestTile_112 : decode cX10_requestTile 112 = .ok (.getfield 47, 3) := by decide +kernel
theorem dX10_requestTile_115 : decode cX10_requestTile 115 = .ok (.aload 5, 2) := by decide +kernel
theorem dX10_requestTile_117 : decode cX10_requestTile 117 = .ok (.aload 8, 2) := by decide +kernel
theorem dX10_requestTile_119 : decode cX10_requestTile 119 = .ok (.aload 6, 2) := by decide +kernel
theorem dX10_requestTile_121 : decode cX10_requestTile 121 = .ok (.iload_n 2, 1) := by decide +kernel
theorem dX10_requestTile_122 : decode cX10_requestTile 122 = .ok (.iload 7, 2) := by decide +kernel
theorem dX10_requestTile_124 : decode cX10_requestTile 124 = .ok (.imul, 1) := by decide +kernel
theorem dX10_requestTile_125 : decode cX10_requestTile 125 = .ok (.iload_n 3, 1) := by decide +kernel
theorem dX10_requestTile_126 : decode cX10_requestTile 126 = .ok (.iload 7, 2) := by decide +kernel
theorem dX10_requestTile_128 : decode cX10_requestTile 128 = .ok (.imul, 1) := by decide +kernel
theorem dX10_requestTile_129 : decode cX10_requestTile 129 = .ok (.iload 7, 2) := by decide +kernel
theorem dX10_requestTile_131 : decode cX10_requestTile 131 = .ok (.invokevirtual 306, 3) := by decide +kernel
theorem dX10_requestTile_134 : decode cX10_requestTile 134 = .ok (.aload_n 0, 1) := by decide +kernel
theorem dX10_requestTile_135 : decode cX10_requestTile 135 = .ok (.getfield 40, 3) := by decide +kernel
theorem dX10_requestTile_138 : decode cX10_requestTile 138 = .ok (.iload 4, 2) := by decide +kernel
theorem dX10_requestTile_140 : decode cX10_requestTile 140 = .ok (.iload_n 2, 1) := by decide +kernel
theorem dX10_requestTile_141 : decode cX10_requestTile 141 = .ok (.iload_n 3, 1) := by decide +kernel
theorem dX10_requestTile_142 : decode cX10_requestTile 142 = .ok (.invokevirtual 310, 3) := by decide +kernel
theorem dX10_requestTile_145 : decode cX10_requestTile 145 = .ok (.return_, 1) := by decide +kernel
theorem dX10_requestInput_0 : decode cX10_requestInput 0 = .ok (.iload_n 1, 1) := by decide +kernel
theorem dX10_requestInput_1 : decode cX10_requestInput 1 = .ok (.ifCond .ge 4, 3) := by decide +kernel
theorem dX10_requestInput_4 : decode cX10_requestInput 4 = .ok (.return_, 1) := by decide +kernel
theorem dX10_requestInput_5 : decode cX10_requestInput 5 = .ok (.aload_n 0, 1) := by decide +kernel
theorem dX10_requestInput_6 : decode cX10_requestInput 6 = .ok (.getfield 40, 3) := by decide +kernel
theorem dX10_requestInput_9 : decode cX10_requestInput 9 = .ok (.getfield 98, 3) := by decide +kernel
theorem dX10_requestInput_12 : decode cX10_requestInput 12 = .ok (.istore 5, 2) := by decide +kernel
theorem dX10_requestInput_14 : decode cX10_requestInput 14 = .ok (.aload_n 0, 1) := by decide +kernel
theorem dX10_requestInput_15 : decode cX10_requestInput 15 = .ok (.getfield 40, 3) := by decide +kernel
theorem dX10_requestInput_18 : decode cX10_requestInput 18 = .ok (.iload_n 2, 1) := by decide +kernel
theorem dX10_requestInput_19 : decode cX10_requestInput 19 = .ok (.iload 5, 2) := by decide +kernel
theorem dX10_requestInput_21 : decode cX10_requestInput 21 = .ok (.imul, 1) := by decide +kernel
theorem dX10_requestInput_22 : decode cX10_requestInput 22 = .ok (.iload 4, 2) := by decide +kernel
theorem dX10_requestInput_24 : decode cX10_requestInput 24 = .ok (.isub, 1) := by decide +kernel
theorem dX10_requestInput_25 : decode cX10_requestInput 25 = .ok (.iconst 0, 1) := by decide +kernel
theorem dX10_requestInput_26 : decode cX10_requestInput 26 = .ok (.invokestatic 131, 3) := by decide +kernel
theorem dX10_requestInput_29 : decode cX10_requestInput 29 = .ok (.invokevirtual 253, 3) := by decide +kernel
theorem dX10_requestInput_32 : decode cX10_requestInput 32 = .ok (.istore 6, 2) := by decide +kernel
theorem dX10_requestInput_34 : decode cX10_requestInput 34 = .ok (.aload_n 0, 1) := by decide +kernel
theorem dX10_requestInput_35 : decode cX10_requestInput 35 = .ok (.getfield 40, 3) := by decide +kernel
theorem dX10_requestInput_38 : decode cX10_requestInput 38 = .ok (.iload_n 2, 1) := by decide +kernel
theorem dX10_requestInput_39 : decode cX10_requestInput 39 = .ok (.iconst 1, 1) := by decide +kernel
theorem dX10_requestInput_40 : decode cX10_requestInput 40 = .ok (.iadd, 1) := by decide +kernel
theorem dX10_requestInput_41 : decode cX10_requestInput 41 = .ok (.iload 5, 2) := by decide +kernel
theorem dX10_requestInput_43 : decode cX10_requestInput 43 = .ok (.imul, 1) := by decide +kernel
theorem dX10_requestInput_44 : decode cX10_requestInput 44 = .ok (.iconst 1, 1) := by decide +kernel
theorem dX10_requestInput_45 : decode cX10_requestInput 45 = .ok (.isub, 1) := by decide +kernel
theorem dX10_requestInput_46 : decode cX10_requestInput 46 = .ok (.iload 4, 2) := by decide +kernel
theorem dX10_requestInput_48 : decode cX10_requestInput 48 = .ok (.iadd, 1) := by decide +kernel
theorem dX10_requestInput_49 : decode cX10_requestInput 49 = .ok (.aload_n 0, 1) := by decide +kernel
theorem dX10_requestInput_50 : decode cX10_requestInput 50 = .ok (.getfield 10, 3) := by decide +kernel
theorem dX10_requestInput_53 : decode cX10_requestInput 53 = .ok (.getfield 61, 3) := by decide +kernel
theorem dX10_requestInput_56 : decode cX10_requestInput 56 = .ok (.getfield 88, 3) := by decide +kernel
theorem dX10_requestInput_59 : decode cX10_requestInput 59 = .ok (.iconst 1, 1) := by decide +kernel
theorem dX10_requestInput_60 : decode cX10_requestInput 60 = .ok (.isub, 1) := by decide +kernel
theorem dX10_requestInput_61 : decode cX10_requestInput 61 = .ok (.invokestatic 137, 3) := by decide +kernel
theorem dX10_requestInput_64 : decode cX10_requestInput 64 = .ok (.invokevirtual 253, 3) := by decide +kernel
theorem dX10_requestInput_67 : decode cX10_requestInput 67 = .ok (.istore 7, 2) := by decide +kernel
theorem dX10_requestInput_69 : decode cX10_requestInput 69 = .ok (.aload_n 0, 1) := by decide +kernel
theorem dX10_requestInput_70 : decode cX10_requestInput 70 = .ok (.getfield 40, 3) := by decide +kernel
theorem dX10_requestInput_73 : decode cX10_requestInput 73 = .ok (.iload_n 3, 1) := by decide +kernel
theorem dX10_requestInput_74 : decode cX10_requestInput 74 = .ok (.iload 5, 2) := by decide +kernel
theorem dX10_requestInput_76 : decode cX10_requestInput 76 = .ok (.imul, 1) := by decide +kernel
theorem dX10_requestInput_77 : decode cX10_requestInput 77 = .ok (.iload 4, 2) := by decide +kernel
theorem dX10_requestInput_79 : decode cX10_requestInput 79 = .ok (.isub, 1) := by decide +kernel
theorem dX10_requestInput_80 : decode cX10_requestInput 80 = .ok (.iconst 0, 1) := by decide +kernel
theorem dX10_requestInput_81 : decode cX10_requestInput 81 = .ok (.invokestatic 131, 3) := by decide +kernel
theorem dX10_requestInput_84 : decode cX10_requestInput 84 = .ok (.invokevirtual 253, 3) := by decide +kernel
theorem dX10_requestInput_87 : decode cX10_requestInput 87 = .ok (.istore 8, 2) := by decide +kernel
theorem dX10_requestInput_89 : decode cX10_requestInput 89 = .ok (.aload_n 0, 1) := by decide +kernel
theorem dX10_requestInput_90 : decode cX10_requestInput 90 = .ok (.getfield 40, 3) := by decide +kernel
theorem dX10_requestInput_93 : decode cX10_requestInput 93 = .ok (.iload_n 3, 1) := by decide +kernel
theorem dX10_requestInput_94 : decode cX10_requestInput 94 = .ok (.iconst 1, 1) := by decide +kernel
theorem dX10_requestInput_95 : decode cX10_requestInput 95 = .ok (.iadd, 1) := by decide +kernel
theorem dX10_requestInput_96 : decode cX10_requestInput 96 = .ok (.iload 5, 2) := by decide +kernel
theorem dX10_requestInput_98 : decode cX10_requestInput 98 = .ok (.imul, 1) := by decide +kernel
theorem dX10_requestInput_99 : decode cX10_requestInput 99 = .ok (.iconst 1, 1) := by decide +kernel
theorem dX10_requestInput_100 : decode cX10_requestInput 100 = .ok (.isub, 1) := by decide +kernel
theorem dX10_requestInput_101 : decode cX10_requestInput 101 = .ok (.iload 4, 2) := by decide +kernel
theorem dX10_requestInput_103 : decode cX10_requestInput 103 = .ok (.iadd, 1) := by decide +kernel
theorem dX10_requestInput_104 : decode cX10_requestInput 104 = .ok (.aload_n 0, 1) := by decide +kernel
theorem dX10_requestInput_105 : decode cX10_requestInput 105 = .ok (.getfield 10, 3) := by decide +kernel
theorem dX10_requestInput_108 : decode cX10_requestInput 108 = .ok (.getfield 61, 3) := by decide +kernel
theorem dX10_requestInput_111 : decode cX10_requestInput 111 = .ok (.getfield 92, 3) := by decide +kernel
theorem dX10_requestInput_114 : decode cX10_requestInput 114 = .ok (.iconst 1, 1) := by decide +kernel
theorem dX10_requestInput_115 : decode cX10_requestInput 115 = .ok (.isub, 1) := by decide +kernel
theorem dX10_requestInput_116 : decode cX10_requestInput 116 = .ok (.invokestatic 137, 3) := by decide +kernel
theorem dX10_requestInput_119 : decode cX10_requestInput 119 = .ok (.invokevirtual 253, 3) := by decide +kernel
theorem dX10_requestInput_122 : decode cX10_requestInput 122 = .ok (.istore 9, 2) := by decide +kernel
theorem dX10_requestInput_124 : decode cX10_requestInput 124 = .ok (.iload 8, 2) := by decide +kernel
theorem dX10_requestInput_126 : decode cX10_requestInput 126 = .ok (.istore 10, 2) := by decide +kernel
theorem dX10_requestInput_128 : decode cX10_requestInput 128 = .ok (.iload 10, 2) := by decide +kernel
theorem dX10_requestInput_130 : decode cX10_requestInput 130 = .ok (.iload 9, 2) := by decide +kernel
theorem dX10_requestInput_132 : decode cX10_requestInput 132 = .ok (.if_icmp .gt 35, 3) := by decide +kernel
theorem dX10_requestInput_135 : decode cX10_requestInput 135 = .ok (.iload 6, 2) := by decide +kernel
theorem dX10_requestInput_137 : decode cX10_requestInput 137 = .ok (.istore 11, 2) := by decide +kernel
theorem dX10_requestInput_139 : decode cX10_requestInput 139 = .ok (.iload 11, 2) := by decide +kernel
theorem dX10_requestInput_141 : decode cX10_requestInput 141 = .ok (.iload 7, 2) := by decide +kernel
theorem dX10_requestInput_143 : decode cX10_requestInput 143 = .ok (.if_icmp .gt 18, 3) := by decide +kernel
theorem dX10_requestInput_146 : decode cX10_requestInput 146 = .ok (.aload_n 0, 1) := by decide +kernel
theorem dX10_requestInput_147 : decode cX10_requestInput 147 = .ok (.iload_n 1, 1) := by decide +kernel
theorem dX10_requestInput_148 : decode cX10_requestInput 148 = .ok (.iload 11, 2) := by decide +kernel
theorem dX10_requestInput_150 : decode cX10_requestInput 150 = .ok (.iload 10, 2) := by decide +kernel
theorem dX10_requestInput_152 : decode cX10_requestInput 152 = .ok (.invokevirtual 256, 3) := by decide +kernel
theorem dX10_requestInput_155 : decode cX10_requestInput 155 = .ok (.iinc 11 1, 3) := by decide +kernel
theorem dX10_requestInput_158 : decode cX10_requestInput 158 = .ok (.goto (-19), 3) := by decide +kernel
theorem dX10_requestInput_161 : decode cX10_requestInput 161 = .ok (.iinc 10 1, 3) := by decide +kernel
theorem dX10_requestInput_164 : decode cX10_requestInput 164 = .ok (.goto (-36), 3) := by decide +kernel
theorem dX10_requestInput_167 : decode cX10_requestInput 167 = .ok (.return_, 1) := by decide +kernel
theorem dX10_pictureOf_0 : decode cX10_pictureOf 0 = .ok (.aload_n 0, 1) := by decide +kernel
theorem dX10_pictureOf_1 : decode cX10_pictureOf 1 = .ok (.getfield 40, 3) := by decide +kernel
theorem dX10_pictureOf_4 : decode cX10_pictureOf 4 = .ok (.iload_n 1, 1) := by decide +kernel
theorem dX10_pictureOf_5 : decode cX10_pictureOf 5 = .ok (.invokevirtual 303, 3) := by decide +kernel
theorem dX10_pictureOf_8 : decode cX10_pictureOf 8 = .ok (.astore_n 2, 1) := by decide +kernel
theorem dX10_pictureOf_9 : decode cX10_pictureOf 9 = .ok (.aload_n 2, 1) := by decide +kernel
theorem dX10_pictureOf_10 : decode cX10_pictureOf 10 = .ok (.ifnonnull 13, 3) := by decide +kernel
theorem dX10_pictureOf_13 : decode cX10_pictureOf 13 = .ok (.aload_n 0, 1) := by decide +kernel
theorem dX10_pictureOf_14 : decode cX10_pictureOf 14 = .ok (.getfield 10, 3) := by decide +kernel
theorem dX10_pictureOf_17 : decode cX10_pictureOf 17 = .ok (.getfield 61, 3) := by decide +kernel
theorem dX10_pictureOf_20 : decode cX10_pictureOf 20 = .ok (.goto 4, 3) := by decide +kernel
theorem dX10_pictureOf_23 : decode cX10_pictureOf 23 = .ok (.aload_n 2, 1) := by decide +kernel
theorem dX10_pictureOf_24 : decode cX10_pictureOf 24 = .ok (.areturn, 1) := by decide +kernel
theorem dX10_histogram_0 : decode cX10_histogram 0 = .ok (.aload_n 0, 1) := by decide +kernel
theorem dX10_histogram_1 : decode cX10_histogram 1 = .ok (.iload_n 1, 1) := by decide +kernel
theorem dX10_histogram_2 : decode cX10_histogram 2 = .ok (.invokevirtual 249, 3) := by decide +kernel
theorem dX10_histogram_5 : decode cX10_histogram 5 = .ok (.ifCond .eq 25, 3) := by decide +kernel
theorem dX10_histogram_8 : decode cX10_histogram 8 = .ok (.iload_n 2, 1) := by decide +kernel
theorem dX10_histogram_9 : decode cX10_histogram 9 = .ok (.iconst 0, 1) := by decide +kernel
theorem dX10_histogram_10 : decode cX10_histogram 10 = .ok (.sipush 255, 3) := by decide +kernel
theorem dX10_histogram_13 : decode cX10_histogram 13 = .ok (.invokestatic 68, 3) := by decide +kernel
theorem dX10_histogram_16 : decode cX10_histogram 16 = .ok (.ifCond .eq 14, 3) := by decide +kernel
theorem dX10_histogram_19 : decode cX10_histogram 19 = .ok (.iload_n 3, 1) := by decide +kernel
theorem dX10_histogram_20 : decode cX10_histogram 20 = .ok (.iload_n 2, 1) := by decide +kernel
theorem dX10_histogram_21 : decode cX10_histogram 21 = .ok (.sipush 255, 3) := by decide +kernel
theorem dX10_histogram_24 : decode cX10_histogram 24 = .ok (.invokestatic 68, 3) := by decide +kernel
theorem dX10_histogram_27 : decode cX10_histogram 27 = .ok (.ifCond .ne 7, 3) := by decide +kernel
theorem dX10_histogram_30 : decode cX10_histogram 30 = .ok (.sipush (-1001), 3) := by decide +kernel
theorem dX10_histogram_33 : decode cX10_histogram 33 = .ok (.ireturn, 1) := by decide +kernel
theorem dX10_histogram_34 : decode cX10_histogram 34 = .ok (.aload_n 0, 1) := by decide +kernel
theorem dX10_histogram_35 : decode cX10_histogram 35 = .ok (.getfield 47, 3) := by decide +kernel
theorem dX10_histogram_38 : decode cX10_histogram 38 = .ok (.aload_n 0, 1) := by decide +kernel
theorem dX10_histogram_39 : decode cX10_histogram 39 = .ok (.getfield 10, 3) := by decide +kernel
theorem dX10_histogram_42 : decode cX10_histogram 42 = .ok (.iload_n 1, 1) := by decide +kernel
theorem dX10_histogram_43 : decode cX10_histogram 43 = .ok (.aload_n 0, 1) := by decide +kernel
theorem dX10_histogram_44 : decode cX10_histogram 44 = .ok (.getfield 54, 3) := by decide +kernel
theorem dX10_histogram_47 : decode cX10_histogram 47 = .ok (.invokevirtual 187, 3) := by decide +kernel
theorem dX10_histogram_50 : decode cX10_histogram 50 = .ok (.iconst 0, 1) := by decide +kernel
theorem dX10_histogram_51 : decode cX10_histogram 51 = .ok (.istore 4, 2) := by decide +kernel
theorem dX10_histogram_53 : decode cX10_histogram 53 = .ok (.iconst 0, 1) := by decide +kernel
theorem dX10_histogram_54 : decode cX10_histogram 54 = .ok (.istore 5, 2) := by decide +kernel
theorem dX10_histogram_56 : decode cX10_histogram 56 = .ok (.iload 5, 2) := by decide +kernel
theorem dX10_histogram_58 : decode cX10_histogram 58 = .ok (.aload_n 0, 1) := by decide +kernel
theorem dX10_histogram_59 : decode cX10_histogram 59 = .ok (.getfield 54, 3) := by decide +kernel
theorem dX10_histogram_62 : decode cX10_histogram 62 = .ok (.getfield 92, 3) := by decide +kernel
theorem dX10_histogram_65 : decode cX10_histogram 65 = .ok (.if_icmp .ge 52, 3) := by decide +kernel
theorem dX10_histogram_68 : decode cX10_histogram 68 = .ok (.iconst 0, 1) := by decide +kernel
theorem dX10_histogram_69 : decode cX10_histogram 69 = .ok (.istore 6, 2) := by decide +kernel
theorem dX10_histogram_71 : decode cX10_histogram 71 = .ok (.iload 6, 2) := by decide +kernel
theorem dX10_histogram_73 : decode cX10_histogram 73 = .ok (.aload_n 0, 1) := by decide +kernel
theorem dX10_histogram_74 : decode cX10_histogram 74 = .ok (.getfield 54, 3) := by decide +kernel
theorem dX10_histogram_77 : decode cX10_histogram 77 = .ok (.getfield 88, 3) := by decide +kernel
theorem dX10_histogram_80 : decode cX10_histogram 80 = .ok (.if_icmp .ge 31, 3) := by decide +kernel
theorem dX10_histogram_83 : decode cX10_histogram 83 = .ok (.aload_n 0, 1) := by decide +kernel
theorem dX10_histogram_84 : decode cX10_histogram 84 = .ok (.getfield 54, 3) := by decide +kernel
theorem dX10_histogram_87 : decode cX10_histogram 87 = .ok (.iload 6, 2) := by decide +kernel
theorem dX10_histogram_89 : decode cX10_histogram 89 = .ok (.iload 5, 2) := by decide +kernel
theorem dX10_histogram_91 : decode cX10_histogram 91 = .ok (.invokevirtual 229, 3) := by decide +kernel
theorem dX10_histogram_94 : decode cX10_histogram 94 = .ok (.iload_n 2, 1) := by decide +kernel
theorem dX10_histogram_95 : decode cX10_histogram 95 = .ok (.iload_n 3, 1) := by decide +kernel
theorem dX10_histogram_96 : decode cX10_histogram 96 = .ok (.invokestatic 68, 3) := by decide +kernel
theorem dX10_histogram_99 : decode cX10_histogram 99 = .ok (.ifCond .eq 6, 3) := by decide +kernel
theorem dX10_histogram_102 : decode cX10_histogram 102 = .ok (.iinc 4 1, 3) := by decide +kernel
theorem dX10_histogram_105 : decode cX10_histogram 105 = .ok (.iinc 6 1, 3) := by decide +kernel
theorem dX10_histogram_108 : decode cX10_histogram 108 = .ok (.goto (-37), 3) := by decide +kernel
theorem dX10_histogram_111 : decode cX10_histogram 111 = .ok (.iinc 5 1, 3) := by decide +kernel
theorem dX10_histogram_114 : decode cX10_histogram 114 = .ok (.goto (-58), 3) := by decide +kernel
theorem dX10_histogram_117 : decode cX10_histogram 117 = .ok (.iload 4, 2) := by decide +kernel
theorem dX10_histogram_119 : decode cX10_histogram 119 = .ok (.ireturn, 1) := by decide +kernel
theorem dX10_sum_0 : decode cX10_sum 0 = .ok (.aload_n 0, 1) := by decide +kernel
theorem dX10_sum_1 : decode cX10_sum 1 = .ok (.iload_n 1, 1) := by decide +kernel
theorem dX10_sum_2 : decode cX10_sum 2 = .ok (.invokevirtual 249, 3) := by decide +kernel
theorem dX10_sum_5 : decode cX10_sum 5 = .ok (.ifCond .ne 7, 3) := by decide +kernel
theorem dX10_sum_8 : decode cX10_sum 8 = .ok (.sipush (-1001), 3) := by decide +kernel
theorem dX10_sum_11 : decode cX10_sum 11 = .ok (.ireturn, 1) := by decide +kernel
theorem dX10_sum_12 : decode cX10_sum 12 = .ok (.aload_n 0, 1) := by decide +kernel
theorem dX10_sum_13 : decode cX10_sum 13 = .ok (.getfield 47, 3) := by decide +kernel
theorem dX10_sum_16 : decode cX10_sum 16 = .ok (.aload_n 0, 1) := by decide +kernel
theorem dX10_sum_17 : decode cX10_sum 17 = .ok (.getfield 10, 3) := by decide +kernel
theorem dX10_sum_20 : decode cX10_sum 20 = .ok (.iload_n 1, 1) := by decide +kernel
theorem dX10_sum_21 : decode cX10_sum 21 = .ok (.aload_n 0, 1) := by decide +kernel
theorem dX10_sum_22 : decode cX10_sum 22 = .ok (.getfield 54, 3) := by decide +kernel
theorem dX10_sum_25 : decode cX10_sum 25 = .ok (.invokevirtual 187, 3) := by decide +kernel
theorem dX10_sum_28 : decode cX10_sum 28 = .ok (.iconst 0, 1) := by decide +kernel
theorem dX10_sum_29 : decode cX10_sum 29 = .ok (.istore_n 2, 1) := by decide +kernel
theorem dX10_sum_30 : decode cX10_sum 30 = .ok (.iconst 0, 1) := by decide +kernel
theorem dX10_sum_31 : decode cX10_sum 31 = .ok (.istore_n 3, 1) := by decide +kernel
theorem dX10_sum_32 : decode cX10_sum 32 = .ok (.iload_n 3, 1) := by decide +kernel
theorem dX10_sum_33 : decode cX10_sum 33 = .ok (.aload_n 0, 1) := by decide +kernel
theorem dX10_sum_34 : decode cX10_sum 34 = .ok (.getfield 54, 3) := by decide +kernel
theorem dX10_sum_37 : decode cX10_sum 37 = .ok (.getfield 92, 3) := by decide +kernel
theorem dX10_sum_40 : decode cX10_sum 40 = .ok (.if_icmp .ge 43, 3) := by decide +kernel
theorem dX10_sum_43 : decode cX10_sum 43 = .ok (.iconst 0, 1) := by decide +kernel
theorem dX10_sum_44 : decode cX10_sum 44 = .ok (.istore 4, 2) := by decide +kernel
theorem dX10_sum_46 : decode cX10_sum 46 = .ok (.iload 4, 2) := by decide +kernel
theorem dX10_sum_48 : decode cX10_sum 48 = .ok (.aload_n 0, 1) := by decide +kernel
theorem dX10_sum_49 : decode cX10_sum 49 = .ok (.getfield 54, 3) := by decide +kernel
theorem dX10_sum_52 : decode cX10_sum 52 = .ok (.getfield 88, 3) := by decide +kernel
theorem dX10_sum_55 : decode cX10_sum 55 = .ok (.if_icmp .ge 22, 3) := by decide +kernel
theorem dX10_sum_58 : decode cX10_sum 58 = .ok (.iload_n 2, 1) := by decide +kernel
theorem dX10_sum_59 : decode cX10_sum 59 = .ok (.aload_n 0, 1) := by decide +kernel
theorem dX10_sum_60 : decode cX10_sum 60 = .ok (.getfield 54, 3) := by decide +kernel
theorem dX10_sum_63 : decode cX10_sum 63 = .ok (.iload 4, 2) := by decide +kernel
theorem dX10_sum_65 : decode cX10_sum 65 = .ok (.iload_n 3, 1) := by decide +kernel
theorem dX10_sum_66 : decode cX10_sum 66 = .ok (.invokevirtual 229, 3) := by decide +kernel
theorem dX10_sum_69 : decode cX10_sum 69 = .ok (.iadd, 1) := by decide +kernel
theorem dX10_sum_70 : decode cX10_sum 70 = .ok (.istore_n 2, 1) := by decide +kernel
theorem dX10_sum_71 : decode cX10_sum 71 = .ok (.iinc 4 1, 3) := by decide +kernel
theorem dX10_sum_74 : decode cX10_sum 74 = .ok (.goto (-28), 3) := by decide +kernel
theorem dX10_sum_77 : decode cX10_sum 77 = .ok (.iinc 3 1, 3) := by decide +kernel
theorem dX10_sum_80 : decode cX10_sum 80 = .ok (.goto (-48), 3) := by decide +kernel
theorem dX10_sum_83 : decode cX10_sum 83 = .ok (.iload_n 2, 1) := by decide +kernel
theorem dX10_sum_84 : decode cX10_sum 84 = .ok (.ireturn, 1) := by decide +kernel
theorem dX10_effect_0 : decode cX10_effect 0 = .ok (.aload_n 0, 1) := by decide +kernel
theorem dX10_effect_1 : decode cX10_effect 1 = .ok (.getfield 10, 3) := by decide +kernel
theorem dX10_effect_4 : decode cX10_effect 4 = .ok (.iload_n 1, 1) := by decide +kernel
theorem dX10_effect_5 : decode cX10_effect 5 = .ok (.invokevirtual 118, 3) := by decide +kernel
theorem dX10_effect_8 : decode cX10_effect 8 = .ok (.ifnonnull 7, 3) := by decide +kernel
theorem dX10_effect_11 : decode cX10_effect 11 = .ok (.sipush (-1001), 3) := by decide +kernel
theorem dX10_effect_14 : decode cX10_effect 14 = .ok (.ireturn, 1) := by decide +kernel
theorem dX10_effect_15 : decode cX10_effect 15 = .ok (.aload_n 0, 1) := by decide +kernel
theorem dX10_effect_16 : decode cX10_effect 16 = .ok (.getfield 47, 3) := by decide +kernel
theorem dX10_effect_19 : decode cX10_effect 19 = .ok (.aload_n 0, 1) := by decide +kernel
theorem dX10_effect_20 : decode cX10_effect 20 = .ok (.getfield 10, 3) := by decide +kernel
theorem dX10_effect_23 : decode cX10_effect 23 = .ok (.aload_n 0, 1) := by decide +kernel
theorem dX10_effect_24 : decode cX10_effect 24 = .ok (.getfield 10, 3) := by decide +kernel
theorem dX10_effect_27 : decode cX10_effect 27 = .ok (.invokevirtual 95, 3) := by decide +kernel
theorem dX10_effect_30 : decode cX10_effect 30 = .ok (.iconst 1, 1) := by decide +kernel
theorem dX10_effect_31 : decode cX10_effect 31 = .ok (.isub, 1) := by decide +kernel
theorem dX10_effect_32 : decode cX10_effect 32 = .ok (.aload_n 0, 1) := by decide +kernel
theorem dX10_effect_33 : decode cX10_effect 33 = .ok (.getfield 54, 3) := by decide +kernel
theorem dX10_effect_36 : decode cX10_effect 36 = .ok (.invokevirtual 187, 3) := by decide +kernel
theorem dX10_effect_39 : decode cX10_effect 39 = .ok (.aload_n 0, 1) := by decide +kernel
theorem dX10_effect_40 : decode cX10_effect 40 = .ok (.iload_n 1, 1) := by decide +kernel
theorem dX10_effect_41 : decode cX10_effect 41 = .ok (.invokevirtual 313, 3) := by decide +kernel
theorem dX10_effect_44 : decode cX10_effect 44 = .ok (.ireturn, 1) := by decide +kernel
theorem dX10_strongestLayer_0 : decode cX10_strongestLayer 0 = .ok (.aload_n 0, 1) := by decide +kernel
theorem dX10_strongestLayer_1 : decode cX10_strongestLayer 1 = .ok (.getfield 47, 3) := by decide +kernel
theorem dX10_strongestLayer_4 : decode cX10_strongestLayer 4 = .ok (.aload_n 0, 1) := by decide +kernel
theorem dX10_strongestLayer_5 : decode cX10_strongestLayer 5 = .ok (.getfield 10, 3) := by decide +kernel
theorem dX10_strongestLayer_8 : decode cX10_strongestLayer 8 = .ok (.aload_n 0, 1) := by decide +kernel
theorem dX10_strongestLayer_9 : decode cX10_strongestLayer 9 = .ok (.getfield 10, 3) := by decide +kernel
theorem dX10_strongestLayer_12 : decode cX10_strongestLayer 12 = .ok (.invokevirtual 95, 3) := by decide +kernel
theorem dX10_strongestLayer_15 : decode cX10_strongestLayer 15 = .ok (.iconst 1, 1) := by decide +kernel
theorem dX10_strongestLayer_16 : decode cX10_strongestLayer 16 = .ok (.isub, 1) := by decide +kernel
theorem dX10_strongestLayer_17 : decode cX10_strongestLayer 17 = .ok (.aload_n 0, 1) := by decide +kernel
theorem dX10_strongestLayer_18 : decode cX10_strongestLayer 18 = .ok (.getfield 54, 3) := by decide +kernel
theorem dX10_strongestLayer_21 : decode cX10_strongestLayer 21 = .ok (.invokevirtual 187, 3) := by decide +kernel
theorem dX10_strongestLayer_24 : decode cX10_strongestLayer 24 = .ok (.sipush (-1009), 3) := by decide +kernel
theorem dX10_strongestLayer_27 : decode cX10_strongestLayer 27 = .ok (.istore_n 1, 1) := by decide +kernel
theorem dX10_strongestLayer_28 : decode cX10_strongestLayer 28 = .ok (.iconst (-1), 1) := by decide +kernel
theorem dX10_strongestLayer_29 : decode cX10_strongestLayer 29 = .ok (.istore_n 2, 1) := by decide +kernel
theorem dX10_strongestLayer_30 : decode cX10_strongestLayer 30 = .ok (.iconst 0, 1) := by decide +kernel
theorem dX10_strongestLayer_31 : decode cX10_strongestLayer 31 = .ok (.istore_n 3, 1) := by decide +kernel
theorem dX10_strongestLayer_32 : decode cX10_strongestLayer 32 = .ok (.iload_n 3, 1) := by decide +kernel
theorem dX10_strongestLayer_33 : decode cX10_strongestLayer 33 = .ok (.aload_n 0, 1) := by decide +kernel
theorem dX10_strongestLayer_34 : decode cX10_strongestLayer 34 = .ok (.getfield 10, 3) := by decide +kernel
theorem dX10_strongestLayer_37 : decode cX10_strongestLayer 37 = .ok (.invokevirtual 95, 3) := by decide +kernel
theorem dX10_strongestLayer_40 : decode cX10_strongestLayer 40 = .ok (.if_icmp .ge 27, 3) := by decide +kernel
theorem dX10_strongestLayer_43 : decode cX10_strongestLayer 43 = .ok (.aload_n 0, 1) := by decide +kernel
theorem dX10_strongestLayer_44 : decode cX10_strongestLayer 44 = .ok (.iload_n 3, 1) := by decide +kernel
theorem dX10_strongestLayer_45 : decode cX10_strongestLayer 45 = .ok (.invokevirtual 313, 3) := by decide +kernel
theorem dX10_strongestLayer_48 : decode cX10_strongestLayer 48 = .ok (.istore 4, 2) := by decide +kernel
theorem dX10_strongestLayer_50 : decode cX10_strongestLayer 50 = .ok (.iload 4, 2) := by decide +kernel
theorem dX10_strongestLayer_52 : decode cX10_strongestLayer 52 = .ok (.iload_n 2, 1) := by decide +kernel
theorem dX10_strongestLayer_53 : decode cX10_strongestLayer 53 = .ok (.if_icmp .le 8, 3) := by decide +kernel
theorem dX10_strongestLayer_56 : decode cX10_strongestLayer 56 = .ok (.iload 4, 2) := by decide +kernel
theorem dX10_strongestLayer_58 : decode cX10_strongestLayer 58 = .ok (.istore_n 2, 1) := by decide +kernel
theorem dX10_strongestLayer_59 : decode cX10_strongestLayer 59 = .ok (.iload_n 3, 1) := by decide +kernel
theorem dX10_strongestLayer_60 : decode cX10_strongestLayer 60 = .ok (.istore_n 1, 1) := by decide +kernel
theorem dX10_strongestLayer_61 : decode cX10_strongestLayer 61 = .ok (.iinc 3 1, 3) := by decide +kernel
theorem dX10_strongestLayer_64 : decode cX10_strongestLayer 64 = .ok (.goto (-32), 3) := by decide +kernel
theorem dX10_strongestLayer_67 : decode cX10_strongestLayer 67 = .ok (.iload_n 1, 1) := by decide +kernel
theorem dX10_strongestLayer_68 : decode cX10_strongestLayer 68 = .ok (.ireturn, 1) := by decide +kernel
theorem dX10_exchangeDifference_0 : decode cX10_exchangeDifference 0 = .ok (.iload_n 1, 1) := by decide +kernel
theorem dX10_exchangeDifference_1 : decode cX10_exchangeDifference 1 = .ok (.iconst 0, 1) := by decide +kernel
theorem dX10_exchangeDifference_2 : decode cX10_exchangeDifference 2 = .ok (.aload_n 0, 1) := by decide +kernel
theorem dX10_exchangeDifference_3 : decode cX10_exchangeDifference 3 = .ok (.getfield 10, 3) := by decide +kernel
theorem dX10_exchangeDifference_6 : decode cX10_exchangeDifference 6 = .ok (.invokevirtual 95, 3) := by decide +kernel
theorem dX10_exchangeDifference_9 : decode cX10_exchangeDifference 9 = .ok (.iconst 2, 1) := by decide +kernel
theorem dX10_exchangeDifference_10 : decode cX10_exchangeDifference 10 = .ok (.isub, 1) := by decide +kernel
theorem dX10_exchangeDifference_11 : decode cX10_exchangeDifference 11 = .ok (.invokestatic 68, 3) := by decide +kernel
theorem dX10_exchangeDifference_14 : decode cX10_exchangeDifference 14 = .ok (.ifCond .ne 7, 3) := by decide +kernel
theorem dX10_exchangeDifference_17 : decode cX10_exchangeDifference 17 = .ok (.sipush (-1001), 3) := by decide +kernel
theorem dX10_exchangeDifference_20 : decode cX10_exchangeDifference 20 = .ok (.ireturn, 1) := by decide +kernel
theorem dX10_exchangeDifference_21 : decode cX10_exchangeDifference 21 = .ok (.aload_n 0, 1) := by decide +kernel
theorem dX10_exchangeDifference_22 : decode cX10_exchangeDifference 22 = .ok (.getfield 16, 3) := by decide +kernel
theorem dX10_exchangeDifference_25 : decode cX10_exchangeDifference 25 = .ok (.aload_n 0, 1) := by decide +kernel
theorem dX10_exchangeDifference_26 : decode cX10_exchangeDifference 26 = .ok (.getfield 10, 3) := by decide +kernel
theorem dX10_exchangeDifference_29 : decode cX10_exchangeDifference 29 = .ok (.invokevirtual 316, 3) := by decide +kernel
theorem dX10_exchangeDifference_32 : decode cX10_exchangeDifference 32 = .ok (.aload_n 0, 1) := by decide +kernel
theorem dX10_exchangeDifference_33 : decode cX10_exchangeDifference 33 = .ok (.getfield 16, 3) := by decide +kernel
theorem dX10_exchangeDifference_36 : decode cX10_exchangeDifference 36 = .ok (.iload_n 1, 1) := by decide +kernel
theorem dX10_exchangeDifference_37 : decode cX10_exchangeDifference 37 = .ok (.iload_n 1, 1) := by decide +kernel
theorem dX10_exchangeDifference_38 : decode cX10_exchangeDifference 38 = .ok (.iconst 1, 1) := by decide +kernel
theorem dX10_exchangeDifference_39 : decode cX10_exchangeDifference 39 = .ok (.iadd, 1) := by decide +kernel
theorem dX10_exchangeDifference_40 : decode cX10_exchangeDifference 40 = .ok (.invokevirtual 178, 3) := by decide +kernel
theorem dX10_exchangeDifference_43 : decode cX10_exchangeDifference 43 = .ok (.aload_n 0, 1) := by decide +kernel
theorem dX10_exchangeDifference_44 : decode cX10_exchangeDifference 44 = .ok (.aload_n 0, 1) := by decide +kernel
theorem dX10_exchangeDifference_45 : decode cX10_exchangeDifference 45 = .ok (.getfield 16, 3) := by decide +kernel
theorem dX10_exchangeDifference_48 : decode cX10_exchangeDifference 48 = .ok (.invokevirtual 318, 3) := by decide +kernel
theorem dX10_exchangeDifference_51 : decode cX10_exchangeDifference 51 = .ok (.ireturn, 1) := by decide +kernel
theorem dX10_snapshotDifference_0 : decode cX10_snapshotDifference 0 = .ok (.iload_n 1, 1) := by decide +kernel
theorem dX10_snapshotDifference_1 : decode cX10_snapshotDifference 1 = .ok (.ifCond .lt 12, 3) := by decide +kernel
theorem dX10_snapshotDifference_4 : decode cX10_snapshotDifference 4 = .ok (.iload_n 1, 1) := by decide +kernel
theorem dX10_snapshotDifference_5 : decode cX10_snapshotDifference 5 = .ok (.aload_n 0, 1) := by decide +kernel
theorem dX10_snapshotDifference_6 : decode cX10_snapshotDifference 6 = .ok (.getfield 26, 3) := by decide +kernel
theorem dX10_snapshotDifference_9 : decode cX10_snapshotDifference 9 = .ok (.arraylength, 1) := by decide +kernel
theorem dX10_snapshotDifference_10 : decode cX10_snapshotDifference 10 = .ok (.if_icmp .lt 7, 3) := by decide +kernel
theorem dX10_snapshotDifference_13 : decode cX10_snapshotDifference 13 = .ok (.sipush (-1001), 3) := by decide +kernel
theorem dX10_snapshotDifference_16 : decode cX10_snapshotDifference 16 = .ok (.ireturn, 1) := by decide +kernel
theorem dX10_snapshotDifference_17 : decode cX10_snapshotDifference 17 = .ok (.aload_n 0, 1) := by decide +kernel
theorem dX10_snapshotDifference_18 : decode cX10_snapshotDifference 18 = .ok (.getfield 26, 3) := by decide +kernel
theorem dX10_snapshotDifference_21 : decode cX10_snapshotDifference 21 = .ok (.iload_n 1, 1) := by decide +kernel
theorem dX10_snapshotDifference_22 : decode cX10_snapshotDifference 22 = .ok (.aaload, 1) := by decide +kernel
theorem dX10_snapshotDifference_23 : decode cX10_snapshotDifference 23 = .ok (.astore_n 2, 1) := by decide +kernel
theorem dX10_snapshotDifference_24 : decode cX10_snapshotDifference 24 = .ok (.aload_n 2, 1) := by decide +kernel
theorem dX10_snapshotDifference_25 : decode cX10_snapshotDifference 25 = .ok (.ifnull 20, 3) := by decide +kernel
theorem dX10_snapshotDifference_28 : decode cX10_snapshotDifference 28 = .ok (.aload_n 2, 1) := by decide +kernel
theorem dX10_snapshotDifference_29 : decode cX10_snapshotDifference 29 = .ok (.getfield 61, 3) := by decide +kernel
theorem dX10_snapshotDifference_32 : decode cX10_snapshotDifference 32 = .ok (.aload_n 0, 1) := by decide +kernel
theorem dX10_snapshotDifference_33 : decode cX10_snapshotDifference 33 = .ok (.getfield 10, 3) := by decide +kernel
theorem dX10_snapshotDifference_36 : decode cX10_snapshotDifference 36 = .ok (.getfield 61, 3) := by decide +kernel
theorem dX10_snapshotDifference_39 : decode cX10_snapshotDifference 39 = .ok (.invokevirtual 321, 3) := by decide +kernel
theorem dX10_snapshotDifference_42 : decode cX10_snapshotDifference 42 = .ok (.ifCond .ne 7, 3) := by decide +kernel
theorem dX10_snapshotDifference_45 : decode cX10_snapshotDifference 45 = .ok (.sipush (-1002), 3) := by decide +kernel
theorem dX10_snapshotDifference_48 : decode cX10_snapshotDifference 48 = .ok (.ireturn, 1) := by decide +kernel
theorem dX10_snapshotDifference_49 : decode cX10_snapshotDifference 49 = .ok (.aload_n 0, 1) := by decide +kernel
theorem dX10_snapshotDifference_50 : decode cX10_snapshotDifference 50 = .ok (.aload_n 2, 1) := by decide +kernel
theorem dX10_snapshotDifference_51 : decode cX10_snapshotDifference 51 = .ok (.invokevirtual 318, 3) := by decide +kernel
theorem dX10_snapshotDifference_54 : decode cX10_snapshotDifference 54 = .ok (.ireturn, 1) := by decide +kernel
theorem dX10_hasOutput_0 : decode cX10_hasOutput 0 = .ok (.iload_n 1, 1) := by decide +kernel
theorem dX10_hasOutput_1 : decode cX10_hasOutput 1 = .ok (.iconst (-1), 1) := by decide +kernel
theorem dX10_hasOutput_2 : decode cX10_hasOutput 2 = .ok (.if_icmp .lt 18, 3) := by decide +kernel
theorem dX10_hasOutput_5 : decode cX10_hasOutput 5 = .ok (.iload_n 1, 1) := by decide +kernel
theorem dX10_hasOutput_6 : decode cX10_hasOutput 6 = .ok (.aload_n 0, 1) := by decide +kernel
theorem dX10_hasOutput_7 : decode cX10_hasOutput 7 = .ok (.getfield 10, 3) := by decide +kernel
theorem dX10_hasOutput_10 : decode cX10_hasOutput 10 = .ok (.invokevirtual 95, 3) := by decide +kernel
theorem dX10_hasOutput_13 : decode cX10_hasOutput 13 = .ok (.if_icmp .ge 7, 3) := by decide +kernel
theorem dX10_hasOutput_16 : decode cX10_hasOutput 16 = .ok (.iconst 1, 1) := by decide +kernel
theorem dX10_hasOutput_17 : decode cX10_hasOutput 17 = .ok (.goto 4, 3) := by decide +kernel
theorem dX10_hasOutput_20 : decode cX10_hasOutput 20 = .ok (.iconst 0, 1) := by decide +kernel
theorem dX10_hasOutput_21 : decode cX10_hasOutput 21 = .ok (.ireturn, 1) := by decide +kernel
theorem dX10_changeWithout_0 : decode cX10_changeWithout 0 = .ok (.aload_n 0, 1) := by decide +kernel
theorem dX10_changeWithout_1 : decode cX10_changeWithout 1 = .ok (.getfield 16, 3) := by decide +kernel
theorem dX10_changeWithout_4 : decode cX10_changeWithout 4 = .ok (.aload_n 0, 1) := by decide +kernel
theorem dX10_changeWithout_5 : decode cX10_changeWithout 5 = .ok (.getfield 10, 3) := by decide +kernel
theorem dX10_changeWithout_8 : decode cX10_changeWithout 8 = .ok (.invokevirtual 316, 3) := by decide +kernel
theorem dX10_changeWithout_11 : decode cX10_changeWithout 11 = .ok (.aload_n 0, 1) := by decide +kernel
theorem dX10_changeWithout_12 : decode cX10_changeWithout 12 = .ok (.getfield 16, 3) := by decide +kernel
theorem dX10_changeWithout_15 : decode cX10_changeWithout 15 = .ok (.iload_n 1, 1) := by decide +kernel
theorem dX10_changeWithout_16 : decode cX10_changeWithout 16 = .ok (.invokevirtual 118, 3) := by decide +kernel
theorem dX10_changeWithout_19 : decode cX10_changeWithout 19 = .ok (.astore_n 2, 1) := by decide +kernel
theorem dX10_changeWithout_20 : decode cX10_changeWithout 20 = .ok (.aload_n 2, 1) := by decide +kernel
theorem dX10_changeWithout_21 : decode cX10_changeWithout 21 = .ok (.ifnonnull 5, 3) := by decide +kernel
theorem dX10_changeWithout_24 : decode cX10_changeWithout 24 = .ok (.iconst 0, 1) := by decide +kernel
theorem dX10_changeWithout_25 : decode cX10_changeWithout 25 = .ok (.ireturn, 1) := by decide +kernel
theorem dX10_changeWithout_26 : decode cX10_changeWithout 26 = .ok (.aload_n 2, 1) := by decide +kernel
theorem dX10_changeWithout_27 : decode cX10_changeWithout 27 = .ok (.iconst 0, 1) := by decide +kernel
theorem dX10_changeWithout_28 : decode cX10_changeWithout 28 = .ok (.putfield 122, 3) := by decide +kernel
theorem dX10_changeWithout_31 : decode cX10_changeWithout 31 = .ok (.aload_n 0, 1) := by decide +kernel
theorem dX10_changeWithout_32 : decode cX10_changeWithout 32 = .ok (.getfield 47, 3) := by decide +kernel
theorem dX10_changeWithout_35 : decode cX10_changeWithout 35 = .ok (.aload_n 0, 1) := by decide +kernel
theorem dX10_changeWithout_36 : decode cX10_changeWithout 36 = .ok (.getfield 16, 3) := by decide +kernel
theorem dX10_changeWithout_39 : decode cX10_changeWithout 39 = .ok (.aload_n 0, 1) := by decide +kernel
theorem dX10_changeWithout_40 : decode cX10_changeWithout 40 = .ok (.getfield 16, 3) := by decide +kernel
theorem dX10_changeWithout_43 : decode cX10_changeWithout 43 = .ok (.invokevirtual 95, 3) := by decide +kernel
theorem dX10_changeWithout_46 : decode cX10_changeWithout 46 = .ok (.iconst 1, 1) := by decide +kernel
theorem dX10_changeWithout_47 : decode cX10_changeWithout 47 = .ok (.isub, 1) := by decide +kernel
theorem dX10_changeWithout_48 : decode cX10_changeWithout 48 = .ok (.aload_n 0, 1) := by decide +kernel
theorem dX10_changeWithout_49 : decode cX10_changeWithout 49 = .ok (.getfield 58, 3) := by decide +kernel
theorem dX10_changeWithout_52 : decode cX10_changeWithout 52 = .ok (.invokevirtual 187, 3) := by decide +kernel
theorem dX10_changeWithout_55 : decode cX10_changeWithout 55 = .ok (.aload_n 0, 1) := by decide +kernel
theorem dX10_changeWithout_56 : decode cX10_changeWithout 56 = .ok (.getfield 54, 3) := by decide +kernel
theorem dX10_changeWithout_59 : decode cX10_changeWithout 59 = .ok (.aload_n 0, 1) := by decide +kernel
theorem dX10_changeWithout_60 : decode cX10_changeWithout 60 = .ok (.getfield 58, 3) := by decide +kernel
theorem dX10_changeWithout_63 : decode cX10_changeWithout 63 = .ok (.invokevirtual 325, 3) := by decide +kernel
theorem dX10_changeWithout_66 : decode cX10_changeWithout 66 = .ok (.ireturn, 1) := by decide +kernel
theorem dX10_pixelsThatDiffer_0 : decode cX10_pixelsThatDiffer 0 = .ok (.aload_n 0, 1) := by decide +kernel
theorem dX10_pixelsThatDiffer_1 : decode cX10_pixelsThatDiffer 1 = .ok (.getfield 47, 3) := by decide +kernel
theorem dX10_pixelsThatDiffer_4 : decode cX10_pixelsThatDiffer 4 = .ok (.aload_n 0, 1) := by decide +kernel
theorem dX10_pixelsThatDiffer_5 : decode cX10_pixelsThatDiffer 5 = .ok (.getfield 10, 3) := by decide +kernel
theorem dX10_pixelsThatDiffer_8 : decode cX10_pixelsThatDiffer 8 = .ok (.aload_n 0, 1) := by decide +kernel
theorem dX10_pixelsThatDiffer_9 : decode cX10_pixelsThatDiffer 9 = .ok (.getfield 10, 3) := by decide +kernel
theorem dX10_pixelsThatDiffer_12 : decode cX10_pixelsThatDiffer 12 = .ok (.invokevirtual 95, 3) := by decide +kernel
theorem dX10_pixelsThatDiffer_15 : decode cX10_pixelsThatDiffer 15 = .ok (.iconst 1, 1) := by decide +kernel
theorem dX10_pixelsThatDiffer_16 : decode cX10_pixelsThatDiffer 16 = .ok (.isub, 1) := by decide +kernel
theorem dX10_pixelsThatDiffer_17 : decode cX10_pixelsThatDiffer 17 = .ok (.aload_n 0, 1) := by decide +kernel
theorem dX10_pixelsThatDiffer_18 : decode cX10_pixelsThatDiffer 18 = .ok (.getfield 54, 3) := by decide +kernel
theorem dX10_pixelsThatDiffer_21 : decode cX10_pixelsThatDiffer 21 = .ok (.invokevirtual 187, 3) := by decide +kernel
theorem dX10_pixelsThatDiffer_24 : decode cX10_pixelsThatDiffer 24 = .ok (.aload_n 0, 1) := by decide +kernel
theorem dX10_pixelsThatDiffer_25 : decode cX10_pixelsThatDiffer 25 = .ok (.getfield 47, 3) := by decide +kernel
theorem dX10_pixelsThatDiffer_28 : decode cX10_pixelsThatDiffer 28 = .ok (.aload_n 1, 1) := by decide +kernel
theorem dX10_pixelsThatDiffer_29 : decode cX10_pixelsThatDiffer 29 = .ok (.aload_n 1, 1) := by decide +kernel
theorem dX10_pixelsThatDiffer_30 : decode cX10_pixelsThatDiffer 30 = .ok (.invokevirtual 95, 3) := by decide +kernel
theorem dX10_pixelsThatDiffer_33 : decode cX10_pixelsThatDiffer 33 = .ok (.iconst 1, 1) := by decide +kernel
theorem dX10_pixelsThatDiffer_34 : decode cX10_pixelsThatDiffer 34 = .ok (.isub, 1) := by decide +kernel
theorem dX10_pixelsThatDiffer_35 : decode cX10_pixelsThatDiffer 35 = .ok (.aload_n 0, 1) := by decide +kernel
theorem dX10_pixelsThatDiffer_36 : decode cX10_pixelsThatDiffer 36 = .ok (.getfield 58, 3) := by decide +kernel
theorem dX10_pixelsThatDiffer_39 : decode cX10_pixelsThatDiffer 39 = .ok (.invokevirtual 187, 3) := by decide +kernel
theorem dX10_pixelsThatDiffer_42 : decode cX10_pixelsThatDiffer 42 = .ok (.aload_n 0, 1) := by decide +kernel
theorem dX10_pixelsThatDiffer_43 : decode cX10_pixelsThatDiffer 43 = .ok (.getfield 54, 3) := by decide +kernel
theorem dX10_pixelsThatDiffer_46 : decode cX10_pixelsThatDiffer 46 = .ok (.aload_n 0, 1) := by decide +kernel
theorem dX10_pixelsThatDiffer_47 : decode cX10_pixelsThatDiffer 47 = .ok (.getfield 58, 3) := by decide +kernel
theorem dX10_pixelsThatDiffer_50 : decode cX10_pixelsThatDiffer 50 = .ok (.invokevirtual 329, 3) := by decide +kernel
theorem dX10_pixelsThatDiffer_53 : decode cX10_pixelsThatDiffer 53 = .ok (.ireturn, 1) := by decide +kernel
theorem dX10_undo_0 : decode cX10_undo 0 = .ok (.aload_n 0, 1) := by decide +kernel
theorem dX10_undo_1 : decode cX10_undo 1 = .ok (.getfield 22, 3) := by decide +kernel
theorem dX10_undo_4 : decode cX10_undo 4 = .ok (.getfield 332, 3) := by decide +kernel
theorem dX10_undo_7 : decode cX10_undo 7 = .ok (.ifCond .ne 7, 3) := by decide +kernel
theorem dX10_undo_10 : decode cX10_undo 10 = .ok (.sipush (-1002), 3) := by decide +kernel
theorem dX10_undo_13 : decode cX10_undo 13 = .ok (.ireturn, 1) := by decide +kernel
theorem dX10_undo_14 : decode cX10_undo 14 = .ok (.aload_n 0, 1) := by decide +kernel
theorem dX10_undo_15 : decode cX10_undo 15 = .ok (.getfield 22, 3) := by decide +kernel
theorem dX10_undo_18 : decode cX10_undo 18 = .ok (.aload_n 0, 1) := by decide +kernel
theorem dX10_undo_19 : decode cX10_undo 19 = .ok (.getfield 10, 3) := by decide +kernel
theorem dX10_undo_22 : decode cX10_undo 22 = .ok (.invokevirtual 335, 3) := by decide +kernel
theorem dX10_undo_25 : decode cX10_undo 25 = .ok (.aload_n 0, 1) := by decide +kernel
theorem dX10_undo_26 : decode cX10_undo 26 = .ok (.getfield 40, 3) := by decide +kernel
theorem dX10_undo_29 : decode cX10_undo 29 = .ok (.invokevirtual 76, 3) := by decide +kernel
theorem dX10_undo_32 : decode cX10_undo 32 = .ok (.pop, 1) := by decide +kernel
theorem dX10_undo_33 : decode cX10_undo 33 = .ok (.aload_n 0, 1) := by decide +kernel
theorem dX10_undo_34 : decode cX10_undo 34 = .ok (.getfield 22, 3) := by decide +kernel
theorem dX10_undo_37 : decode cX10_undo 37 = .ok (.getfield 332, 3) := by decide +kernel
theorem dX10_undo_40 : decode cX10_undo 40 = .ok (.ireturn, 1) := by decide +kernel
theorem dX10_save_0 : decode cX10_save 0 = .ok (.iload_n 1, 1) := by decide +kernel
theorem dX10_save_1 : decode cX10_save 1 = .ok (.ifCond .lt 12, 3) := by decide +kernel
theorem dX10_save_4 : decode cX10_save 4 = .ok (.iload_n 1, 1) := by decide +kernel
theorem dX10_save_5 : decode cX10_save 5 = .ok (.aload_n 0, 1) := by decide +kernel
theorem dX10_save_6 : decode cX10_save 6 = .ok (.getfield 26, 3) := by decide +kernel
theorem dX10_save_9 : decode cX10_save 9 = .ok (.arraylength, 1) := by decide +kernel
theorem dX10_save_10 : decode cX10_save 10 = .ok (.if_icmp .lt 7, 3) := by decide +kernel
theorem dX10_save_13 : decode cX10_save 13 = .ok (.sipush (-1001), 3) := by decide +kernel
theorem dX10_save_16 : decode cX10_save 16 = .ok (.ireturn, 1) := by decide +kernel
theorem dX10_save_17 : decode cX10_save 17 = .ok (.aload_n 0, 1) := by decide +kernel
theorem dX10_save_18 : decode cX10_save 18 = .ok (.getfield 26, 3) := by decide +kernel
theorem dX10_save_21 : decode cX10_save 21 = .ok (.iload_n 1, 1) := by decide +kernel
theorem dX10_save_22 : decode cX10_save 22 = .ok (.aaload, 1) := by decide +kernel
theorem dX10_save_23 : decode cX10_save 23 = .ok (.astore_n 2, 1) := by decide +kernel
theorem dX10_save_24 : decode cX10_save 24 = .ok (.aload_n 2, 1) := by decide +kernel
theorem dX10_save_25 : decode cX10_save 25 = .ok (.ifnonnull 18, 3) := by decide +kernel
theorem dX10_save_28 : decode cX10_save 28 = .ok (.new 7, 3) := by decide +kernel
theorem dX10_save_31 : decode cX10_save 31 = .ok (.dup, 1) := by decide +kernel
theorem dX10_save_32 : decode cX10_save 32 = .ok (.invokespecial 9, 3) := by decide +kernel
theorem dX10_save_35 : decode cX10_save 35 = .ok (.astore_n 2, 1) := by decide +kernel
theorem dX10_save_36 : decode cX10_save 36 = .ok (.aload_n 0, 1) := by decide +kernel
theorem dX10_save_37 : decode cX10_save 37 = .ok (.getfield 26, 3) := by decide +kernel
theorem dX10_save_40 : decode cX10_save 40 = .ok (.iload_n 1, 1) := by decide +kernel
theorem dX10_save_41 : decode cX10_save 41 = .ok (.aload_n 2, 1) := by decide +kernel
theorem dX10_save_42 : decode cX10_save 42 = .ok (.aastore, 1) := by decide +kernel
theorem dX10_save_43 : decode cX10_save 43 = .ok (.aload_n 2, 1) := by decide +kernel
theorem dX10_save_44 : decode cX10_save 44 = .ok (.aload_n 0, 1) := by decide +kernel
theorem dX10_save_45 : decode cX10_save 45 = .ok (.getfield 10, 3) := by decide +kernel
theorem dX10_save_48 : decode cX10_save 48 = .ok (.invokevirtual 316, 3) := by decide +kernel
theorem dX10_save_51 : decode cX10_save 51 = .ok (.aload_n 0, 1) := by decide +kernel
theorem dX10_save_52 : decode cX10_save 52 = .ok (.getfield 10, 3) := by decide +kernel
theorem dX10_save_55 : decode cX10_save 55 = .ok (.invokevirtual 95, 3) := by decide +kernel
theorem dX10_save_58 : decode cX10_save 58 = .ok (.ireturn, 1) := by decide +kernel
theorem dX10_restore_0 : decode cX10_restore 0 = .ok (.iload_n 1, 1) := by decide +kernel
theorem dX10_restore_1 : decode cX10_restore 1 = .ok (.ifCond .lt 12, 3) := by decide +kernel
theorem dX10_restore_4 : decode cX10_restore 4 = .ok (.iload_n 1, 1) := by decide +kernel
theorem dX10_restore_5 : decode cX10_restore 5 = .ok (.aload_n 0, 1) := by decide +kernel
theorem dX10_restore_6 : decode cX10_restore 6 = .ok (.getfield 26, 3) := by decide +kernel
theorem dX10_restore_9 : decode cX10_restore 9 = .ok (.arraylength, 1) := by decide +kernel
theorem dX10_restore_10 : decode cX10_restore 10 = .ok (.if_icmp .lt 7, 3) := by decide +kernel
theorem dX10_restore_13 : decode cX10_restore 13 = .ok (.sipush (-1001), 3) := by decide +kernel
theorem dX10_restore_16 : decode cX10_restore 16 = .ok (.ireturn, 1) := by decide +kernel
theorem dX10_restore_17 : decode cX10_restore 17 = .ok (.aload_n 0, 1) := by decide +kernel
theorem dX10_restore_18 : decode cX10_restore 18 = .ok (.getfield 26, 3) := by decide +kernel
theorem dX10_restore_21 : decode cX10_restore 21 = .ok (.iload_n 1, 1) := by decide +kernel
theorem dX10_restore_22 : decode cX10_restore 22 = .ok (.aaload, 1) := by decide +kernel
theorem dX10_restore_23 : decode cX10_restore 23 = .ok (.astore_n 2, 1) := by decide +kernel
theorem dX10_restore_24 : decode cX10_restore 24 = .ok (.aload_n 2, 1) := by decide +kernel
theorem dX10_restore_25 : decode cX10_restore 25 = .ok (.ifnonnull 7, 3) := by decide +kernel
theorem dX10_restore_28 : decode cX10_restore 28 = .ok (.sipush (-1002), 3) := by decide +kernel
theorem dX10_restore_31 : decode cX10_restore 31 = .ok (.ireturn, 1) := by decide +kernel
theorem dX10_restore_32 : decode cX10_restore 32 = .ok (.aload_n 0, 1) := by decide +kernel
theorem dX10_restore_33 : decode cX10_restore 33 = .ok (.getfield 10, 3) := by decide +kernel
theorem dX10_restore_36 : decode cX10_restore 36 = .ok (.aload_n 2, 1) := by decide +kernel
theorem dX10_restore_37 : decode cX10_restore 37 = .ok (.invokevirtual 316, 3) := by decide +kernel
theorem dX10_restore_40 : decode cX10_restore 40 = .ok (.aload_n 0, 1) := by decide +kernel
theorem dX10_restore_41 : decode cX10_restore 41 = .ok (.getfield 22, 3) := by decide +kernel
theorem dX10_restore_44 : decode cX10_restore 44 = .ok (.iconst 0, 1) := by decide +kernel
theorem dX10_restore_45 : decode cX10_restore 45 = .ok (.putfield 332, 3) := by decide +kernel
theorem dX10_restore_48 : decode cX10_restore 48 = .ok (.aload_n 0, 1) := by decide +kernel
theorem dX10_restore_49 : decode cX10_restore 49 = .ok (.getfield 40, 3) := by decide +kernel
theorem dX10_restore_52 : decode cX10_restore 52 = .ok (.invokevirtual 76, 3) := by decide +kernel
theorem dX10_restore_55 : decode cX10_restore 55 = .ok (.pop, 1) := by decide +kernel
theorem dX10_restore_56 : decode cX10_restore 56 = .ok (.aload_n 0, 1) := by decide +kernel
theorem dX10_restore_57 : decode cX10_restore 57 = .ok (.getfield 10, 3) := by decide +kernel
theorem dX10_restore_60 : decode cX10_restore 60 = .ok (.invokevirtual 95, 3) := by decide +kernel
theorem dX10_restore_63 : decode cX10_restore 63 = .ok (.ireturn, 1) := by decide +kernel
theorem dX10_within_0 : decode cX10_within 0 = .ok (.iload_n 0, 1) := by decide +kernel
theorem dX10_within_1 : decode cX10_within 1 = .ok (.iload_n 1, 1) := by decide +kernel
theorem dX10_within_2 : decode cX10_within 2 = .ok (.if_icmp .lt 12, 3) := by decide +kernel
theorem dX10_within_5 : decode cX10_within 5 = .ok (.iload_n 0, 1) := by decide +kernel
theorem dX10_within_6 : decode cX10_within 6 = .ok (.iload_n 2, 1) := by decide +kernel
theorem dX10_within_7 : decode cX10_within 7 = .ok (.if_icmp .gt 7, 3) := by decide +kernel
theorem dX10_within_10 : decode cX10_within 10 = .ok (.iconst 1, 1) := by decide +kernel
theorem dX10_within_11 : decode cX10_within 11 = .ok (.goto 4, 3) := by decide +kernel
theorem dX10_within_14 : decode cX10_within 14 = .ok (.iconst 0, 1) := by decide +kernel
theorem dX10_within_15 : decode cX10_within 15 = .ok (.ireturn, 1) := by decide +kernel
theorem dX10_clamped_0 : decode cX10_clamped 0 = .ok (.iconst 0, 1) := by decide +kernel
theorem dX10_clamped_1 : decode cX10_clamped 1 = .ok (.iload_n 0, 1) := by decide +kernel
theorem dX10_clamped_2 : decode cX10_clamped 2 = .ok (.sipush 255, 3) := by decide +kernel
theorem dX10_clamped_5 : decode cX10_clamped 5 = .ok (.invokestatic 137, 3) := by decide +kernel
theorem dX10_clamped_8 : decode cX10_clamped 8 = .ok (.invokestatic 131, 3) := by decide +kernel
theorem dX10_clamped_11 : decode cX10_clamped 11 = .ok (.ireturn, 1) := by decide +kernel
theorem dX10_divided_0 : decode cX10_divided 0 = .ok (.iload_n 1, 1) := by decide +kernel
theorem dX10_divided_1 : decode cX10_divided 1 = .ok (.ifCond .le 11, 3) := by decide +kernel
theorem dX10_divided_4 : decode cX10_divided 4 = .ok (.iload_n 0, 1) := by decide +kernel
theorem dX10_divided_5 : decode cX10_divided 5 = .ok (.iload_n 1, 1) := by decide +kernel
theorem dX10_divided_6 : decode cX10_divided 6 = .ok (.invokestatic 338, 3) := by decide +kernel
theorem dX10_divided_9 : decode cX10_divided 9 = .ok (.goto 4, 3) := by decide +kernel
theorem dX10_divided_12 : decode cX10_divided 12 = .ok (.iconst 0, 1) := by decide +kernel
theorem dX10_divided_13 : decode cX10_divided 13 = .ok (.ireturn, 1) := by decide +kernel
theorem dJ9_floorDiv_7cf53_0 : decode cJ9_floorDiv_7cf53 0 = .ok (.iload_n 0, 1) := by decide +kernel
theorem dJ9_floorDiv_7cf53_1 : decode cJ9_floorDiv_7cf53 1 = .ok (.iload_n 1, 1) := by decide +kernel
theorem dJ9_floorDiv_7cf53_2 : decode cJ9_floorDiv_7cf53 2 = .ok (.idiv, 1) := by decide +kernel
theorem dJ9_floorDiv_7cf53_3 : decode cJ9_floorDiv_7cf53 3 = .ok (.istore_n 2, 1) := by decide +kernel
theorem dJ9_floorDiv_7cf53_4 : decode cJ9_floorDiv_7cf53 4 = .ok (.iload_n 0, 1) := by decide +kernel
theorem dJ9_floorDiv_7cf53_5 : decode cJ9_floorDiv_7cf53 5 = .ok (.iload_n 1, 1) := by decide +kernel
theorem dJ9_floorDiv_7cf53_6 : decode cJ9_floorDiv_7cf53 6 = .ok (.ixor, 1) := by decide +kernel
theorem dJ9_floorDiv_7cf53_7 : decode cJ9_floorDiv_7cf53 7 = .ok (.ifCond .ge 14, 3) := by decide +kernel
theorem dJ9_floorDiv_7cf53_10 : decode cJ9_floorDiv_7cf53 10 = .ok (.iload_n 2, 1) := by decide +kernel
theorem dJ9_floorDiv_7cf53_11 : decode cJ9_floorDiv_7cf53 11 = .ok (.iload_n 1, 1) := by decide +kernel
theorem dJ9_floorDiv_7cf53_12 : decode cJ9_floorDiv_7cf53 12 = .ok (.imul, 1) := by decide +kernel
theorem dJ9_floorDiv_7cf53_13 : decode cJ9_floorDiv_7cf53 13 = .ok (.iload_n 0, 1) := by decide +kernel
theorem dJ9_floorDiv_7cf53_14 : decode cJ9_floorDiv_7cf53 14 = .ok (.if_icmp .eq 7, 3) := by decide +kernel
theorem dJ9_floorDiv_7cf53_17 : decode cJ9_floorDiv_7cf53 17 = .ok (.iload_n 2, 1) := by decide +kernel
theorem dJ9_floorDiv_7cf53_18 : decode cJ9_floorDiv_7cf53 18 = .ok (.iconst 1, 1) := by decide +kernel
theorem dJ9_floorDiv_7cf53_19 : decode cJ9_floorDiv_7cf53 19 = .ok (.isub, 1) := by decide +kernel
theorem dJ9_floorDiv_7cf53_20 : decode cJ9_floorDiv_7cf53 20 = .ok (.ireturn, 1) := by decide +kernel
theorem dJ9_floorDiv_7cf53_21 : decode cJ9_floorDiv_7cf53 21 = .ok (.iload_n 2, 1) := by decide +kernel
theorem dJ9_floorDiv_7cf53_22 : decode cJ9_floorDiv_7cf53 22 = .ok (.ireturn, 1) := by decide +kernel
theorem dJ9_abs_0f7a4_0 : decode cJ9_abs_0f7a4 0 = .ok (.iload_n 0, 1) := by decide +kernel
theorem dJ9_abs_0f7a4_1 : decode cJ9_abs_0f7a4 1 = .ok (.ifCond .ge 8, 3) := by decide +kernel
theorem dJ9_abs_0f7a4_4 : decode cJ9_abs_0f7a4 4 = .ok (.iload_n 0, 1) := by decide +kernel
theorem dJ9_abs_0f7a4_5 : decode cJ9_abs_0f7a4 5 = .ok (.ineg, 1) := by decide +kernel
theorem dJ9_abs_0f7a4_6 : decode cJ9_abs_0f7a4 6 = .ok (.goto 4, 3) := by decide +kernel
theorem dJ9_abs_0f7a4_9 : decode cJ9_abs_0f7a4 9 = .ok (.iload_n 0, 1) := by decide +kernel
theorem dJ9_abs_0f7a4_10 : decode cJ9_abs_0f7a4 10 = .ok (.ireturn, 1) := by decide +kernel
theorem dJ9_max_7cf53_0 : decode cJ9_max_7cf53 0 = .ok (.iload_n 0, 1) := by decide +kernel
theorem dJ9_max_7cf53_1 : decode cJ9_max_7cf53 1 = .ok (.iload_n 1, 1) := by decide +kernel
theorem dJ9_max_7cf53_2 : decode cJ9_max_7cf53 2 = .ok (.if_icmp .lt 7, 3) := by decide +kernel
theorem dJ9_max_7cf53_5 : decode cJ9_max_7cf53 5 = .ok (.iload_n 0, 1) := by decide +kernel
theorem dJ9_max_7cf53_6 : decode cJ9_max_7cf53 6 = .ok (.goto 4, 3) := by decide +kernel
theorem dJ9_max_7cf53_9 : decode cJ9_max_7cf53 9 = .ok (.iload_n 1, 1) := by decide +kernel
theorem dJ9_max_7cf53_10 : decode cJ9_max_7cf53 10 = .ok (.ireturn, 1) := by decide +kernel
theorem dJ9_min_7cf53_0 : decode cJ9_min_7cf53 0 = .ok (.iload_n 0, 1) := by decide +kernel
theorem dJ9_min_7cf53_1 : decode cJ9_min_7cf53 1 = .ok (.iload_n 1, 1) := by decide +kernel
theorem dJ9_min_7cf53_2 : decode cJ9_min_7cf53 2 = .ok (.if_icmp .gt 7, 3) := by decide +kernel
theorem dJ9_min_7cf53_5 : decode cJ9_min_7cf53 5 = .ok (.iload_n 0, 1) := by decide +kernel
theorem dJ9_min_7cf53_6 : decode cJ9_min_7cf53 6 = .ok (.goto 4, 3) := by decide +kernel
theorem dJ9_min_7cf53_9 : decode cJ9_min_7cf53 9 = .ok (.iload_n 1, 1) := by decide +kernel
theorem dJ9_min_7cf53_10 : decode cJ9_min_7cf53 10 = .ok (.ireturn, 1) := by decide +kernel
theorem dL_more_0 : decode cL_more 0 = .ok (.iload_n 0, 1) := by decide +kernel
theorem dL_more_1 : decode cL_more 1 = .ok (.iload_n 1, 1) := by decide +kernel
theorem dL_more_2 : decode cL_more 2 = .ok (.if_icmp .le 7, 3) := by decide +kernel
theorem dL_more_5 : decode cL_more 5 = .ok (.iload_n 0, 1) := by decide +kernel
theorem dL_more_6 : decode cL_more 6 = .ok (.goto 4, 3) := by decide +kernel
theorem dL_more_9 : decode cL_more 9 = .ok (.iload_n 1, 1) := by decide +kernel
theorem dL_more_10 : decode cL_more 10 = .ok (.ireturn, 1) := by decide +kernel
theorem dL_cell_0 : decode cL_cell 0 = .ok (.iload_n 1, 1) := by decide +kernel
theorem dL_cell_1 : decode cL_cell 1 = .ok (.aload_n 0, 1) := by decide +kernel
theorem dL_cell_2 : decode cL_cell 2 = .ok (.arraylength, 1) := by decide +kernel
theorem dL_cell_3 : decode cL_cell 3 = .ok (.if_icmp .ge 9, 3) := by decide +kernel
theorem dL_cell_6 : decode cL_cell 6 = .ok (.aload_n 0, 1) := by decide +kernel
theorem dL_cell_7 : decode cL_cell 7 = .ok (.iload_n 1, 1) := by decide +kernel
theorem dL_cell_8 : decode cL_cell 8 = .ok (.iaload, 1) := by decide +kernel
theorem dL_cell_9 : decode cL_cell 9 = .ok (.goto 15, 3) := by decide +kernel
theorem dL_cell_12 : decode cL_cell 12 = .ok (.sipush 7919, 3) := by decide +kernel
theorem dL_cell_15 : decode cL_cell 15 = .ok (.iload_n 1, 1) := by decide +kernel
theorem dL_cell_16 : decode cL_cell 16 = .ok (.iconst 3, 1) := by decide +kernel
theorem dL_cell_17 : decode cL_cell 17 = .ok (.iadd, 1) := by decide +kernel
theorem dL_cell_18 : decode cL_cell 18 = .ok (.imul, 1) := by decide +kernel
theorem dL_cell_19 : decode cL_cell 19 = .ok (.iload_n 1, 1) := by decide +kernel
theorem dL_cell_20 : decode cL_cell 20 = .ok (.bipush 11, 2) := by decide +kernel
theorem dL_cell_22 : decode cL_cell 22 = .ok (.iadd, 1) := by decide +kernel
theorem dL_cell_23 : decode cL_cell 23 = .ok (.imul, 1) := by decide +kernel
theorem dL_cell_24 : decode cL_cell 24 = .ok (.ireturn, 1) := by decide +kernel
theorem dL_low_0 : decode cL_low 0 = .ok (.iload_n 0, 1) := by decide +kernel
theorem dL_low_1 : decode cL_low 1 = .ok (.ldc 7, 2) := by decide +kernel
theorem dL_low_3 : decode cL_low 3 = .ok (.iand, 1) := by decide +kernel
theorem dL_low_4 : decode cL_low 4 = .ok (.iload_n 1, 1) := by decide +kernel
theorem dL_low_5 : decode cL_low 5 = .ok (.irem, 1) := by decide +kernel
theorem dL_low_6 : decode cL_low 6 = .ok (.ireturn, 1) := by decide +kernel
theorem dL_digest_0 : decode cL_digest 0 = .ok (.aload_n 0, 1) := by decide +kernel
theorem dL_digest_1 : decode cL_digest 1 = .ok (.iconst 0, 1) := by decide +kernel
theorem dL_digest_2 : decode cL_digest 2 = .ok (.invokevirtual 8, 3) := by decide +kernel
theorem dL_digest_5 : decode cL_digest 5 = .ok (.bipush 100, 2) := by decide +kernel
theorem dL_digest_7 : decode cL_digest 7 = .ok (.imul, 1) := by decide +kernel
theorem dL_digest_8 : decode cL_digest 8 = .ok (.aload_n 0, 1) := by decide +kernel
theorem dL_digest_9 : decode cL_digest 9 = .ok (.iconst 1, 1) := by decide +kernel
theorem dL_digest_10 : decode cL_digest 10 = .ok (.invokevirtual 8, 3) := by decide +kernel
theorem dL_digest_13 : decode cL_digest 13 = .ok (.iadd, 1) := by decide +kernel
theorem dL_digest_14 : decode cL_digest 14 = .ok (.i2l, 1) := by decide +kernel
theorem dL_digest_15 : decode cL_digest 15 = .ok (.lstore_n 1, 1) := by decide +kernel
theorem dL_digest_16 : decode cL_digest 16 = .ok (.iconst (-1), 1) := by decide +kernel
theorem dL_digest_17 : decode cL_digest 17 = .ok (.istore_n 3, 1) := by decide +kernel
theorem dL_digest_18 : decode cL_digest 18 = .ok (.iload_n 3, 1) := by decide +kernel
theorem dL_digest_19 : decode cL_digest 19 = .ok (.aload_n 0, 1) := by decide +kernel
theorem dL_digest_20 : decode cL_digest 20 = .ok (.iconst 2, 1) := by decide +kernel
theorem dL_digest_21 : decode cL_digest 21 = .ok (.invokevirtual 8, 3) := by decide +kernel
theorem dL_digest_24 : decode cL_digest 24 = .ok (.if_icmp .ge 73, 3) := by decide +kernel
theorem dL_digest_27 : decode cL_digest 27 = .ok (.ldc2_w 14, 3) := by decide +kernel
theorem dL_digest_30 : decode cL_digest 30 = .ok (.lload_n 1, 1) := by decide +kernel
theorem dL_digest_31 : decode cL_digest 31 = .ok (.lmul, 1) := by decide +kernel
theorem dL_digest_32 : decode cL_digest 32 = .ok (.aload_n 0, 1) := by decide +kernel
theorem dL_digest_33 : decode cL_digest 33 = .ok (.iload_n 3, 1) := by decide +kernel
theorem dL_digest_34 : decode cL_digest 34 = .ok (.invokevirtual 16, 3) := by decide +kernel
theorem dL_digest_37 : decode cL_digest 37 = .ok (.i2l, 1) := by decide +kernel
theorem dL_digest_38 : decode cL_digest 38 = .ok (.ladd, 1) := by decide +kernel
theorem dL_digest_39 : decode cL_digest 39 = .ok (.lstore_n 1, 1) := by decide +kernel
theorem dL_digest_40 : decode cL_digest 40 = .ok (.ldc2_w 14, 3) := by decide +kernel
theorem dL_digest_43 : decode cL_digest 43 = .ok (.lload_n 1, 1) := by decide +kernel
theorem dL_digest_44 : decode cL_digest 44 = .ok (.lmul, 1) := by decide +kernel
theorem dL_digest_45 : decode cL_digest 45 = .ok (.aload_n 0, 1) := by decide +kernel
theorem dL_digest_46 : decode cL_digest 46 = .ok (.iload_n 3, 1) := by decide +kernel
theorem dL_digest_47 : decode cL_digest 47 = .ok (.iconst 0, 1) := by decide +kernel
theorem dL_digest_48 : decode cL_digest 48 = .ok (.bipush 127, 2) := by decide +kernel
theorem dL_digest_50 : decode cL_digest 50 = .ok (.invokevirtual 19, 3) := by decide +kernel
theorem dL_digest_53 : decode cL_digest 53 = .ok (.i2l, 1) := by decide +kernel
theorem dL_digest_54 : decode cL_digest 54 = .ok (.ladd, 1) := by decide +kernel
theorem dL_digest_55 : decode cL_digest 55 = .ok (.lstore_n 1, 1) := by decide +kernel
theorem dL_digest_56 : decode cL_digest 56 = .ok (.iconst 0, 1) := by decide +kernel
theorem dL_digest_57 : decode cL_digest 57 = .ok (.istore 4, 2) := by decide +kernel
theorem dL_digest_59 : decode cL_digest 59 = .ok (.iload 4, 2) := by decide +kernel
theorem dL_digest_61 : decode cL_digest 61 = .ok (.bipush 9, 2) := by decide +kernel
theorem dL_digest_63 : decode cL_digest 63 = .ok (.if_icmp .ge 28, 3) := by decide +kernel
theorem dL_digest_66 : decode cL_digest 66 = .ok (.iload_n 3, 1) := by decide +kernel
theorem dL_digest_67 : decode cL_digest 67 = .ok (.ifCond .lt 24, 3) := by decide +kernel
theorem dL_digest_70 : decode cL_digest 70 = .ok (.ldc2_w 14, 3) := by decide +kernel
theorem dL_digest_73 : decode cL_digest 73 = .ok (.lload_n 1, 1) := by decide +kernel
theorem dL_digest_74 : decode cL_digest 74 = .ok (.lmul, 1) := by decide +kernel
theorem dL_digest_75 : decode cL_digest 75 = .ok (.aload_n 0, 1) := by decide +kernel
theorem dL_digest_76 : decode cL_digest 76 = .ok (.iload_n 3, 1) := by decide +kernel
theorem dL_digest_77 : decode cL_digest 77 = .ok (.iload 4, 2) := by decide +kernel
theorem dL_digest_79 : decode cL_digest 79 = .ok (.invokevirtual 23, 3) := by decide +kernel
theorem dL_digest_82 : decode cL_digest 82 = .ok (.i2l, 1) := by decide +kernel
theorem dL_digest_83 : decode cL_digest 83 = .ok (.ladd, 1) := by decide +kernel
theorem dL_digest_84 : decode cL_digest 84 = .ok (.lstore_n 1, 1) := by decide +kernel
theorem dL_digest_85 : decode cL_digest 85 = .ok (.iinc 4 1, 3) := by decide +kernel
theorem dL_digest_88 : decode cL_digest 88 = .ok (.goto (-29), 3) := by decide +kernel
theorem dL_digest_91 : decode cL_digest 91 = .ok (.iinc 3 1, 3) := by decide +kernel
theorem dL_digest_94 : decode cL_digest 94 = .ok (.goto (-76), 3) := by decide +kernel
theorem dL_digest_97 : decode cL_digest 97 = .ok (.lload_n 1, 1) := by decide +kernel
theorem dL_digest_98 : decode cL_digest 98 = .ok (.lreturn, 1) := by decide +kernel
theorem dL_isTold_0 : decode cL_isTold 0 = .ok (.iconst 0, 1) := by decide +kernel
theorem dL_isTold_1 : decode cL_isTold 1 = .ok (.istore_n 2, 1) := by decide +kernel
theorem dL_isTold_2 : decode cL_isTold 2 = .ok (.iconst 0, 1) := by decide +kernel
theorem dL_isTold_3 : decode cL_isTold 3 = .ok (.istore_n 3, 1) := by decide +kernel
theorem dL_isTold_4 : decode cL_isTold 4 = .ok (.iload_n 3, 1) := by decide +kernel
theorem dL_isTold_5 : decode cL_isTold 5 = .ok (.aload_n 0, 1) := by decide +kernel
theorem dL_isTold_6 : decode cL_isTold 6 = .ok (.iconst 1, 1) := by decide +kernel
theorem dL_isTold_7 : decode cL_isTold 7 = .ok (.invokevirtual 8, 3) := by decide +kernel
theorem dL_isTold_10 : decode cL_isTold 10 = .ok (.if_icmp .ge 58, 3) := by decide +kernel
theorem dL_isTold_13 : decode cL_isTold 13 = .ok (.iconst 0, 1) := by decide +kernel
theorem dL_isTold_14 : decode cL_isTold 14 = .ok (.istore 4, 2) := by decide +kernel
theorem dL_isTold_16 : decode cL_isTold 16 = .ok (.iload 4, 2) := by decide +kernel
theorem dL_isTold_18 : decode cL_isTold 18 = .ok (.aload_n 0, 1) := by decide +kernel
theorem dL_isTold_19 : decode cL_isTold 19 = .ok (.iconst 0, 1) := by decide +kernel
theorem dL_isTold_20 : decode cL_isTold 20 = .ok (.invokevirtual 8, 3) := by decide +kernel
theorem dL_isTold_23 : decode cL_isTold 23 = .ok (.if_icmp .ge 39, 3) := by decide +kernel
theorem dL_isTold_26 : decode cL_isTold 26 = .ok (.aload_n 0, 1) := by decide +kernel
theorem dL_isTold_27 : decode cL_isTold 27 = .ok (.iload_n 1, 1) := by decide +kernel
theorem dL_isTold_28 : decode cL_isTold 28 = .ok (.iload 4, 2) := by decide +kernel
theorem dL_isTold_30 : decode cL_isTold 30 = .ok (.iload_n 3, 1) := by decide +kernel
theorem dL_isTold_31 : decode cL_isTold 31 = .ok (.invokevirtual 27, 3) := by decide +kernel
theorem dL_isTold_34 : decode cL_isTold 34 = .ok (.istore 5, 2) := by decide +kernel
theorem dL_isTold_36 : decode cL_isTold 36 = .ok (.iload 5, 2) := by decide +kernel
theorem dL_isTold_38 : decode cL_isTold 38 = .ok (.ifCond .lt 11, 3) := by decide +kernel
theorem dL_isTold_41 : decode cL_isTold 41 = .ok (.iload 5, 2) := by decide +kernel
theorem dL_isTold_43 : decode cL_isTold 43 = .ok (.sipush 255, 3) := by decide +kernel
theorem dL_isTold_46 : decode cL_isTold 46 = .ok (.if_icmp .le 5, 3) := by decide +kernel
theorem dL_isTold_49 : decode cL_isTold 49 = .ok (.iconst 0, 1) := by decide +kernel
theorem dL_isTold_50 : decode cL_isTold 50 = .ok (.ireturn, 1) := by decide +kernel
theorem dL_isTold_51 : decode cL_isTold 51 = .ok (.iload_n 2, 1) := by decide +kernel
theorem dL_isTold_52 : decode cL_isTold 52 = .ok (.iload 5, 2) := by decide +kernel
theorem dL_isTold_54 : decode cL_isTold 54 = .ok (.iadd, 1) := by decide +kernel
theorem dL_isTold_55 : decode cL_isTold 55 = .ok (.istore_n 2, 1) := by decide +kernel
theorem dL_isTold_56 : decode cL_isTold 56 = .ok (.iinc 4 1, 3) := by decide +kernel
theorem dL_isTold_59 : decode cL_isTold 59 = .ok (.goto (-43), 3) := by decide +kernel
theorem dL_isTold_62 : decode cL_isTold 62 = .ok (.iinc 3 1, 3) := by decide +kernel
theorem dL_isTold_65 : decode cL_isTold 65 = .ok (.goto (-61), 3) := by decide +kernel
theorem dL_isTold_68 : decode cL_isTold 68 = .ok (.iconst 0, 1) := by decide +kernel
theorem dL_isTold_69 : decode cL_isTold 69 = .ok (.istore_n 3, 1) := by decide +kernel
theorem dL_isTold_70 : decode cL_isTold 70 = .ok (.iconst 0, 1) := by decide +kernel
theorem dL_isTold_71 : decode cL_isTold 71 = .ok (.istore 4, 2) := by decide +kernel
theorem dL_isTold_73 : decode cL_isTold 73 = .ok (.iload 4, 2) := by decide +kernel
theorem dL_isTold_75 : decode cL_isTold 75 = .ok (.aload_n 0, 1) := by decide +kernel
theorem dL_isTold_76 : decode cL_isTold 76 = .ok (.iconst 2, 1) := by decide +kernel
theorem dL_isTold_77 : decode cL_isTold 77 = .ok (.invokevirtual 8, 3) := by decide +kernel
theorem dL_isTold_80 : decode cL_isTold 80 = .ok (.if_icmp .ge 18, 3) := by decide +kernel
theorem dL_isTold_83 : decode cL_isTold 83 = .ok (.iload_n 3, 1) := by decide +kernel
theorem dL_isTold_84 : decode cL_isTold 84 = .ok (.aload_n 0, 1) := by decide +kernel
theorem dL_isTold_85 : decode cL_isTold 85 = .ok (.iload 4, 2) := by decide +kernel
theorem dL_isTold_87 : decode cL_isTold 87 = .ok (.invokevirtual 30, 3) := by decide +kernel
theorem dL_isTold_90 : decode cL_isTold 90 = .ok (.iadd, 1) := by decide +kernel
theorem dL_isTold_91 : decode cL_isTold 91 = .ok (.istore_n 3, 1) := by decide +kernel
theorem dL_isTold_92 : decode cL_isTold 92 = .ok (.iinc 4 1, 3) := by decide +kernel
theorem dL_isTold_95 : decode cL_isTold 95 = .ok (.goto (-22), 3) := by decide +kernel
theorem dL_isTold_98 : decode cL_isTold 98 = .ok (.iload_n 2, 1) := by decide +kernel
theorem dL_isTold_99 : decode cL_isTold 99 = .ok (.aload_n 0, 1) := by decide +kernel
theorem dL_isTold_100 : decode cL_isTold 100 = .ok (.iload_n 1, 1) := by decide +kernel
theorem dL_isTold_101 : decode cL_isTold 101 = .ok (.invokevirtual 16, 3) := by decide +kernel
theorem dL_isTold_104 : decode cL_isTold 104 = .ok (.if_icmp .ne 54, 3) := by decide +kernel
theorem dL_isTold_107 : decode cL_isTold 107 = .ok (.aload_n 0, 1) := by decide +kernel
theorem dL_isTold_108 : decode cL_isTold 108 = .ok (.iload_n 1, 1) := by decide +kernel
theorem dL_isTold_109 : decode cL_isTold 109 = .ok (.iconst 0, 1) := by decide +kernel
theorem dL_isTold_110 : decode cL_isTold 110 = .ok (.sipush 255, 3) := by decide +kernel
theorem dL_isTold_113 : decode cL_isTold 113 = .ok (.invokevirtual 19, 3) := by decide +kernel
theorem dL_isTold_116 : decode cL_isTold 116 = .ok (.aload_n 0, 1) := by decide +kernel
theorem dL_isTold_117 : decode cL_isTold 117 = .ok (.iconst 0, 1) := by decide +kernel
theorem dL_isTold_118 : decode cL_isTold 118 = .ok (.invokevirtual 8, 3) := by decide +kernel
theorem dL_isTold_121 : decode cL_isTold 121 = .ok (.aload_n 0, 1) := by decide +kernel
theorem dL_isTold_122 : decode cL_isTold 122 = .ok (.iconst 1, 1) := by decide +kernel
theorem dL_isTold_123 : decode cL_isTold 123 = .ok (.invokevirtual 8, 3) := by decide +kernel
theorem dL_isTold_126 : decode cL_isTold 126 = .ok (.imul, 1) := by decide +kernel
theorem dL_isTold_127 : decode cL_isTold 127 = .ok (.if_icmp .ne 31, 3) := by decide +kernel
theorem dL_isTold_130 : decode cL_isTold 130 = .ok (.iload_n 3, 1) := by decide +kernel
theorem dL_isTold_131 : decode cL_isTold 131 = .ok (.aload_n 0, 1) := by decide +kernel
theorem dL_isTold_132 : decode cL_isTold 132 = .ok (.iconst 5, 1) := by decide +kernel
theorem dL_isTold_133 : decode cL_isTold 133 = .ok (.invokevirtual 8, 3) := by decide +kernel
theorem dL_isTold_136 : decode cL_isTold 136 = .ok (.if_icmp .gt 22, 3) := by decide +kernel
theorem dL_isTold_139 : decode cL_isTold 139 = .ok (.aload_n 0, 1) := by decide +kernel
theorem dL_isTold_140 : decode cL_isTold 140 = .ok (.iconst 0, 1) := by decide +kernel
theorem dL_isTold_141 : decode cL_isTold 141 = .ok (.invokevirtual 33, 3) := by decide +kernel
theorem dL_isTold_144 : decode cL_isTold 144 = .ok (.aload_n 0, 1) := by decide +kernel
theorem dL_isTold_145 : decode cL_isTold 145 = .ok (.iconst 2, 1) := by decide +kernel
theorem dL_isTold_146 : decode cL_isTold 146 = .ok (.invokevirtual 33, 3) := by decide +kernel
theorem dL_isTold_149 : decode cL_isTold 149 = .ok (.isub, 1) := by decide +kernel
theorem dL_isTold_150 : decode cL_isTold 150 = .ok (.iload_n 3, 1) := by decide +kernel
theorem dL_isTold_151 : decode cL_isTold 151 = .ok (.if_icmp .lt 7, 3) := by decide +kernel
theorem dL_isTold_154 : decode cL_isTold 154 = .ok (.iconst 1, 1) := by decide +kernel
theorem dL_isTold_155 : decode cL_isTold 155 = .ok (.goto 4, 3) := by decide +kernel
theorem dL_isTold_158 : decode cL_isTold 158 = .ok (.iconst 0, 1) := by decide +kernel
theorem dL_isTold_159 : decode cL_isTold 159 = .ok (.ireturn, 1) := by decide +kernel
theorem dL_edit_0 : decode cL_edit 0 = .ok (.iconst 1, 1) := by decide +kernel
theorem dL_edit_1 : decode cL_edit 1 = .ok (.aload_n 0, 1) := by decide +kernel
theorem dL_edit_2 : decode cL_edit 2 = .ok (.iconst 2, 1) := by decide +kernel
theorem dL_edit_3 : decode cL_edit 3 = .ok (.invokevirtual 8, 3) := by decide +kernel
theorem dL_edit_6 : decode cL_edit 6 = .ok (.invokestatic 36, 3) := by decide +kernel
theorem dL_edit_9 : decode cL_edit 9 = .ok (.istore_n 2, 1) := by decide +kernel
theorem dL_edit_10 : decode cL_edit 10 = .ok (.iload_n 1, 1) := by decide +kernel
theorem dL_edit_11 : decode cL_edit 11 = .ok (.iconst 4, 1) := by decide +kernel
theorem dL_edit_12 : decode cL_edit 12 = .ok (.ishr, 1) := by decide +kernel
theorem dL_edit_13 : decode cL_edit 13 = .ok (.iload_n 2, 1) := by decide +kernel
theorem dL_edit_14 : decode cL_edit 14 = .ok (.invokestatic 41, 3) := by decide +kernel
theorem dL_edit_17 : decode cL_edit 17 = .ok (.istore_n 3, 1) := by decide +kernel
theorem dL_edit_18 : decode cL_edit 18 = .ok (.iload_n 1, 1) := by decide +kernel
theorem dL_edit_19 : decode cL_edit 19 = .ok (.bipush 7, 2) := by decide +kernel
theorem dL_edit_21 : decode cL_edit 21 = .ok (.ishr, 1) := by decide +kernel
theorem dL_edit_22 : decode cL_edit 22 = .ok (.bipush 101, 2) := by decide +kernel
theorem dL_edit_24 : decode cL_edit 24 = .ok (.invokestatic 41, 3) := by decide +kernel
theorem dL_edit_27 : decode cL_edit 27 = .ok (.istore 4, 2) := by decide +kernel
theorem dL_edit_29 : decode cL_edit 29 = .ok (.iload_n 1, 1) := by decide +kernel
theorem dL_edit_30 : decode cL_edit 30 = .ok (.bipush 15, 2) := by decide +kernel
theorem dL_edit_32 : decode cL_edit 32 = .ok (.iand, 1) := by decide +kernel
theorem dL_edit_33 : decode cL_edit 33 = .ok (.tableswitch 318 0 14 #[75, 75, 112, 136, 153, 165, 185, 196, 202, 234, 249, 263, 269, 275, 308], 75) := by decide +kernel
theorem dL_edit_108 : decode cL_edit 108 = .ok (.aload_n 0, 1) := by decide +kernel
theorem dL_edit_109 : decode cL_edit 109 = .ok (.iload_n 1, 1) := by decide +kernel
theorem dL_edit_110 : decode cL_edit 110 = .ok (.iconst 4, 1) := by decide +kernel
theorem dL_edit_111 : decode cL_edit 111 = .ok (.ishr, 1) := by decide +kernel
theorem dL_edit_112 : decode cL_edit 112 = .ok (.aload_n 0, 1) := by decide +kernel
theorem dL_edit_113 : decode cL_edit 113 = .ok (.iconst 0, 1) := by decide +kernel
theorem dL_edit_114 : decode cL_edit 114 = .ok (.invokevirtual 8, 3) := by decide +kernel
theorem dL_edit_117 : decode cL_edit 117 = .ok (.invokestatic 41, 3) := by decide +kernel
theorem dL_edit_120 : decode cL_edit 120 = .ok (.iload_n 1, 1) := by decide +kernel
theorem dL_edit_121 : decode cL_edit 121 = .ok (.bipush 8, 2) := by decide +kernel
theorem dL_edit_123 : decode cL_edit 123 = .ok (.ishr, 1) := by decide +kernel
theorem dL_edit_124 : decode cL_edit 124 = .ok (.aload_n 0, 1) := by decide +kernel
theorem dL_edit_125 : decode cL_edit 125 = .ok (.iconst 1, 1) := by decide +kernel
theorem dL_edit_126 : decode cL_edit 126 = .ok (.invokevirtual 8, 3) := by decide +kernel
theorem dL_edit_129 : decode cL_edit 129 = .ok (.invokestatic 41, 3) := by decide +kernel
theorem dL_edit_132 : decode cL_edit 132 = .ok (.iload_n 1, 1) := by decide +kernel
theorem dL_edit_133 : decode cL_edit 133 = .ok (.iconst 5, 1) := by decide +kernel
theorem dL_edit_134 : decode cL_edit 134 = .ok (.ishr, 1) := by decide +kernel
theorem dL_edit_135 : decode cL_edit 135 = .ok (.sipush 256, 3) := by decide +kernel
theorem dL_edit_138 : decode cL_edit 138 = .ok (.invokestatic 41, 3) := by decide +kernel
theorem dL_edit_141 : decode cL_edit 141 = .ok (.invokevirtual 44, 3) := by decide +kernel
theorem dL_edit_144 : decode cL_edit 144 = .ok (.ireturn, 1) := by decide +kernel
theorem dL_edit_145 : decode cL_edit 145 = .ok (.aload_n 0, 1) := by decide +kernel
theorem dL_edit_146 : decode cL_edit 146 = .ok (.iload_n 1, 1) := by decide +kernel
theorem dL_edit_147 : decode cL_edit 147 = .ok (.iconst 4, 1) := by decide +kernel
theorem dL_edit_148 : decode cL_edit 148 = .ok (.ishr, 1) := by decide +kernel
theorem dL_edit_149 : decode cL_edit 149 = .ok (.iconst 3, 1) := by decide +kernel
theorem dL_edit_150 : decode cL_edit 150 = .ok (.invokestatic 41, 3) := by decide +kernel
theorem dL_edit_153 : decode cL_edit 153 = .ok (.iload_n 1, 1) := by decide +kernel
theorem dL_edit_154 : decode cL_edit 154 = .ok (.bipush 6, 2) := by decide +kernel
theorem dL_edit_156 : decode cL_edit 156 = .ok (.ishr, 1) := by decide +kernel
theorem dL_edit_157 : decode cL_edit 157 = .ok (.iconst 3, 1) := by decide +kernel
theorem dL_edit_158 : decode cL_edit 158 = .ok (.invokestatic 41, 3) := by decide +kernel
theorem dL_edit_161 : decode cL_edit 161 = .ok (.iconst 2, 1) := by decide +kernel
theorem dL_edit_162 : decode cL_edit 162 = .ok (.iconst 2, 1) := by decide +kernel
theorem dL_edit_163 : decode cL_edit 163 = .ok (.iload 4, 2) := by decide +kernel
theorem dL_edit_165 : decode cL_edit 165 = .ok (.invokevirtual 47, 3) := by decide +kernel
theorem dL_edit_168 : decode cL_edit 168 = .ok (.ireturn, 1) := by decide +kernel
theorem dL_edit_169 : decode cL_edit 169 = .ok (.aload_n 0, 1) := by decide +kernel
theorem dL_edit_170 : decode cL_edit 170 = .ok (.iload_n 3, 1) := by decide +kernel
theorem dL_edit_171 : decode cL_edit 171 = .ok (.iload_n 1, 1) := by decide +kernel
theorem dL_edit_172 : decode cL_edit 172 = .ok (.bipush 10, 2) := by decide +kernel
theorem dL_edit_174 : decode cL_edit 174 = .ok (.ishr, 1) := by decide +kernel
theorem dL_edit_175 : decode cL_edit 175 = .ok (.bipush 8, 2) := by decide +kernel
theorem dL_edit_177 : decode cL_edit 177 = .ok (.invokestatic 41, 3) := by decide +kernel
theorem dL_edit_180 : decode cL_edit 180 = .ok (.iload 4, 2) := by decide +kernel
theorem dL_edit_182 : decode cL_edit 182 = .ok (.invokevirtual 51, 3) := by decide +kernel
theorem dL_edit_185 : decode cL_edit 185 = .ok (.ireturn, 1) := by decide +kernel
theorem dL_edit_186 : decode cL_edit 186 = .ok (.aload_n 0, 1) := by decide +kernel
theorem dL_edit_187 : decode cL_edit 187 = .ok (.iload_n 3, 1) := by decide +kernel
theorem dL_edit_188 : decode cL_edit 188 = .ok (.iload_n 1, 1) := by decide +kernel
theorem dL_edit_189 : decode cL_edit 189 = .ok (.bipush 10, 2) := by decide +kernel
theorem dL_edit_191 : decode cL_edit 191 = .ok (.ishr, 1) := by decide +kernel
theorem dL_edit_192 : decode cL_edit 192 = .ok (.iconst 1, 1) := by decide +kernel
theorem dL_edit_193 : decode cL_edit 193 = .ok (.iand, 1) := by decide +kernel
theorem dL_edit_194 : decode cL_edit 194 = .ok (.invokevirtual 54, 3) := by decide +kernel
theorem dL_edit_197 : decode cL_edit 197 = .ok (.ireturn, 1) := by decide +kernel
theorem dL_edit_198 : decode cL_edit 198 = .ok (.aload_n 0, 1) := by decide +kernel
theorem dL_edit_199 : decode cL_edit 199 = .ok (.iload_n 3, 1) := by decide +kernel
theorem dL_edit_200 : decode cL_edit 200 = .ok (.iconst 1, 1) := by decide +kernel
theorem dL_edit_201 : decode cL_edit 201 = .ok (.iconst 1, 1) := by decide +kernel
theorem dL_edit_202 : decode cL_edit 202 = .ok (.iconst 1, 1) := by decide +kernel
theorem dL_edit_203 : decode cL_edit 203 = .ok (.iconst 2, 1) := by decide +kernel
theorem dL_edit_204 : decode cL_edit 204 = .ok (.iload_n 1, 1) := by decide +kernel
theorem dL_edit_205 : decode cL_edit 205 = .ok (.bipush 9, 2) := by decide +kernel
theorem dL_edit_207 : decode cL_edit 207 = .ok (.ishr, 1) := by decide +kernel
theorem dL_edit_208 : decode cL_edit 208 = .ok (.iconst 4, 1) := by decide +kernel
theorem dL_edit_209 : decode cL_edit 209 = .ok (.invokestatic 41, 3) := by decide +kernel
theorem dL_edit_212 : decode cL_edit 212 = .ok (.iadd, 1) := by decide +kernel
theorem dL_edit_213 : decode cL_edit 213 = .ok (.iconst 2, 1) := by decide +kernel
theorem dL_edit_214 : decode cL_edit 214 = .ok (.invokevirtual 57, 3) := by decide +kernel
theorem dL_edit_217 : decode cL_edit 217 = .ok (.ireturn, 1) := by decide +kernel
theorem dL_edit_218 : decode cL_edit 218 = .ok (.aload_n 0, 1) := by decide +kernel
theorem dL_edit_219 : decode cL_edit 219 = .ok (.iload_n 3, 1) := by decide +kernel
theorem dL_edit_220 : decode cL_edit 220 = .ok (.iconst 3, 1) := by decide +kernel
theorem dL_edit_221 : decode cL_edit 221 = .ok (.iconst 0, 1) := by decide +kernel
theorem dL_edit_222 : decode cL_edit 222 = .ok (.iconst 0, 1) := by decide +kernel
theorem dL_edit_223 : decode cL_edit 223 = .ok (.iconst 0, 1) := by decide +kernel
theorem dL_edit_224 : decode cL_edit 224 = .ok (.iconst 0, 1) := by decide +kernel
theorem dL_edit_225 : decode cL_edit 225 = .ok (.invokevirtual 57, 3) := by decide +kernel
theorem dL_edit_228 : decode cL_edit 228 = .ok (.ireturn, 1) := by decide +kernel
theorem dL_edit_229 : decode cL_edit 229 = .ok (.aload_n 0, 1) := by decide +kernel
theorem dL_edit_230 : decode cL_edit 230 = .ok (.iload_n 3, 1) := by decide +kernel
theorem dL_edit_231 : decode cL_edit 231 = .ok (.invokevirtual 61, 3) := by decide +kernel
theorem dL_edit_234 : decode cL_edit 234 = .ok (.ireturn, 1) := by decide +kernel
theorem dL_edit_235 : decode cL_edit 235 = .ok (.aload_n 0, 1) := by decide +kernel
theorem dL_edit_236 : decode cL_edit 236 = .ok (.iload_n 3, 1) := by decide +kernel
theorem dL_edit_237 : decode cL_edit 237 = .ok (.iload_n 1, 1) := by decide +kernel
theorem dL_edit_238 : decode cL_edit 238 = .ok (.bipush 7, 2) := by decide +kernel
theorem dL_edit_240 : decode cL_edit 240 = .ok (.ishr, 1) := by decide +kernel
theorem dL_edit_241 : decode cL_edit 241 = .ok (.bipush 8, 2) := by decide +kernel
theorem dL_edit_243 : decode cL_edit 243 = .ok (.invokestatic 41, 3) := by decide +kernel
theorem dL_edit_246 : decode cL_edit 246 = .ok (.iload_n 1, 1) := by decide +kernel
theorem dL_edit_247 : decode cL_edit 247 = .ok (.bipush 9, 2) := by decide +kernel
theorem dL_edit_249 : decode cL_edit 249 = .ok (.ishr, 1) := by decide +kernel
theorem dL_edit_250 : decode cL_edit 250 = .ok (.bipush 8, 2) := by decide +kernel
theorem dL_edit_252 : decode cL_edit 252 = .ok (.invokestatic 41, 3) := by decide +kernel
theorem dL_edit_255 : decode cL_edit 255 = .ok (.iload_n 1, 1) := by decide +kernel
theorem dL_edit_256 : decode cL_edit 256 = .ok (.bipush 11, 2) := by decide +kernel
theorem dL_edit_258 : decode cL_edit 258 = .ok (.ishr, 1) := by decide +kernel
theorem dL_edit_259 : decode cL_edit 259 = .ok (.iconst 4, 1) := by decide +kernel
theorem dL_edit_260 : decode cL_edit 260 = .ok (.invokestatic 41, 3) := by decide +kernel
theorem dL_edit_263 : decode cL_edit 263 = .ok (.invokevirtual 64, 3) := by decide +kernel
theorem dL_edit_266 : decode cL_edit 266 = .ok (.ireturn, 1) := by decide +kernel
theorem dL_edit_267 : decode cL_edit 267 = .ok (.aload_n 0, 1) := by decide +kernel
theorem dL_edit_268 : decode cL_edit 268 = .ok (.iload_n 3, 1) := by decide +kernel
theorem dL_edit_269 : decode cL_edit 269 = .ok (.iload_n 1, 1) := by decide +kernel
theorem dL_edit_270 : decode cL_edit 270 = .ok (.bipush 7, 2) := by decide +kernel
theorem dL_edit_272 : decode cL_edit 272 = .ok (.ishr, 1) := by decide +kernel
theorem dL_edit_273 : decode cL_edit 273 = .ok (.bipush 6, 2) := by decide +kernel
theorem dL_edit_275 : decode cL_edit 275 = .ok (.invokestatic 41, 3) := by decide +kernel
theorem dL_edit_278 : decode cL_edit 278 = .ok (.invokevirtual 68, 3) := by decide +kernel
theorem dL_edit_281 : decode cL_edit 281 = .ok (.ireturn, 1) := by decide +kernel
theorem dL_edit_282 : decode cL_edit 282 = .ok (.aload_n 0, 1) := by decide +kernel
theorem dL_edit_283 : decode cL_edit 283 = .ok (.iload_n 3, 1) := by decide +kernel
theorem dL_edit_284 : decode cL_edit 284 = .ok (.iload_n 1, 1) := by decide +kernel
theorem dL_edit_285 : decode cL_edit 285 = .ok (.bipush 8, 2) := by decide +kernel
theorem dL_edit_287 : decode cL_edit 287 = .ok (.ishr, 1) := by decide +kernel
theorem dL_edit_288 : decode cL_edit 288 = .ok (.iload_n 2, 1) := by decide +kernel
theorem dL_edit_289 : decode cL_edit 289 = .ok (.invokestatic 41, 3) := by decide +kernel
theorem dL_edit_292 : decode cL_edit 292 = .ok (.invokevirtual 71, 3) := by decide +kernel
theorem dL_edit_295 : decode cL_edit 295 = .ok (.ireturn, 1) := by decide +kernel
theorem dL_edit_296 : decode cL_edit 296 = .ok (.aload_n 0, 1) := by decide +kernel
theorem dL_edit_297 : decode cL_edit 297 = .ok (.iload_n 3, 1) := by decide +kernel
theorem dL_edit_298 : decode cL_edit 298 = .ok (.invokevirtual 74, 3) := by decide +kernel
theorem dL_edit_301 : decode cL_edit 301 = .ok (.ireturn, 1) := by decide +kernel
theorem dL_edit_302 : decode cL_edit 302 = .ok (.aload_n 0, 1) := by decide +kernel
theorem dL_edit_303 : decode cL_edit 303 = .ok (.iload_n 3, 1) := by decide +kernel
theorem dL_edit_304 : decode cL_edit 304 = .ok (.invokevirtual 77, 3) := by decide +kernel
theorem dL_edit_307 : decode cL_edit 307 = .ok (.ireturn, 1) := by decide +kernel
theorem dL_edit_308 : decode cL_edit 308 = .ok (.aload_n 0, 1) := by decide +kernel
theorem dL_edit_309 : decode cL_edit 309 = .ok (.iload_n 1, 1) := by decide +kernel
theorem dL_edit_310 : decode cL_edit 310 = .ok (.iconst 4, 1) := by decide +kernel
theorem dL_edit_311 : decode cL_edit 311 = .ok (.ishr, 1) := by decide +kernel
theorem dL_edit_312 : decode cL_edit 312 = .ok (.iconst 2, 1) := by decide +kernel
theorem dL_edit_313 : decode cL_edit 313 = .ok (.invokestatic 41, 3) := by decide +kernel
theorem dL_edit_316 : decode cL_edit 316 = .ok (.ifCond .ne 8, 3) := by decide +kernel
theorem dL_edit_319 : decode cL_edit 319 = .ok (.bipush 6, 2) := by decide +kernel
theorem dL_edit_321 : decode cL_edit 321 = .ok (.goto 5, 3) := by decide +kernel
theorem dL_edit_324 : decode cL_edit 324 = .ok (.bipush 9, 2) := by decide +kernel
theorem dL_edit_326 : decode cL_edit 326 = .ok (.iconst 1, 1) := by decide +kernel
theorem dL_edit_327 : decode cL_edit 327 = .ok (.iload_n 1, 1) := by decide +kernel
theorem dL_edit_328 : decode cL_edit 328 = .ok (.bipush 6, 2) := by decide +kernel
theorem dL_edit_330 : decode cL_edit 330 = .ok (.ishr, 1) := by decide +kernel
theorem dL_edit_331 : decode cL_edit 331 = .ok (.iconst 3, 1) := by decide +kernel
theorem dL_edit_332 : decode cL_edit 332 = .ok (.invokestatic 41, 3) := by decide +kernel
theorem dL_edit_335 : decode cL_edit 335 = .ok (.iadd, 1) := by decide +kernel
theorem dL_edit_336 : decode cL_edit 336 = .ok (.iconst 0, 1) := by decide +kernel
theorem dL_edit_337 : decode cL_edit 337 = .ok (.invokevirtual 80, 3) := by decide +kernel
theorem dL_edit_340 : decode cL_edit 340 = .ok (.ireturn, 1) := by decide +kernel
theorem dL_edit_341 : decode cL_edit 341 = .ok (.aload_n 0, 1) := by decide +kernel
theorem dL_edit_342 : decode cL_edit 342 = .ok (.bipush 10, 2) := by decide +kernel
theorem dL_edit_344 : decode cL_edit 344 = .ok (.iconst 1, 1) := by decide +kernel
theorem dL_edit_345 : decode cL_edit 345 = .ok (.iload 4, 2) := by decide +kernel
theorem dL_edit_347 : decode cL_edit 347 = .ok (.invokevirtual 80, 3) := by decide +kernel
theorem dL_edit_350 : decode cL_edit 350 = .ok (.ireturn, 1) := by decide +kernel
theorem dL_edit_351 : decode cL_edit 351 = .ok (.aload_n 0, 1) := by decide +kernel
theorem dL_edit_352 : decode cL_edit 352 = .ok (.iload_n 1, 1) := by decide +kernel
theorem dL_edit_353 : decode cL_edit 353 = .ok (.bipush 7, 2) := by decide +kernel
theorem dL_edit_355 : decode cL_edit 355 = .ok (.ishr, 1) := by decide +kernel
theorem dL_edit_356 : decode cL_edit 356 = .ok (.iload_n 2, 1) := by decide +kernel
theorem dL_edit_357 : decode cL_edit 357 = .ok (.invokestatic 41, 3) := by decide +kernel
theorem dL_edit_360 : decode cL_edit 360 = .ok (.invokevirtual 83, 3) := by decide +kernel
theorem dL_edit_363 : decode cL_edit 363 = .ok (.ireturn, 1) := by decide +kernel
theorem dL_law_0 : decode cL_law 0 = .ok (.new 9, 3) := by decide +kernel
theorem dL_law_3 : decode cL_law 3 = .ok (.dup, 1) := by decide +kernel
theorem dL_law_4 : decode cL_law 4 = .ok (.invokespecial 86, 3) := by decide +kernel
theorem dL_law_7 : decode cL_law 7 = .ok (.astore_n 1, 1) := by decide +kernel
theorem dL_law_8 : decode cL_law 8 = .ok (.aload_n 1, 1) := by decide +kernel
theorem dL_law_9 : decode cL_law 9 = .ok (.iconst 4, 1) := by decide +kernel
theorem dL_law_10 : decode cL_law 10 = .ok (.aload_n 0, 1) := by decide +kernel
theorem dL_law_11 : decode cL_law 11 = .ok (.iconst 0, 1) := by decide +kernel
theorem dL_law_12 : decode cL_law 12 = .ok (.invokestatic 87, 3) := by decide +kernel
theorem dL_law_15 : decode cL_law 15 = .ok (.bipush 6, 2) := by decide +kernel
theorem dL_law_17 : decode cL_law 17 = .ok (.invokestatic 41, 3) := by decide +kernel
theorem dL_law_20 : decode cL_law 20 = .ok (.iadd, 1) := by decide +kernel
theorem dL_law_21 : decode cL_law 21 = .ok (.iconst 4, 1) := by decide +kernel
theorem dL_law_22 : decode cL_law 22 = .ok (.aload_n 0, 1) := by decide +kernel
theorem dL_law_23 : decode cL_law 23 = .ok (.iconst 0, 1) := by decide +kernel
theorem dL_law_24 : decode cL_law 24 = .ok (.invokestatic 87, 3) := by decide +kernel
theorem dL_law_27 : decode cL_law 27 = .ok (.iconst 3, 1) := by decide +kernel
theorem dL_law_28 : decode cL_law 28 = .ok (.ishr, 1) := by decide +kernel
theorem dL_law_29 : decode cL_law 29 = .ok (.bipush 6, 2) := by decide +kernel
theorem dL_law_31 : decode cL_law 31 = .ok (.invokestatic 41, 3) := by decide +kernel
theorem dL_law_34 : decode cL_law 34 = .ok (.iadd, 1) := by decide +kernel
theorem dL_law_35 : decode cL_law 35 = .ok (.invokevirtual 91, 3) := by decide +kernel
theorem dL_law_38 : decode cL_law 38 = .ok (.bipush 16, 2) := by decide +kernel
theorem dL_law_40 : decode cL_law 40 = .ok (.if_icmp .lt 46, 3) := by decide +kernel
theorem dL_law_43 : decode cL_law 43 = .ok (.aload_n 1, 1) := by decide +kernel
theorem dL_law_44 : decode cL_law 44 = .ok (.iconst 2, 1) := by decide +kernel
theorem dL_law_45 : decode cL_law 45 = .ok (.aload_n 0, 1) := by decide +kernel
theorem dL_law_46 : decode cL_law 46 = .ok (.iconst 0, 1) := by decide +kernel
theorem dL_law_47 : decode cL_law 47 = .ok (.invokestatic 87, 3) := by decide +kernel
theorem dL_law_50 : decode cL_law 50 = .ok (.bipush 6, 2) := by decide +kernel
theorem dL_law_52 : decode cL_law 52 = .ok (.ishr, 1) := by decide +kernel
theorem dL_law_53 : decode cL_law 53 = .ok (.iconst 4, 1) := by decide +kernel
theorem dL_law_54 : decode cL_law 54 = .ok (.invokestatic 41, 3) := by decide +kernel
theorem dL_law_57 : decode cL_law 57 = .ok (.iadd, 1) := by decide +kernel
theorem dL_law_58 : decode cL_law 58 = .ok (.invokevirtual 94, 3) := by decide +kernel
theorem dL_law_61 : decode cL_law 61 = .ok (.ifCond .lt 25, 3) := by decide +kernel
theorem dL_law_64 : decode cL_law 64 = .ok (.aload_n 1, 1) := by decide +kernel
theorem dL_law_65 : decode cL_law 65 = .ok (.iconst 1, 1) := by decide +kernel
theorem dL_law_66 : decode cL_law 66 = .ok (.aload_n 0, 1) := by decide +kernel
theorem dL_law_67 : decode cL_law 67 = .ok (.iconst 0, 1) := by decide +kernel
theorem dL_law_68 : decode cL_law 68 = .ok (.invokestatic 87, 3) := by decide +kernel
theorem dL_law_71 : decode cL_law 71 = .ok (.bipush 8, 2) := by decide +kernel
theorem dL_law_73 : decode cL_law 73 = .ok (.ishr, 1) := by decide +kernel
theorem dL_law_74 : decode cL_law 74 = .ok (.bipush 20, 2) := by decide +kernel
theorem dL_law_76 : decode cL_law 76 = .ok (.invokestatic 41, 3) := by decide +kernel
theorem dL_law_79 : decode cL_law 79 = .ok (.iadd, 1) := by decide +kernel
theorem dL_law_80 : decode cL_law 80 = .ok (.invokevirtual 97, 3) := by decide +kernel
theorem dL_law_83 : decode cL_law 83 = .ok (.ifCond .ge 5, 3) := by decide +kernel
theorem dL_law_86 : decode cL_law 86 = .ok (.iconst 0, 1) := by decide +kernel
theorem dL_law_87 : decode cL_law 87 = .ok (.ireturn, 1) := by decide +kernel
theorem dL_law_88 : decode cL_law 88 = .ok (.iconst 1, 1) := by decide +kernel
theorem dL_law_89 : decode cL_law 89 = .ok (.aload_n 0, 1) := by decide +kernel
theorem dL_law_90 : decode cL_law 90 = .ok (.iconst 1, 1) := by decide +kernel
theorem dL_law_91 : decode cL_law 91 = .ok (.invokestatic 87, 3) := by decide +kernel
theorem dL_law_94 : decode cL_law 94 = .ok (.iconst 3, 1) := by decide +kernel
theorem dL_law_95 : decode cL_law 95 = .ok (.invokestatic 41, 3) := by decide +kernel
theorem dL_law_98 : decode cL_law 98 = .ok (.iadd, 1) := by decide +kernel
theorem dL_law_99 : decode cL_law 99 = .ok (.istore_n 2, 1) := by decide +kernel
theorem dL_law_100 : decode cL_law 100 = .ok (.iconst 0, 1) := by decide +kernel
theorem dL_law_101 : decode cL_law 101 = .ok (.istore_n 3, 1) := by decide +kernel
theorem dL_law_102 : decode cL_law 102 = .ok (.iload_n 3, 1) := by decide +kernel
theorem dL_law_103 : decode cL_law 103 = .ok (.iload_n 2, 1) := by decide +kernel
theorem dL_law_104 : decode cL_law 104 = .ok (.if_icmp .ge 103, 3) := by decide +kernel
theorem dL_law_107 : decode cL_law 107 = .ok (.aload_n 0, 1) := by decide +kernel
theorem dL_law_108 : decode cL_law 108 = .ok (.iconst 2, 1) := by decide +kernel
theorem dL_law_109 : decode cL_law 109 = .ok (.iload_n 3, 1) := by decide +kernel
theorem dL_law_110 : decode cL_law 110 = .ok (.iadd, 1) := by decide +kernel
theorem dL_law_111 : decode cL_law 111 = .ok (.invokestatic 87, 3) := by decide +kernel
theorem dL_law_114 : decode cL_law 114 = .ok (.iconst 5, 1) := by decide +kernel
theorem dL_law_115 : decode cL_law 115 = .ok (.invokestatic 41, 3) := by decide +kernel
theorem dL_law_118 : decode cL_law 118 = .ok (.istore 4, 2) := by decide +kernel
theorem dL_law_120 : decode cL_law 120 = .ok (.aload_n 1, 1) := by decide +kernel
theorem dL_law_121 : decode cL_law 121 = .ok (.iload 4, 2) := by decide +kernel
theorem dL_law_123 : decode cL_law 123 = .ok (.ifCond .ne 7, 3) := by decide +kernel
theorem dL_law_126 : decode cL_law 126 = .ok (.iconst 1, 1) := by decide +kernel
theorem dL_law_127 : decode cL_law 127 = .ok (.goto 37, 3) := by decide +kernel
theorem dL_law_130 : decode cL_law 130 = .ok (.iload 4, 2) := by decide +kernel
theorem dL_law_132 : decode cL_law 132 = .ok (.iconst 1, 1) := by decide +kernel
theorem dL_law_133 : decode cL_law 133 = .ok (.if_icmp .ne 8, 3) := by decide +kernel
theorem dL_law_136 : decode cL_law 136 = .ok (.bipush 6, 2) := by decide +kernel
theorem dL_law_138 : decode cL_law 138 = .ok (.goto 26, 3) := by decide +kernel
theorem dL_law_141 : decode cL_law 141 = .ok (.iload 4, 2) := by decide +kernel
theorem dL_law_143 : decode cL_law 143 = .ok (.iconst 2, 1) := by decide +kernel
theorem dL_law_144 : decode cL_law 144 = .ok (.if_icmp .ne 8, 3) := by decide +kernel
theorem dL_law_147 : decode cL_law 147 = .ok (.bipush 13, 2) := by decide +kernel
theorem dL_law_149 : decode cL_law 149 = .ok (.goto 15, 3) := by decide +kernel
theorem dL_law_152 : decode cL_law 152 = .ok (.iload 4, 2) := by decide +kernel
theorem dL_law_154 : decode cL_law 154 = .ok (.iconst 3, 1) := by decide +kernel
theorem dL_law_155 : decode cL_law 155 = .ok (.if_icmp .ne 8, 3) := by decide +kernel
theorem dL_law_158 : decode cL_law 158 = .ok (.bipush 7, 2) := by decide +kernel
theorem dL_law_160 : decode cL_law 160 = .ok (.goto 4, 3) := by decide +kernel
theorem dL_law_163 : decode cL_law 163 = .ok (.iconst 4, 1) := by decide +kernel
theorem dL_law_164 : decode cL_law 164 = .ok (.iload 4, 2) := by decide +kernel
theorem dL_law_166 : decode cL_law 166 = .ok (.ifCond .ne 8, 3) := by decide +kernel
theorem dL_law_169 : decode cL_law 169 = .ok (.bipush 40, 2) := by decide +kernel
theorem dL_law_171 : decode cL_law 171 = .ok (.goto 20, 3) := by decide +kernel
theorem dL_law_174 : decode cL_law 174 = .ok (.iload 4, 2) := by decide +kernel
theorem dL_law_176 : decode cL_law 176 = .ok (.iconst 1, 1) := by decide +kernel
theorem dL_law_177 : decode cL_law 177 = .ok (.if_icmp .eq 9, 3) := by decide +kernel
theorem dL_law_180 : decode cL_law 180 = .ok (.iload 4, 2) := by decide +kernel
theorem dL_law_182 : decode cL_law 182 = .ok (.iconst 3, 1) := by decide +kernel
theorem dL_law_183 : decode cL_law 183 = .ok (.if_icmp .ne 7, 3) := by decide +kernel
theorem dL_law_186 : decode cL_law 186 = .ok (.iconst 1, 1) := by decide +kernel
theorem dL_law_187 : decode cL_law 187 = .ok (.goto 4, 3) := by decide +kernel
theorem dL_law_190 : decode cL_law 190 = .ok (.iconst 0, 1) := by decide +kernel
theorem dL_law_191 : decode cL_law 191 = .ok (.iconst 0, 1) := by decide +kernel
theorem dL_law_192 : decode cL_law 192 = .ok (.invokevirtual 80, 3) := by decide +kernel
theorem dL_law_195 : decode cL_law 195 = .ok (.iload_n 3, 1) := by decide +kernel
theorem dL_law_196 : decode cL_law 196 = .ok (.if_icmp .eq 5, 3) := by decide +kernel
theorem dL_law_199 : decode cL_law 199 = .ok (.iconst 0, 1) := by decide +kernel
theorem dL_law_200 : decode cL_law 200 = .ok (.ireturn, 1) := by decide +kernel
theorem dL_law_201 : decode cL_law 201 = .ok (.iinc 3 1, 3) := by decide +kernel
theorem dL_law_204 : decode cL_law 204 = .ok (.goto (-102), 3) := by decide +kernel
theorem dL_law_207 : decode cL_law 207 = .ok (.aload_n 1, 1) := by decide +kernel
theorem dL_law_208 : decode cL_law 208 = .ok (.iconst 0, 1) := by decide +kernel
theorem dL_law_209 : decode cL_law 209 = .ok (.invokevirtual 100, 3) := by decide +kernel
theorem dL_law_212 : decode cL_law 212 = .ok (.iload_n 2, 1) := by decide +kernel
theorem dL_law_213 : decode cL_law 213 = .ok (.if_icmp .eq 5, 3) := by decide +kernel
theorem dL_law_216 : decode cL_law 216 = .ok (.iconst 0, 1) := by decide +kernel
theorem dL_law_217 : decode cL_law 217 = .ok (.ireturn, 1) := by decide +kernel
theorem dL_law_218 : decode cL_law 218 = .ok (.aload_n 1, 1) := by decide +kernel
theorem dL_law_219 : decode cL_law 219 = .ok (.invokestatic 103, 3) := by decide +kernel
theorem dL_law_222 : decode cL_law 222 = .ok (.lstore_n 3, 1) := by decide +kernel
theorem dL_law_223 : decode cL_law 223 = .ok (.iconst 0, 1) := by decide +kernel
theorem dL_law_224 : decode cL_law 224 = .ok (.istore 5, 2) := by decide +kernel
theorem dL_law_226 : decode cL_law 226 = .ok (.iload 5, 2) := by decide +kernel
theorem dL_law_228 : decode cL_law 228 = .ok (.bipush 8, 2) := by decide +kernel
theorem dL_law_230 : decode cL_law 230 = .ok (.if_icmp .ge 153, 3) := by decide +kernel
theorem dL_law_233 : decode cL_law 233 = .ok (.aload_n 0, 1) := by decide +kernel
theorem dL_law_234 : decode cL_law 234 = .ok (.iconst 5, 1) := by decide +kernel
theorem dL_law_235 : decode cL_law 235 = .ok (.iload 5, 2) := by decide +kernel
theorem dL_law_237 : decode cL_law 237 = .ok (.iadd, 1) := by decide +kernel
theorem dL_law_238 : decode cL_law 238 = .ok (.invokestatic 87, 3) := by decide +kernel
theorem dL_law_241 : decode cL_law 241 = .ok (.istore 6, 2) := by decide +kernel
theorem dL_law_243 : decode cL_law 243 = .ok (.aload_n 1, 1) := by decide +kernel
theorem dL_law_244 : decode cL_law 244 = .ok (.invokestatic 103, 3) := by decide +kernel
theorem dL_law_247 : decode cL_law 247 = .ok (.lstore 7, 2) := by decide +kernel
theorem dL_law_249 : decode cL_law 249 = .ok (.aload_n 1, 1) := by decide +kernel
theorem dL_law_250 : decode cL_law 250 = .ok (.iconst 2, 1) := by decide +kernel
theorem dL_law_251 : decode cL_law 251 = .ok (.invokevirtual 8, 3) := by decide +kernel
theorem dL_law_254 : decode cL_law 254 = .ok (.istore 9, 2) := by decide +kernel
theorem dL_law_256 : decode cL_law 256 = .ok (.aload_n 1, 1) := by decide +kernel
theorem dL_law_257 : decode cL_law 257 = .ok (.iload 6, 2) := by decide +kernel
theorem dL_law_259 : decode cL_law 259 = .ok (.invokestatic 107, 3) := by decide +kernel
theorem dL_law_262 : decode cL_law 262 = .ok (.istore 10, 2) := by decide +kernel
theorem dL_law_264 : decode cL_law 264 = .ok (.iload 10, 2) := by decide +kernel
theorem dL_law_266 : decode cL_law 266 = .ok (.ifCond .ge 13, 3) := by decide +kernel
theorem dL_law_269 : decode cL_law 269 = .ok (.aload_n 1, 1) := by decide +kernel
theorem dL_law_270 : decode cL_law 270 = .ok (.invokestatic 103, 3) := by decide +kernel
theorem dL_law_273 : decode cL_law 273 = .ok (.lload 7, 2) := by decide +kernel
theorem dL_law_275 : decode cL_law 275 = .ok (.lcmp, 1) := by decide +kernel
theorem dL_law_276 : decode cL_law 276 = .ok (.ifCond .ne 30, 3) := by decide +kernel
theorem dL_law_279 : decode cL_law 279 = .ok (.aload_n 1, 1) := by decide +kernel
theorem dL_law_280 : decode cL_law 280 = .ok (.iconst 2, 1) := by decide +kernel
theorem dL_law_281 : decode cL_law 281 = .ok (.invokevirtual 8, 3) := by decide +kernel
theorem dL_law_284 : decode cL_law 284 = .ok (.ifCond .le 24, 3) := by decide +kernel
theorem dL_law_287 : decode cL_law 287 = .ok (.aload_n 1, 1) := by decide +kernel
theorem dL_law_288 : decode cL_law 288 = .ok (.iload 6, 2) := by decide +kernel
theorem dL_law_290 : decode cL_law 290 = .ok (.iconst 2, 1) := by decide +kernel
theorem dL_law_291 : decode cL_law 291 = .ok (.ishr, 1) := by decide +kernel
theorem dL_law_292 : decode cL_law 292 = .ok (.aload_n 1, 1) := by decide +kernel
theorem dL_law_293 : decode cL_law 293 = .ok (.iconst 2, 1) := by decide +kernel
theorem dL_law_294 : decode cL_law 294 = .ok (.invokevirtual 8, 3) := by decide +kernel
theorem dL_law_297 : decode cL_law 297 = .ok (.invokestatic 41, 3) := by decide +kernel
theorem dL_law_300 : decode cL_law 300 = .ok (.invokestatic 111, 3) := by decide +kernel
theorem dL_law_303 : decode cL_law 303 = .ok (.ifCond .ne 5, 3) := by decide +kernel
theorem dL_law_306 : decode cL_law 306 = .ok (.iconst 0, 1) := by decide +kernel
theorem dL_law_307 : decode cL_law 307 = .ok (.ireturn, 1) := by decide +kernel
theorem dL_law_308 : decode cL_law 308 = .ok (.iload 10, 2) := by decide +kernel
theorem dL_law_310 : decode cL_law 310 = .ok (.ifCond .lt 67, 3) := by decide +kernel
theorem dL_law_313 : decode cL_law 313 = .ok (.iload 5, 2) := by decide +kernel
theorem dL_law_315 : decode cL_law 315 = .ok (.iconst 1, 1) := by decide +kernel
theorem dL_law_316 : decode cL_law 316 = .ok (.iand, 1) := by decide +kernel
theorem dL_law_317 : decode cL_law 317 = .ok (.iconst 1, 1) := by decide +kernel
theorem dL_law_318 : decode cL_law 318 = .ok (.if_icmp .ne 59, 3) := by decide +kernel
theorem dL_law_321 : decode cL_law 321 = .ok (.aload_n 1, 1) := by decide +kernel
theorem dL_law_322 : decode cL_law 322 = .ok (.invokestatic 103, 3) := by decide +kernel
theorem dL_law_325 : decode cL_law 325 = .ok (.lstore 11, 2) := by decide +kernel
theorem dL_law_327 : decode cL_law 327 = .ok (.aload_n 1, 1) := by decide +kernel
theorem dL_law_328 : decode cL_law 328 = .ok (.invokevirtual 115, 3) := by decide +kernel
theorem dL_law_331 : decode cL_law 331 = .ok (.ifCond .lt 23, 3) := by decide +kernel
theorem dL_law_334 : decode cL_law 334 = .ok (.aload_n 1, 1) := by decide +kernel
theorem dL_law_335 : decode cL_law 335 = .ok (.invokestatic 103, 3) := by decide +kernel
theorem dL_law_338 : decode cL_law 338 = .ok (.lload 7, 2) := by decide +kernel
theorem dL_law_340 : decode cL_law 340 = .ok (.lcmp, 1) := by decide +kernel
theorem dL_law_341 : decode cL_law 341 = .ok (.ifCond .ne 13, 3) := by decide +kernel
theorem dL_law_344 : decode cL_law 344 = .ok (.aload_n 1, 1) := by decide +kernel
theorem dL_law_345 : decode cL_law 345 = .ok (.iconst 2, 1) := by decide +kernel
theorem dL_law_346 : decode cL_law 346 = .ok (.invokevirtual 8, 3) := by decide +kernel
theorem dL_law_349 : decode cL_law 349 = .ok (.iload 9, 2) := by decide +kernel
theorem dL_law_351 : decode cL_law 351 = .ok (.if_icmp .eq 5, 3) := by decide +kernel
theorem dL_law_354 : decode cL_law 354 = .ok (.iconst 0, 1) := by decide +kernel
theorem dL_law_355 : decode cL_law 355 = .ok (.ireturn, 1) := by decide +kernel
theorem dL_law_356 : decode cL_law 356 = .ok (.aload_n 1, 1) := by decide +kernel
theorem dL_law_357 : decode cL_law 357 = .ok (.iload 6, 2) := by decide +kernel
theorem dL_law_359 : decode cL_law 359 = .ok (.invokestatic 107, 3) := by decide +kernel
theorem dL_law_362 : decode cL_law 362 = .ok (.ifCond .lt 13, 3) := by decide +kernel
theorem dL_law_365 : decode cL_law 365 = .ok (.aload_n 1, 1) := by decide +kernel
theorem dL_law_366 : decode cL_law 366 = .ok (.invokestatic 103, 3) := by decide +kernel
theorem dL_law_369 : decode cL_law 369 = .ok (.lload 11, 2) := by decide +kernel
theorem dL_law_371 : decode cL_law 371 = .ok (.lcmp, 1) := by decide +kernel
theorem dL_law_372 : decode cL_law 372 = .ok (.ifCond .eq 5, 3) := by decide +kernel
theorem dL_law_375 : decode cL_law 375 = .ok (.iconst 0, 1) := by decide +kernel
theorem dL_law_376 : decode cL_law 376 = .ok (.ireturn, 1) := by decide +kernel
theorem dL_law_377 : decode cL_law 377 = .ok (.iinc 5 1, 3) := by decide +kernel
theorem dL_law_380 : decode cL_law 380 = .ok (.goto (-154), 3) := by decide +kernel
theorem dL_law_383 : decode cL_law 383 = .ok (.aload_n 1, 1) := by decide +kernel
theorem dL_law_384 : decode cL_law 384 = .ok (.iconst 2, 1) := by decide +kernel
theorem dL_law_385 : decode cL_law 385 = .ok (.invokevirtual 8, 3) := by decide +kernel
theorem dL_law_388 : decode cL_law 388 = .ok (.iconst 1, 1) := by decide +kernel
theorem dL_law_389 : decode cL_law 389 = .ok (.isub, 1) := by decide +kernel
theorem dL_law_390 : decode cL_law 390 = .ok (.istore 5, 2) := by decide +kernel
theorem dL_law_392 : decode cL_law 392 = .ok (.iconst 0, 1) := by decide +kernel
theorem dL_law_393 : decode cL_law 393 = .ok (.istore 6, 2) := by decide +kernel
theorem dL_law_395 : decode cL_law 395 = .ok (.iload 6, 2) := by decide +kernel
theorem dL_law_397 : decode cL_law 397 = .ok (.iload 5, 2) := by decide +kernel
theorem dL_law_399 : decode cL_law 399 = .ok (.if_icmp .gt 70, 3) := by decide +kernel
theorem dL_law_402 : decode cL_law 402 = .ok (.aload_n 1, 1) := by decide +kernel
theorem dL_law_403 : decode cL_law 403 = .ok (.invokevirtual 119, 3) := by decide +kernel
theorem dL_law_406 : decode cL_law 406 = .ok (.istore 7, 2) := by decide +kernel
theorem dL_law_408 : decode cL_law 408 = .ok (.aload_n 1, 1) := by decide +kernel
theorem dL_law_409 : decode cL_law 409 = .ok (.iload 6, 2) := by decide +kernel
theorem dL_law_411 : decode cL_law 411 = .ok (.invokevirtual 122, 3) := by decide +kernel
theorem dL_law_414 : decode cL_law 414 = .ok (.aload_n 1, 1) := by decide +kernel
theorem dL_law_415 : decode cL_law 415 = .ok (.iload 7, 2) := by decide +kernel
theorem dL_law_417 : decode cL_law 417 = .ok (.invokevirtual 122, 3) := by decide +kernel
theorem dL_law_420 : decode cL_law 420 = .ok (.if_icmp .gt 41, 3) := by decide +kernel
theorem dL_law_423 : decode cL_law 423 = .ok (.aload_n 1, 1) := by decide +kernel
theorem dL_law_424 : decode cL_law 424 = .ok (.iload 6, 2) := by decide +kernel
theorem dL_law_426 : decode cL_law 426 = .ok (.iconst 5, 1) := by decide +kernel
theorem dL_law_427 : decode cL_law 427 = .ok (.invokevirtual 23, 3) := by decide +kernel
theorem dL_law_430 : decode cL_law 430 = .ok (.ifCond .ne 12, 3) := by decide +kernel
theorem dL_law_433 : decode cL_law 433 = .ok (.aload_n 1, 1) := by decide +kernel
theorem dL_law_434 : decode cL_law 434 = .ok (.iload 6, 2) := by decide +kernel
theorem dL_law_436 : decode cL_law 436 = .ok (.invokevirtual 122, 3) := by decide +kernel
theorem dL_law_439 : decode cL_law 439 = .ok (.ifCond .ne 22, 3) := by decide +kernel
theorem dL_law_442 : decode cL_law 442 = .ok (.aload_n 1, 1) := by decide +kernel
theorem dL_law_443 : decode cL_law 443 = .ok (.iload 6, 2) := by decide +kernel
theorem dL_law_445 : decode cL_law 445 = .ok (.iconst 4, 1) := by decide +kernel
theorem dL_law_446 : decode cL_law 446 = .ok (.invokevirtual 23, 3) := by decide +kernel
theorem dL_law_449 : decode cL_law 449 = .ok (.ifCond .ne 14, 3) := by decide +kernel
theorem dL_law_452 : decode cL_law 452 = .ok (.aload_n 1, 1) := by decide +kernel
theorem dL_law_453 : decode cL_law 453 = .ok (.iload 6, 2) := by decide +kernel
theorem dL_law_455 : decode cL_law 455 = .ok (.invokevirtual 122, 3) := by decide +kernel
theorem dL_law_458 : decode cL_law 458 = .ok (.ifCond .eq 5, 3) := by decide +kernel
theorem dL_law_461 : decode cL_law 461 = .ok (.iconst 0, 1) := by decide +kernel
theorem dL_law_462 : decode cL_law 462 = .ok (.ireturn, 1) := by decide +kernel
theorem dL_law_463 : decode cL_law 463 = .ok (.iinc 6 1, 3) := by decide +kernel
theorem dL_law_466 : decode cL_law 466 = .ok (.goto (-71), 3) := by decide +kernel
theorem dL_law_469 : decode cL_law 469 = .ok (.iload 5, 2) := by decide +kernel
theorem dL_law_471 : decode cL_law 471 = .ok (.ifCond .lt 48, 3) := by decide +kernel
theorem dL_law_474 : decode cL_law 474 = .ok (.aload_n 1, 1) := by decide +kernel
theorem dL_law_475 : decode cL_law 475 = .ok (.iconst 2, 1) := by decide +kernel
theorem dL_law_476 : decode cL_law 476 = .ok (.invokevirtual 8, 3) := by decide +kernel
theorem dL_law_479 : decode cL_law 479 = .ok (.bipush 8, 2) := by decide +kernel
theorem dL_law_481 : decode cL_law 481 = .ok (.if_icmp .ge 38, 3) := by decide +kernel
theorem dL_law_484 : decode cL_law 484 = .ok (.aload_n 1, 1) := by decide +kernel
theorem dL_law_485 : decode cL_law 485 = .ok (.iload 5, 2) := by decide +kernel
theorem dL_law_487 : decode cL_law 487 = .ok (.invokevirtual 74, 3) := by decide +kernel
theorem dL_law_490 : decode cL_law 490 = .ok (.istore 6, 2) := by decide +kernel
theorem dL_law_492 : decode cL_law 492 = .ok (.iload 6, 2) := by decide +kernel
theorem dL_law_494 : decode cL_law 494 = .ok (.iload 5, 2) := by decide +kernel
theorem dL_law_496 : decode cL_law 496 = .ok (.iconst 1, 1) := by decide +kernel
theorem dL_law_497 : decode cL_law 497 = .ok (.iadd, 1) := by decide +kernel
theorem dL_law_498 : decode cL_law 498 = .ok (.if_icmp .ne 19, 3) := by decide +kernel
theorem dL_law_501 : decode cL_law 501 = .ok (.aload_n 1, 1) := by decide +kernel
theorem dL_law_502 : decode cL_law 502 = .ok (.iload 5, 2) := by decide +kernel
theorem dL_law_504 : decode cL_law 504 = .ok (.invokevirtual 125, 3) := by decide +kernel
theorem dL_law_507 : decode cL_law 507 = .ok (.ifCond .ne 10, 3) := by decide +kernel
theorem dL_law_510 : decode cL_law 510 = .ok (.aload_n 1, 1) := by decide +kernel
theorem dL_law_511 : decode cL_law 511 = .ok (.invokevirtual 115, 3) := by decide +kernel
theorem dL_law_514 : decode cL_law 514 = .ok (.ifCond .ge 5, 3) := by decide +kernel
theorem dL_law_517 : decode cL_law 517 = .ok (.iconst 0, 1) := by decide +kernel
theorem dL_law_518 : decode cL_law 518 = .ok (.ireturn, 1) := by decide +kernel
theorem dL_law_519 : decode cL_law 519 = .ok (.iload 5, 2) := by decide +kernel
theorem dL_law_521 : decode cL_law 521 = .ok (.ifCond .lt 30, 3) := by decide +kernel
theorem dL_law_524 : decode cL_law 524 = .ok (.aload_n 1, 1) := by decide +kernel
theorem dL_law_525 : decode cL_law 525 = .ok (.bipush 64, 2) := by decide +kernel
theorem dL_law_527 : decode cL_law 527 = .ok (.invokevirtual 97, 3) := by decide +kernel
theorem dL_law_530 : decode cL_law 530 = .ok (.ifCond .lt 19, 3) := by decide +kernel
theorem dL_law_533 : decode cL_law 533 = .ok (.aload_n 1, 1) := by decide +kernel
theorem dL_law_534 : decode cL_law 534 = .ok (.invokevirtual 128, 3) := by decide +kernel
theorem dL_law_537 : decode cL_law 537 = .ok (.ifCond .lt 12, 3) := by decide +kernel
theorem dL_law_540 : decode cL_law 540 = .ok (.aload_n 1, 1) := by decide +kernel
theorem dL_law_541 : decode cL_law 541 = .ok (.iload 5, 2) := by decide +kernel
theorem dL_law_543 : decode cL_law 543 = .ok (.invokevirtual 131, 3) := by decide +kernel
theorem dL_law_546 : decode cL_law 546 = .ok (.ifCond .ge 5, 3) := by decide +kernel
theorem dL_law_549 : decode cL_law 549 = .ok (.iconst 0, 1) := by decide +kernel
theorem dL_law_550 : decode cL_law 550 = .ok (.ireturn, 1) := by decide +kernel
theorem dL_law_551 : decode cL_law 551 = .ok (.iload 5, 2) := by decide +kernel
theorem dL_law_553 : decode cL_law 553 = .ok (.ifCond .ne 24, 3) := by decide +kernel
theorem dL_law_556 : decode cL_law 556 = .ok (.aload_n 1, 1) := by decide +kernel
theorem dL_law_557 : decode cL_law 557 = .ok (.iconst 4, 1) := by decide +kernel
theorem dL_law_558 : decode cL_law 558 = .ok (.invokevirtual 8, 3) := by decide +kernel
theorem dL_law_561 : decode cL_law 561 = .ok (.bipush 64, 2) := by decide +kernel
theorem dL_law_563 : decode cL_law 563 = .ok (.if_icmp .gt 14, 3) := by decide +kernel
theorem dL_law_566 : decode cL_law 566 = .ok (.aload_n 1, 1) := by decide +kernel
theorem dL_law_567 : decode cL_law 567 = .ok (.iload 5, 2) := by decide +kernel
theorem dL_law_569 : decode cL_law 569 = .ok (.invokevirtual 131, 3) := by decide +kernel
theorem dL_law_572 : decode cL_law 572 = .ok (.ifCond .eq 5, 3) := by decide +kernel
theorem dL_law_575 : decode cL_law 575 = .ok (.iconst 0, 1) := by decide +kernel
theorem dL_law_576 : decode cL_law 576 = .ok (.ireturn, 1) := by decide +kernel
theorem dL_law_577 : decode cL_law 577 = .ok (.aload_n 1, 1) := by decide +kernel
theorem dL_law_578 : decode cL_law 578 = .ok (.invokestatic 103, 3) := by decide +kernel
theorem dL_law_581 : decode cL_law 581 = .ok (.lstore 6, 2) := by decide +kernel
theorem dL_law_583 : decode cL_law 583 = .ok (.aload_n 1, 1) := by decide +kernel
theorem dL_law_584 : decode cL_law 584 = .ok (.iconst (-1), 1) := by decide +kernel
theorem dL_law_585 : decode cL_law 585 = .ok (.iconst 0, 1) := by decide +kernel
theorem dL_law_586 : decode cL_law 586 = .ok (.iconst 0, 1) := by decide +kernel
theorem dL_law_587 : decode cL_law 587 = .ok (.invokevirtual 44, 3) := by decide +kernel
theorem dL_law_590 : decode cL_law 590 = .ok (.sipush (-1001), 3) := by decide +kernel
theorem dL_law_593 : decode cL_law 593 = .ok (.if_icmp .ne 87, 3) := by decide +kernel
theorem dL_law_596 : decode cL_law 596 = .ok (.aload_n 1, 1) := by decide +kernel
theorem dL_law_597 : decode cL_law 597 = .ok (.bipush 6, 2) := by decide +kernel
theorem dL_law_599 : decode cL_law 599 = .ok (.iconst 4, 1) := by decide +kernel
theorem dL_law_600 : decode cL_law 600 = .ok (.iconst 0, 1) := by decide +kernel
theorem dL_law_601 : decode cL_law 601 = .ok (.invokevirtual 80, 3) := by decide +kernel
theorem dL_law_604 : decode cL_law 604 = .ok (.sipush (-1001), 3) := by decide +kernel
theorem dL_law_607 : decode cL_law 607 = .ok (.if_icmp .ne 73, 3) := by decide +kernel
theorem dL_law_610 : decode cL_law 610 = .ok (.aload_n 1, 1) := by decide +kernel
theorem dL_law_611 : decode cL_law 611 = .ok (.bipush 8, 2) := by decide +kernel
theorem dL_law_613 : decode cL_law 613 = .ok (.iconst 0, 1) := by decide +kernel
theorem dL_law_614 : decode cL_law 614 = .ok (.iconst 0, 1) := by decide +kernel
theorem dL_law_615 : decode cL_law 615 = .ok (.iconst 0, 1) := by decide +kernel
theorem dL_law_616 : decode cL_law 616 = .ok (.invokevirtual 64, 3) := by decide +kernel
theorem dL_law_619 : decode cL_law 619 = .ok (.sipush (-1001), 3) := by decide +kernel
theorem dL_law_622 : decode cL_law 622 = .ok (.if_icmp .ne 58, 3) := by decide +kernel
theorem dL_law_625 : decode cL_law 625 = .ok (.aload_n 1, 1) := by decide +kernel
theorem dL_law_626 : decode cL_law 626 = .ok (.iconst 3, 1) := by decide +kernel
theorem dL_law_627 : decode cL_law 627 = .ok (.iconst 4, 1) := by decide +kernel
theorem dL_law_628 : decode cL_law 628 = .ok (.invokevirtual 91, 3) := by decide +kernel
theorem dL_law_631 : decode cL_law 631 = .ok (.sipush (-1001), 3) := by decide +kernel
theorem dL_law_634 : decode cL_law 634 = .ok (.if_icmp .ne 46, 3) := by decide +kernel
theorem dL_law_637 : decode cL_law 637 = .ok (.aload_n 1, 1) := by decide +kernel
theorem dL_law_638 : decode cL_law 638 = .ok (.iconst 2, 1) := by decide +kernel
theorem dL_law_639 : decode cL_law 639 = .ok (.invokevirtual 134, 3) := by decide +kernel
theorem dL_law_642 : decode cL_law 642 = .ok (.sipush (-1001), 3) := by decide +kernel
theorem dL_law_645 : decode cL_law 645 = .ok (.if_icmp .ne 35, 3) := by decide +kernel
theorem dL_law_648 : decode cL_law 648 = .ok (.aload_n 1, 1) := by decide +kernel
theorem dL_law_649 : decode cL_law 649 = .ok (.iconst 1, 1) := by decide +kernel
theorem dL_law_650 : decode cL_law 650 = .ok (.invokevirtual 134, 3) := by decide +kernel
theorem dL_law_653 : decode cL_law 653 = .ok (.sipush (-1002), 3) := by decide +kernel
theorem dL_law_656 : decode cL_law 656 = .ok (.if_icmp .ne 24, 3) := by decide +kernel
theorem dL_law_659 : decode cL_law 659 = .ok (.aload_n 1, 1) := by decide +kernel
theorem dL_law_660 : decode cL_law 660 = .ok (.iconst 1, 1) := by decide +kernel
theorem dL_law_661 : decode cL_law 661 = .ok (.invokevirtual 94, 3) := by decide +kernel
theorem dL_law_664 : decode cL_law 664 = .ok (.sipush (-1001), 3) := by decide +kernel
theorem dL_law_667 : decode cL_law 667 = .ok (.if_icmp .ne 13, 3) := by decide +kernel
theorem dL_law_670 : decode cL_law 670 = .ok (.aload_n 1, 1) := by decide +kernel
theorem dL_law_671 : decode cL_law 671 = .ok (.invokestatic 103, 3) := by decide +kernel
theorem dL_law_674 : decode cL_law 674 = .ok (.lload 6, 2) := by decide +kernel
theorem dL_law_676 : decode cL_law 676 = .ok (.lcmp, 1) := by decide +kernel
theorem dL_law_677 : decode cL_law 677 = .ok (.ifCond .eq 5, 3) := by decide +kernel
theorem dL_law_680 : decode cL_law 680 = .ok (.iconst 0, 1) := by decide +kernel
theorem dL_law_681 : decode cL_law 681 = .ok (.ireturn, 1) := by decide +kernel
theorem dL_law_682 : decode cL_law 682 = .ok (.aload_n 1, 1) := by decide +kernel
theorem dL_law_683 : decode cL_law 683 = .ok (.iconst 0, 1) := by decide +kernel
theorem dL_law_684 : decode cL_law 684 = .ok (.invokevirtual 134, 3) := by decide +kernel
theorem dL_law_687 : decode cL_law 687 = .ok (.iload_n 2, 1) := by decide +kernel
theorem dL_law_688 : decode cL_law 688 = .ok (.if_icmp .ne 34, 3) := by decide +kernel
theorem dL_law_691 : decode cL_law 691 = .ok (.aload_n 1, 1) := by decide +kernel
theorem dL_law_692 : decode cL_law 692 = .ok (.invokestatic 103, 3) := by decide +kernel
theorem dL_law_695 : decode cL_law 695 = .ok (.lload_n 3, 1) := by decide +kernel
theorem dL_law_696 : decode cL_law 696 = .ok (.lcmp, 1) := by decide +kernel
theorem dL_law_697 : decode cL_law 697 = .ok (.ifCond .ne 25, 3) := by decide +kernel
theorem dL_law_700 : decode cL_law 700 = .ok (.aload_n 1, 1) := by decide +kernel
theorem dL_law_701 : decode cL_law 701 = .ok (.invokevirtual 115, 3) := by decide +kernel
theorem dL_law_704 : decode cL_law 704 = .ok (.sipush (-1002), 3) := by decide +kernel
theorem dL_law_707 : decode cL_law 707 = .ok (.if_icmp .ne 15, 3) := by decide +kernel
theorem dL_law_710 : decode cL_law 710 = .ok (.aload_n 1, 1) := by decide +kernel
theorem dL_law_711 : decode cL_law 711 = .ok (.iconst 0, 1) := by decide +kernel
theorem dL_law_712 : decode cL_law 712 = .ok (.invokevirtual 137, 3) := by decide +kernel
theorem dL_law_715 : decode cL_law 715 = .ok (.ifCond .ne 7, 3) := by decide +kernel
theorem dL_law_718 : decode cL_law 718 = .ok (.iconst 1, 1) := by decide +kernel
theorem dL_law_719 : decode cL_law 719 = .ok (.goto 4, 3) := by decide +kernel
theorem dL_law_722 : decode cL_law 722 = .ok (.iconst 0, 1) := by decide +kernel
theorem dL_law_723 : decode cL_law 723 = .ok (.ireturn, 1) := by decide +kernel
