theorem dX0_init_0 : decode cX0_init 0 = .ok (.aload_n 0, 1) := by decide +kernel
theorem dX0_init_1 : decode cX0_init 1 = .ok (.invokespecial 3, 3) := by decide +kernel
theorem dX0_init_4 : decode cX0_init 4 = .ok (.aload_n 0, 1) := by decide +kernel
theorem dX0_init_5 : decode cX0_init 5 = .ok (.new 9, 3) := by decide +kernel
theorem dX0_init_8 : decode cX0_init 8 = .ok (.dup, 1) := by decide +kernel
theorem dX0_init_9 : decode cX0_init 9 = .ok (.invokespecial 11, 3) := by decide +kernel
theorem dX0_init_12 : decode cX0_init 12 = .ok (.putfield 12, 3) := by decide +kernel
theorem dX0_init_15 : decode cX0_init 15 = .ok (.aload_n 0, 1) := by decide +kernel
theorem dX0_init_16 : decode cX0_init 16 = .ok (.bipush 8, 2) := by decide +kernel
theorem dX0_init_18 : decode cX0_init 18 = .ok (.anewarray 18, 3) := by decide +kernel
theorem dX0_init_21 : decode cX0_init 21 = .ok (.putfield 20, 3) := by decide +kernel
theorem dX0_init_24 : decode cX0_init 24 = .ok (.iconst 0, 1) := by decide +kernel
theorem dX0_init_25 : decode cX0_init 25 = .ok (.istore_n 1, 1) := by decide +kernel
theorem dX0_init_26 : decode cX0_init 26 = .ok (.iload_n 1, 1) := by decide +kernel
theorem dX0_init_27 : decode cX0_init 27 = .ok (.aload_n 0, 1) := by decide +kernel
theorem dX0_init_28 : decode cX0_init 28 = .ok (.getfield 20, 3) := by decide +kernel
theorem dX0_init_31 : decode cX0_init 31 = .ok (.arraylength, 1) := by decide +kernel
theorem dX0_init_32 : decode cX0_init 32 = .ok (.if_icmp .ge 22, 3) := by decide +kernel
theorem dX0_init_35 : decode cX0_init 35 = .ok (.aload_n 0, 1) := by decide +kernel
theorem dX0_init_36 : decode cX0_init 36 = .ok (.getfield 20, 3) := by decide +kernel
theorem dX0_init_39 : decode cX0_init 39 = .ok (.iload_n 1, 1) := by decide +kernel
theorem dX0_init_40 : decode cX0_init 40 = .ok (.new 18, 3) := by decide +kernel
theorem dX0_init_43 : decode cX0_init 43 = .ok (.dup, 1) := by decide +kernel
theorem dX0_init_44 : decode cX0_init 44 = .ok (.invokespecial 24, 3) := by decide +kernel
theorem dX0_init_47 : decode cX0_init 47 = .ok (.aastore, 1) := by decide +kernel
theorem dX0_init_48 : decode cX0_init 48 = .ok (.iinc 1 1, 3) := by decide +kernel
theorem dX0_init_51 : decode cX0_init 51 = .ok (.goto (-25), 3) := by decide +kernel
theorem dX0_init_54 : decode cX0_init 54 = .ok (.return_, 1) := by decide +kernel
theorem dX0_layerCount_0 : decode cX0_layerCount 0 = .ok (.aload_n 0, 1) := by decide +kernel
theorem dX0_layerCount_1 : decode cX0_layerCount 1 = .ok (.getfield 25, 3) := by decide +kernel
theorem dX0_layerCount_4 : decode cX0_layerCount 4 = .ok (.ireturn, 1) := by decide +kernel
theorem dX0_isFull_0 : decode cX0_isFull 0 = .ok (.aload_n 0, 1) := by decide +kernel
theorem dX0_isFull_1 : decode cX0_isFull 1 = .ok (.getfield 25, 3) := by decide +kernel
theorem dX0_isFull_4 : decode cX0_isFull 4 = .ok (.aload_n 0, 1) := by decide +kernel
theorem dX0_isFull_5 : decode cX0_isFull 5 = .ok (.getfield 20, 3) := by decide +kernel
theorem dX0_isFull_8 : decode cX0_isFull 8 = .ok (.arraylength, 1) := by decide +kernel
theorem dX0_isFull_9 : decode cX0_isFull 9 = .ok (.if_icmp .lt 7, 3) := by decide +kernel
theorem dX0_isFull_12 : decode cX0_isFull 12 = .ok (.iconst 1, 1) := by decide +kernel
theorem dX0_isFull_13 : decode cX0_isFull 13 = .ok (.goto 4, 3) := by decide +kernel
theorem dX0_isFull_16 : decode cX0_isFull 16 = .ok (.iconst 0, 1) := by decide +kernel
theorem dX0_isFull_17 : decode cX0_isFull 17 = .ok (.ireturn, 1) := by decide +kernel
theorem dX0_layerAt_0 : decode cX0_layerAt 0 = .ok (.iload_n 1, 1) := by decide +kernel
theorem dX0_layerAt_1 : decode cX0_layerAt 1 = .ok (.ifCond .lt 29, 3) := by decide +kernel
theorem dX0_layerAt_4 : decode cX0_layerAt 4 = .ok (.iload_n 1, 1) := by decide +kernel
theorem dX0_layerAt_5 : decode cX0_layerAt 5 = .ok (.aload_n 0, 1) := by decide +kernel
theorem dX0_layerAt_6 : decode cX0_layerAt 6 = .ok (.getfield 25, 3) := by decide +kernel
theorem dX0_layerAt_9 : decode cX0_layerAt 9 = .ok (.if_icmp .ge 21, 3) := by decide +kernel
theorem dX0_layerAt_12 : decode cX0_layerAt 12 = .ok (.iload_n 1, 1) := by decide +kernel
theorem dX0_layerAt_13 : decode cX0_layerAt 13 = .ok (.aload_n 0, 1) := by decide +kernel
theorem dX0_layerAt_14 : decode cX0_layerAt 14 = .ok (.getfield 20, 3) := by decide +kernel
theorem dX0_layerAt_17 : decode cX0_layerAt 17 = .ok (.arraylength, 1) := by decide +kernel
theorem dX0_layerAt_18 : decode cX0_layerAt 18 = .ok (.if_icmp .ge 12, 3) := by decide +kernel
theorem dX0_layerAt_21 : decode cX0_layerAt 21 = .ok (.aload_n 0, 1) := by decide +kernel
theorem dX0_layerAt_22 : decode cX0_layerAt 22 = .ok (.getfield 20, 3) := by decide +kernel
theorem dX0_layerAt_25 : decode cX0_layerAt 25 = .ok (.iload_n 1, 1) := by decide +kernel
theorem dX0_layerAt_26 : decode cX0_layerAt 26 = .ok (.aaload, 1) := by decide +kernel
theorem dX0_layerAt_27 : decode cX0_layerAt 27 = .ok (.goto 4, 3) := by decide +kernel
theorem dX0_layerAt_30 : decode cX0_layerAt 30 = .ok (.aconst_null, 1) := by decide +kernel
theorem dX0_layerAt_31 : decode cX0_layerAt 31 = .ok (.areturn, 1) := by decide +kernel
theorem dX0_enabledCount_0 : decode cX0_enabledCount 0 = .ok (.iconst 0, 1) := by decide +kernel
theorem dX0_enabledCount_1 : decode cX0_enabledCount 1 = .ok (.istore_n 1, 1) := by decide +kernel
theorem dX0_enabledCount_2 : decode cX0_enabledCount 2 = .ok (.iconst 0, 1) := by decide +kernel
theorem dX0_enabledCount_3 : decode cX0_enabledCount 3 = .ok (.istore_n 2, 1) := by decide +kernel
theorem dX0_enabledCount_4 : decode cX0_enabledCount 4 = .ok (.iload_n 2, 1) := by decide +kernel
theorem dX0_enabledCount_5 : decode cX0_enabledCount 5 = .ok (.aload_n 0, 1) := by decide +kernel
theorem dX0_enabledCount_6 : decode cX0_enabledCount 6 = .ok (.getfield 25, 3) := by decide +kernel
theorem dX0_enabledCount_9 : decode cX0_enabledCount 9 = .ok (.if_icmp .ge 29, 3) := by decide +kernel
theorem dX0_enabledCount_12 : decode cX0_enabledCount 12 = .ok (.aload_n 0, 1) := by decide +kernel
theorem dX0_enabledCount_13 : decode cX0_enabledCount 13 = .ok (.iload_n 2, 1) := by decide +kernel
theorem dX0_enabledCount_14 : decode cX0_enabledCount 14 = .ok (.invokevirtual 29, 3) := by decide +kernel
theorem dX0_enabledCount_17 : decode cX0_enabledCount 17 = .ok (.astore_n 3, 1) := by decide +kernel
theorem dX0_enabledCount_18 : decode cX0_enabledCount 18 = .ok (.aload_n 3, 1) := by decide +kernel
theorem dX0_enabledCount_19 : decode cX0_enabledCount 19 = .ok (.ifnull 13, 3) := by decide +kernel
theorem dX0_enabledCount_22 : decode cX0_enabledCount 22 = .ok (.aload_n 3, 1) := by decide +kernel
theorem dX0_enabledCount_23 : decode cX0_enabledCount 23 = .ok (.getfield 33, 3) := by decide +kernel
theorem dX0_enabledCount_26 : decode cX0_enabledCount 26 = .ok (.ifCond .eq 6, 3) := by decide +kernel
theorem dX0_enabledCount_29 : decode cX0_enabledCount 29 = .ok (.iinc 1 1, 3) := by decide +kernel
theorem dX0_enabledCount_32 : decode cX0_enabledCount 32 = .ok (.iinc 2 1, 3) := by decide +kernel
theorem dX0_enabledCount_35 : decode cX0_enabledCount 35 = .ok (.goto (-31), 3) := by decide +kernel
theorem dX0_enabledCount_38 : decode cX0_enabledCount 38 = .ok (.iload_n 1, 1) := by decide +kernel
theorem dX0_enabledCount_39 : decode cX0_enabledCount 39 = .ok (.ireturn, 1) := by decide +kernel
theorem dX0_enabledAtMost_0 : decode cX0_enabledAtMost 0 = .ok (.iload_n 1, 1) := by decide +kernel
theorem dX0_enabledAtMost_1 : decode cX0_enabledAtMost 1 = .ok (.istore_n 2, 1) := by decide +kernel
theorem dX0_enabledAtMost_2 : decode cX0_enabledAtMost 2 = .ok (.iload_n 2, 1) := by decide +kernel
theorem dX0_enabledAtMost_3 : decode cX0_enabledAtMost 3 = .ok (.ifCond .lt 28, 3) := by decide +kernel
theorem dX0_enabledAtMost_6 : decode cX0_enabledAtMost 6 = .ok (.aload_n 0, 1) := by decide +kernel
theorem dX0_enabledAtMost_7 : decode cX0_enabledAtMost 7 = .ok (.iload_n 2, 1) := by decide +kernel
theorem dX0_enabledAtMost_8 : decode cX0_enabledAtMost 8 = .ok (.invokevirtual 29, 3) := by decide +kernel
theorem dX0_enabledAtMost_11 : decode cX0_enabledAtMost 11 = .ok (.astore_n 3, 1) := by decide +kernel
theorem dX0_enabledAtMost_12 : decode cX0_enabledAtMost 12 = .ok (.aload_n 3, 1) := by decide +kernel
theorem dX0_enabledAtMost_13 : decode cX0_enabledAtMost 13 = .ok (.ifnull 12, 3) := by decide +kernel
theorem dX0_enabledAtMost_16 : decode cX0_enabledAtMost 16 = .ok (.aload_n 3, 1) := by decide +kernel
theorem dX0_enabledAtMost_17 : decode cX0_enabledAtMost 17 = .ok (.getfield 33, 3) := by decide +kernel
theorem dX0_enabledAtMost_20 : decode cX0_enabledAtMost 20 = .ok (.ifCond .eq 5, 3) := by decide +kernel
theorem dX0_enabledAtMost_23 : decode cX0_enabledAtMost 23 = .ok (.iload_n 2, 1) := by decide +kernel
theorem dX0_enabledAtMost_24 : decode cX0_enabledAtMost 24 = .ok (.ireturn, 1) := by decide +kernel
theorem dX0_enabledAtMost_25 : decode cX0_enabledAtMost 25 = .ok (.iinc 2 (-1), 3) := by decide +kernel
theorem dX0_enabledAtMost_28 : decode cX0_enabledAtMost 28 = .ok (.goto (-26), 3) := by decide +kernel
theorem dX0_enabledAtMost_31 : decode cX0_enabledAtMost 31 = .ok (.iconst (-1), 1) := by decide +kernel
theorem dX0_enabledAtMost_32 : decode cX0_enabledAtMost 32 = .ok (.ireturn, 1) := by decide +kernel
theorem dX0_copyFrom_0 : decode cX0_copyFrom 0 = .ok (.aload_n 0, 1) := by decide +kernel
theorem dX0_copyFrom_1 : decode cX0_copyFrom 1 = .ok (.getfield 12, 3) := by decide +kernel
theorem dX0_copyFrom_4 : decode cX0_copyFrom 4 = .ok (.aload_n 1, 1) := by decide +kernel
theorem dX0_copyFrom_5 : decode cX0_copyFrom 5 = .ok (.getfield 12, 3) := by decide +kernel
theorem dX0_copyFrom_8 : decode cX0_copyFrom 8 = .ok (.invokevirtual 37, 3) := by decide +kernel
theorem dX0_copyFrom_11 : decode cX0_copyFrom 11 = .ok (.aload_n 0, 1) := by decide +kernel
theorem dX0_copyFrom_12 : decode cX0_copyFrom 12 = .ok (.aload_n 1, 1) := by decide +kernel
theorem dX0_copyFrom_13 : decode cX0_copyFrom 13 = .ok (.invokevirtual 41, 3) := by decide +kernel
theorem dX0_copyFrom_16 : decode cX0_copyFrom 16 = .ok (.return_, 1) := by decide +kernel
theorem dX0_copyLayersFrom_0 : decode cX0_copyLayersFrom 0 = .ok (.aload_n 0, 1) := by decide +kernel
theorem dX0_copyLayersFrom_1 : decode cX0_copyLayersFrom 1 = .ok (.invokevirtual 45, 3) := by decide +kernel
theorem dX0_copyLayersFrom_4 : decode cX0_copyLayersFrom 4 = .ok (.iconst 0, 1) := by decide +kernel
theorem dX0_copyLayersFrom_5 : decode cX0_copyLayersFrom 5 = .ok (.istore_n 2, 1) := by decide +kernel
theorem dX0_copyLayersFrom_6 : decode cX0_copyLayersFrom 6 = .ok (.iload_n 2, 1) := by decide +kernel
theorem dX0_copyLayersFrom_7 : decode cX0_copyLayersFrom 7 = .ok (.aload_n 1, 1) := by decide +kernel
theorem dX0_copyLayersFrom_8 : decode cX0_copyLayersFrom 8 = .ok (.getfield 25, 3) := by decide +kernel
theorem dX0_copyLayersFrom_11 : decode cX0_copyLayersFrom 11 = .ok (.if_icmp .ge 36, 3) := by decide +kernel
theorem dX0_copyLayersFrom_14 : decode cX0_copyLayersFrom 14 = .ok (.aload_n 1, 1) := by decide +kernel
theorem dX0_copyLayersFrom_15 : decode cX0_copyLayersFrom 15 = .ok (.iload_n 2, 1) := by decide +kernel
theorem dX0_copyLayersFrom_16 : decode cX0_copyLayersFrom 16 = .ok (.invokevirtual 29, 3) := by decide +kernel
theorem dX0_copyLayersFrom_19 : decode cX0_copyLayersFrom 19 = .ok (.astore_n 3, 1) := by decide +kernel
theorem dX0_copyLayersFrom_20 : decode cX0_copyLayersFrom 20 = .ok (.aload_n 0, 1) := by decide +kernel
theorem dX0_copyLayersFrom_21 : decode cX0_copyLayersFrom 21 = .ok (.invokevirtual 48, 3) := by decide +kernel
theorem dX0_copyLayersFrom_24 : decode cX0_copyLayersFrom 24 = .ok (.astore 4, 2) := by decide +kernel
theorem dX0_copyLayersFrom_26 : decode cX0_copyLayersFrom 26 = .ok (.aload_n 3, 1) := by decide +kernel
theorem dX0_copyLayersFrom_27 : decode cX0_copyLayersFrom 27 = .ok (.ifnull 14, 3) := by decide +kernel
theorem dX0_copyLayersFrom_30 : decode cX0_copyLayersFrom 30 = .ok (.aload 4, 2) := by decide +kernel
theorem dX0_copyLayersFrom_32 : decode cX0_copyLayersFrom 32 = .ok (.ifnull 9, 3) := by decide +kernel
theorem dX0_copyLayersFrom_35 : decode cX0_copyLayersFrom 35 = .ok (.aload 4, 2) := by decide +kernel
theorem dX0_copyLayersFrom_37 : decode cX0_copyLayersFrom 37 = .ok (.aload_n 3, 1) := by decide +kernel
theorem dX0_copyLayersFrom_38 : decode cX0_copyLayersFrom 38 = .ok (.invokevirtual 52, 3) := by decide +kernel
theorem dX0_copyLayersFrom_41 : decode cX0_copyLayersFrom 41 = .ok (.iinc 2 1, 3) := by decide +kernel
theorem dX0_copyLayersFrom_44 : decode cX0_copyLayersFrom 44 = .ok (.goto (-38), 3) := by decide +kernel
theorem dX0_copyLayersFrom_47 : decode cX0_copyLayersFrom 47 = .ok (.return_, 1) := by decide +kernel
theorem dX0_removeLayers_0 : decode cX0_removeLayers 0 = .ok (.aload_n 0, 1) := by decide +kernel
theorem dX0_removeLayers_1 : decode cX0_removeLayers 1 = .ok (.iconst 0, 1) := by decide +kernel
theorem dX0_removeLayers_2 : decode cX0_removeLayers 2 = .ok (.putfield 25, 3) := by decide +kernel
theorem dX0_removeLayers_5 : decode cX0_removeLayers 5 = .ok (.return_, 1) := by decide +kernel
theorem dX0_addFresh_0 : decode cX0_addFresh 0 = .ok (.aload_n 0, 1) := by decide +kernel
theorem dX0_addFresh_1 : decode cX0_addFresh 1 = .ok (.invokevirtual 48, 3) := by decide +kernel
theorem dX0_addFresh_4 : decode cX0_addFresh 4 = .ok (.astore 4, 2) := by decide +kernel
theorem dX0_addFresh_6 : decode cX0_addFresh 6 = .ok (.aload 4, 2) := by decide +kernel
theorem dX0_addFresh_8 : decode cX0_addFresh 8 = .ok (.ifnull 11, 3) := by decide +kernel
theorem dX0_addFresh_11 : decode cX0_addFresh 11 = .ok (.aload 4, 2) := by decide +kernel
theorem dX0_addFresh_13 : decode cX0_addFresh 13 = .ok (.iload_n 1, 1) := by decide +kernel
theorem dX0_addFresh_14 : decode cX0_addFresh 14 = .ok (.iload_n 2, 1) := by decide +kernel
theorem dX0_addFresh_15 : decode cX0_addFresh 15 = .ok (.iload_n 3, 1) := by decide +kernel
theorem dX0_addFresh_16 : decode cX0_addFresh 16 = .ok (.invokevirtual 55, 3) := by decide +kernel
theorem dX0_addFresh_19 : decode cX0_addFresh 19 = .ok (.aload 4, 2) := by decide +kernel
theorem dX0_addFresh_21 : decode cX0_addFresh 21 = .ok (.areturn, 1) := by decide +kernel
theorem dX0_addCopyAbove_0 : decode cX0_addCopyAbove 0 = .ok (.aload_n 0, 1) := by decide +kernel
theorem dX0_addCopyAbove_1 : decode cX0_addCopyAbove 1 = .ok (.iload_n 1, 1) := by decide +kernel
theorem dX0_addCopyAbove_2 : decode cX0_addCopyAbove 2 = .ok (.invokevirtual 29, 3) := by decide +kernel
theorem dX0_addCopyAbove_5 : decode cX0_addCopyAbove 5 = .ok (.astore_n 2, 1) := by decide +kernel
theorem dX0_addCopyAbove_6 : decode cX0_addCopyAbove 6 = .ok (.aload_n 2, 1) := by decide +kernel
theorem dX0_addCopyAbove_7 : decode cX0_addCopyAbove 7 = .ok (.ifnonnull 7, 3) := by decide +kernel
theorem dX0_addCopyAbove_10 : decode cX0_addCopyAbove 10 = .ok (.aconst_null, 1) := by decide +kernel
theorem dX0_addCopyAbove_11 : decode cX0_addCopyAbove 11 = .ok (.goto 7, 3) := by decide +kernel
theorem dX0_addCopyAbove_14 : decode cX0_addCopyAbove 14 = .ok (.aload_n 0, 1) := by decide +kernel
theorem dX0_addCopyAbove_15 : decode cX0_addCopyAbove 15 = .ok (.invokevirtual 48, 3) := by decide +kernel
theorem dX0_addCopyAbove_18 : decode cX0_addCopyAbove 18 = .ok (.astore_n 3, 1) := by decide +kernel
theorem dX0_addCopyAbove_19 : decode cX0_addCopyAbove 19 = .ok (.aload_n 3, 1) := by decide +kernel
theorem dX0_addCopyAbove_20 : decode cX0_addCopyAbove 20 = .ok (.ifnull 21, 3) := by decide +kernel
theorem dX0_addCopyAbove_23 : decode cX0_addCopyAbove 23 = .ok (.aload_n 3, 1) := by decide +kernel
theorem dX0_addCopyAbove_24 : decode cX0_addCopyAbove 24 = .ok (.aload_n 2, 1) := by decide +kernel
theorem dX0_addCopyAbove_25 : decode cX0_addCopyAbove 25 = .ok (.invokevirtual 52, 3) := by decide +kernel
theorem dX0_addCopyAbove_28 : decode cX0_addCopyAbove 28 = .ok (.aload_n 0, 1) := by decide +kernel
theorem dX0_addCopyAbove_29 : decode cX0_addCopyAbove 29 = .ok (.aload_n 0, 1) := by decide +kernel
theorem dX0_addCopyAbove_30 : decode cX0_addCopyAbove 30 = .ok (.getfield 25, 3) := by decide +kernel
theorem dX0_addCopyAbove_33 : decode cX0_addCopyAbove 33 = .ok (.iconst 1, 1) := by decide +kernel
theorem dX0_addCopyAbove_34 : decode cX0_addCopyAbove 34 = .ok (.isub, 1) := by decide +kernel
theorem dX0_addCopyAbove_35 : decode cX0_addCopyAbove 35 = .ok (.iload_n 1, 1) := by decide +kernel
theorem dX0_addCopyAbove_36 : decode cX0_addCopyAbove 36 = .ok (.iconst 1, 1) := by decide +kernel
theorem dX0_addCopyAbove_37 : decode cX0_addCopyAbove 37 = .ok (.iadd, 1) := by decide +kernel
theorem dX0_addCopyAbove_38 : decode cX0_addCopyAbove 38 = .ok (.invokevirtual 59, 3) := by decide +kernel
theorem dX0_addCopyAbove_41 : decode cX0_addCopyAbove 41 = .ok (.return_, 1) := by decide +kernel
theorem dX0_takeOut_0 : decode cX0_takeOut 0 = .ok (.aload_n 0, 1) := by decide +kernel
theorem dX0_takeOut_1 : decode cX0_takeOut 1 = .ok (.iload_n 1, 1) := by decide +kernel
theorem dX0_takeOut_2 : decode cX0_takeOut 2 = .ok (.invokevirtual 29, 3) := by decide +kernel
theorem dX0_takeOut_5 : decode cX0_takeOut 5 = .ok (.ifnull 24, 3) := by decide +kernel
theorem dX0_takeOut_8 : decode cX0_takeOut 8 = .ok (.aload_n 0, 1) := by decide +kernel
theorem dX0_takeOut_9 : decode cX0_takeOut 9 = .ok (.iload_n 1, 1) := by decide +kernel
theorem dX0_takeOut_10 : decode cX0_takeOut 10 = .ok (.aload_n 0, 1) := by decide +kernel
theorem dX0_takeOut_11 : decode cX0_takeOut 11 = .ok (.getfield 25, 3) := by decide +kernel
theorem dX0_takeOut_14 : decode cX0_takeOut 14 = .ok (.iconst 1, 1) := by decide +kernel
theorem dX0_takeOut_15 : decode cX0_takeOut 15 = .ok (.isub, 1) := by decide +kernel
theorem dX0_takeOut_16 : decode cX0_takeOut 16 = .ok (.invokevirtual 59, 3) := by decide +kernel
theorem dX0_takeOut_19 : decode cX0_takeOut 19 = .ok (.aload_n 0, 1) := by decide +kernel
theorem dX0_takeOut_20 : decode cX0_takeOut 20 = .ok (.dup, 1) := by decide +kernel
theorem dX0_takeOut_21 : decode cX0_takeOut 21 = .ok (.getfield 25, 3) := by decide +kernel
theorem dX0_takeOut_24 : decode cX0_takeOut 24 = .ok (.iconst 1, 1) := by decide +kernel
theorem dX0_takeOut_25 : decode cX0_takeOut 25 = .ok (.isub, 1) := by decide +kernel
theorem dX0_takeOut_26 : decode cX0_takeOut 26 = .ok (.putfield 25, 3) := by decide +kernel
theorem dX0_takeOut_29 : decode cX0_takeOut 29 = .ok (.return_, 1) := by decide +kernel
theorem dX0_shift_0 : decode cX0_shift 0 = .ok (.aload_n 0, 1) := by decide +kernel
theorem dX0_shift_1 : decode cX0_shift 1 = .ok (.iload_n 1, 1) := by decide +kernel
theorem dX0_shift_2 : decode cX0_shift 2 = .ok (.invokevirtual 29, 3) := by decide +kernel
theorem dX0_shift_5 : decode cX0_shift 5 = .ok (.astore_n 3, 1) := by decide +kernel
theorem dX0_shift_6 : decode cX0_shift 6 = .ok (.aload_n 3, 1) := by decide +kernel
theorem dX0_shift_7 : decode cX0_shift 7 = .ok (.ifnull 11, 3) := by decide +kernel
theorem dX0_shift_10 : decode cX0_shift 10 = .ok (.aload_n 0, 1) := by decide +kernel
theorem dX0_shift_11 : decode cX0_shift 11 = .ok (.iload_n 2, 1) := by decide +kernel
theorem dX0_shift_12 : decode cX0_shift 12 = .ok (.invokevirtual 29, 3) := by decide +kernel
theorem dX0_shift_15 : decode cX0_shift 15 = .ok (.ifnonnull 4, 3) := by decide +kernel
theorem dX0_shift_18 : decode cX0_shift 18 = .ok (.return_, 1) := by decide +kernel
theorem dX0_shift_19 : decode cX0_shift 19 = .ok (.iload_n 1, 1) := by decide +kernel
theorem dX0_shift_20 : decode cX0_shift 20 = .ok (.istore 4, 2) := by decide +kernel
theorem dX0_shift_22 : decode cX0_shift 22 = .ok (.iload 4, 2) := by decide +kernel
theorem dX0_shift_24 : decode cX0_shift 24 = .ok (.iload_n 2, 1) := by decide +kernel
theorem dX0_shift_25 : decode cX0_shift 25 = .ok (.if_icmp .ge 25, 3) := by decide +kernel
theorem dX0_shift_28 : decode cX0_shift 28 = .ok (.aload_n 0, 1) := by decide +kernel
theorem dX0_shift_29 : decode cX0_shift 29 = .ok (.getfield 20, 3) := by decide +kernel
theorem dX0_shift_32 : decode cX0_shift 32 = .ok (.iload 4, 2) := by decide +kernel
theorem dX0_shift_34 : decode cX0_shift 34 = .ok (.aload_n 0, 1) := by decide +kernel
theorem dX0_shift_35 : decode cX0_shift 35 = .ok (.getfield 20, 3) := by decide +kernel
theorem dX0_shift_38 : decode cX0_shift 38 = .ok (.iload 4, 2) := by decide +kernel
theorem dX0_shift_40 : decode cX0_shift 40 = .ok (.iconst 1, 1) := by decide +kernel
theorem dX0_shift_41 : decode cX0_shift 41 = .ok (.iadd, 1) := by decide +kernel
theorem dX0_shift_42 : decode cX0_shift 42 = .ok (.aaload, 1) := by decide +kernel
theorem dX0_shift_43 : decode cX0_shift 43 = .ok (.aastore, 1) := by decide +kernel
theorem dX0_shift_44 : decode cX0_shift 44 = .ok (.iinc 4 1, 3) := by decide +kernel
theorem dX0_shift_47 : decode cX0_shift 47 = .ok (.goto (-25), 3) := by decide +kernel
theorem dX0_shift_50 : decode cX0_shift 50 = .ok (.iload_n 1, 1) := by decide +kernel
theorem dX0_shift_51 : decode cX0_shift 51 = .ok (.istore 4, 2) := by decide +kernel
theorem dX0_shift_53 : decode cX0_shift 53 = .ok (.iload 4, 2) := by decide +kernel
theorem dX0_shift_55 : decode cX0_shift 55 = .ok (.iload_n 2, 1) := by decide +kernel
theorem dX0_shift_56 : decode cX0_shift 56 = .ok (.if_icmp .le 25, 3) := by decide +kernel
theorem dX0_shift_59 : decode cX0_shift 59 = .ok (.aload_n 0, 1) := by decide +kernel
theorem dX0_shift_60 : decode cX0_shift 60 = .ok (.getfield 20, 3) := by decide +kernel
theorem dX0_shift_63 : decode cX0_shift 63 = .ok (.iload 4, 2) := by decide +kernel
theorem dX0_shift_65 : decode cX0_shift 65 = .ok (.aload_n 0, 1) := by decide +kernel
theorem dX0_shift_66 : decode cX0_shift 66 = .ok (.getfield 20, 3) := by decide +kernel
theorem dX0_shift_69 : decode cX0_shift 69 = .ok (.iload 4, 2) := by decide +kernel
theorem dX0_shift_71 : decode cX0_shift 71 = .ok (.iconst 1, 1) := by decide +kernel
theorem dX0_shift_72 : decode cX0_shift 72 = .ok (.isub, 1) := by decide +kernel
theorem dX0_shift_73 : decode cX0_shift 73 = .ok (.aaload, 1) := by decide +kernel
theorem dX0_shift_74 : decode cX0_shift 74 = .ok (.aastore, 1) := by decide +kernel
theorem dX0_shift_75 : decode cX0_shift 75 = .ok (.iinc 4 (-1), 3) := by decide +kernel
theorem dX0_shift_78 : decode cX0_shift 78 = .ok (.goto (-25), 3) := by decide +kernel
theorem dX0_shift_81 : decode cX0_shift 81 = .ok (.aload_n 0, 1) := by decide +kernel
theorem dX0_shift_82 : decode cX0_shift 82 = .ok (.getfield 20, 3) := by decide +kernel
theorem dX0_shift_85 : decode cX0_shift 85 = .ok (.iload_n 2, 1) := by decide +kernel
theorem dX0_shift_86 : decode cX0_shift 86 = .ok (.aload_n 3, 1) := by decide +kernel
theorem dX0_shift_87 : decode cX0_shift 87 = .ok (.aastore, 1) := by decide +kernel
theorem dX0_shift_88 : decode cX0_shift 88 = .ok (.return_, 1) := by decide +kernel
theorem dX0_nextLayer_0 : decode cX0_nextLayer 0 = .ok (.aload_n 0, 1) := by decide +kernel
theorem dX0_nextLayer_1 : decode cX0_nextLayer 1 = .ok (.invokevirtual 63, 3) := by decide +kernel
theorem dX0_nextLayer_4 : decode cX0_nextLayer 4 = .ok (.ifCond .eq 5, 3) := by decide +kernel
theorem dX0_nextLayer_7 : decode cX0_nextLayer 7 = .ok (.aconst_null, 1) := by decide +kernel
theorem dX0_nextLayer_8 : decode cX0_nextLayer 8 = .ok (.areturn, 1) := by decide +kernel
theorem dX0_nextLayer_9 : decode cX0_nextLayer 9 = .ok (.aload_n 0, 1) := by decide +kernel
theorem dX0_nextLayer_10 : decode cX0_nextLayer 10 = .ok (.dup, 1) := by decide +kernel
theorem dX0_nextLayer_11 : decode cX0_nextLayer 11 = .ok (.getfield 25, 3) := by decide +kernel
theorem dX0_nextLayer_14 : decode cX0_nextLayer 14 = .ok (.iconst 1, 1) := by decide +kernel
theorem dX0_nextLayer_15 : decode cX0_nextLayer 15 = .ok (.iadd, 1) := by decide +kernel
theorem dX0_nextLayer_16 : decode cX0_nextLayer 16 = .ok (.putfield 25, 3) := by decide +kernel
theorem dX0_nextLayer_19 : decode cX0_nextLayer 19 = .ok (.aload_n 0, 1) := by decide +kernel
theorem dX0_nextLayer_20 : decode cX0_nextLayer 20 = .ok (.aload_n 0, 1) := by decide +kernel
theorem dX0_nextLayer_21 : decode cX0_nextLayer 21 = .ok (.getfield 25, 3) := by decide +kernel
theorem dX0_nextLayer_24 : decode cX0_nextLayer 24 = .ok (.iconst 1, 1) := by decide +kernel
theorem dX0_nextLayer_25 : decode cX0_nextLayer 25 = .ok (.isub, 1) := by decide +kernel
theorem dX0_nextLayer_26 : decode cX0_nextLayer 26 = .ok (.invokevirtual 29, 3) := by decide +kernel
theorem dX0_nextLayer_29 : decode cX0_nextLayer 29 = .ok (.areturn, 1) := by decide +kernel
theorem dX1_init_0 : decode cX1_init 0 = .ok (.aload_n 0, 1) := by decide +kernel
theorem dX1_init_1 : decode cX1_init 1 = .ok (.invokespecial 3, 3) := by decide +kernel
theorem dX1_init_4 : decode cX1_init 4 = .ok (.aload_n 0, 1) := by decide +kernel
theorem dX1_init_5 : decode cX1_init 5 = .ok (.bipush 6, 2) := by decide +kernel
theorem dX1_init_7 : decode cX1_init 7 = .ok (.anewarray 9, 3) := by decide +kernel
theorem dX1_init_10 : decode cX1_init 10 = .ok (.putfield 11, 3) := by decide +kernel
theorem dX1_init_13 : decode cX1_init 13 = .ok (.iconst 0, 1) := by decide +kernel
theorem dX1_init_14 : decode cX1_init 14 = .ok (.istore_n 1, 1) := by decide +kernel
theorem dX1_init_15 : decode cX1_init 15 = .ok (.iload_n 1, 1) := by decide +kernel
theorem dX1_init_16 : decode cX1_init 16 = .ok (.aload_n 0, 1) := by decide +kernel
theorem dX1_init_17 : decode cX1_init 17 = .ok (.getfield 11, 3) := by decide +kernel
theorem dX1_init_20 : decode cX1_init 20 = .ok (.arraylength, 1) := by decide +kernel
theorem dX1_init_21 : decode cX1_init 21 = .ok (.if_icmp .ge 22, 3) := by decide +kernel
theorem dX1_init_24 : decode cX1_init 24 = .ok (.aload_n 0, 1) := by decide +kernel
theorem dX1_init_25 : decode cX1_init 25 = .ok (.getfield 11, 3) := by decide +kernel
theorem dX1_init_28 : decode cX1_init 28 = .ok (.iload_n 1, 1) := by decide +kernel
theorem dX1_init_29 : decode cX1_init 29 = .ok (.new 9, 3) := by decide +kernel
theorem dX1_init_32 : decode cX1_init 32 = .ok (.dup, 1) := by decide +kernel
theorem dX1_init_33 : decode cX1_init 33 = .ok (.invokespecial 17, 3) := by decide +kernel
theorem dX1_init_36 : decode cX1_init 36 = .ok (.aastore, 1) := by decide +kernel
theorem dX1_init_37 : decode cX1_init 37 = .ok (.iinc 1 1, 3) := by decide +kernel
theorem dX1_init_40 : decode cX1_init 40 = .ok (.goto (-25), 3) := by decide +kernel
theorem dX1_init_43 : decode cX1_init 43 = .ok (.return_, 1) := by decide +kernel
theorem dX1_push_0 : decode cX1_push 0 = .ok (.aload_n 0, 1) := by decide +kernel
theorem dX1_push_1 : decode cX1_push 1 = .ok (.getfield 18, 3) := by decide +kernel
theorem dX1_push_4 : decode cX1_push 4 = .ok (.aload_n 0, 1) := by decide +kernel
theorem dX1_push_5 : decode cX1_push 5 = .ok (.getfield 11, 3) := by decide +kernel
theorem dX1_push_8 : decode cX1_push 8 = .ok (.arraylength, 1) := by decide +kernel
theorem dX1_push_9 : decode cX1_push 9 = .ok (.if_icmp .lt 7, 3) := by decide +kernel
theorem dX1_push_12 : decode cX1_push 12 = .ok (.aload_n 0, 1) := by decide +kernel
theorem dX1_push_13 : decode cX1_push 13 = .ok (.invokevirtual 22, 3) := by decide +kernel
theorem dX1_push_16 : decode cX1_push 16 = .ok (.aload_n 0, 1) := by decide +kernel
theorem dX1_push_17 : decode cX1_push 17 = .ok (.getfield 18, 3) := by decide +kernel
theorem dX1_push_20 : decode cX1_push 20 = .ok (.ifCond .lt 15, 3) := by decide +kernel
theorem dX1_push_23 : decode cX1_push 23 = .ok (.aload_n 0, 1) := by decide +kernel
theorem dX1_push_24 : decode cX1_push 24 = .ok (.getfield 18, 3) := by decide +kernel
theorem dX1_push_27 : decode cX1_push 27 = .ok (.aload_n 0, 1) := by decide +kernel
theorem dX1_push_28 : decode cX1_push 28 = .ok (.getfield 11, 3) := by decide +kernel
theorem dX1_push_31 : decode cX1_push 31 = .ok (.arraylength, 1) := by decide +kernel
theorem dX1_push_32 : decode cX1_push 32 = .ok (.if_icmp .lt 4, 3) := by decide +kernel
theorem dX1_push_35 : decode cX1_push 35 = .ok (.return_, 1) := by decide +kernel
theorem dX1_push_36 : decode cX1_push 36 = .ok (.aload_n 0, 1) := by decide +kernel
theorem dX1_push_37 : decode cX1_push 37 = .ok (.getfield 11, 3) := by decide +kernel
theorem dX1_push_40 : decode cX1_push 40 = .ok (.aload_n 0, 1) := by decide +kernel
theorem dX1_push_41 : decode cX1_push 41 = .ok (.getfield 18, 3) := by decide +kernel
theorem dX1_push_44 : decode cX1_push 44 = .ok (.aaload, 1) := by decide +kernel
theorem dX1_push_45 : decode cX1_push 45 = .ok (.astore_n 2, 1) := by decide +kernel
theorem dX1_push_46 : decode cX1_push 46 = .ok (.aload_n 2, 1) := by decide +kernel
theorem dX1_push_47 : decode cX1_push 47 = .ok (.ifnull 18, 3) := by decide +kernel
theorem dX1_push_50 : decode cX1_push 50 = .ok (.aload_n 2, 1) := by decide +kernel
theorem dX1_push_51 : decode cX1_push 51 = .ok (.aload_n 1, 1) := by decide +kernel
theorem dX1_push_52 : decode cX1_push 52 = .ok (.invokevirtual 25, 3) := by decide +kernel
theorem dX1_push_55 : decode cX1_push 55 = .ok (.aload_n 0, 1) := by decide +kernel
theorem dX1_push_56 : decode cX1_push 56 = .ok (.dup, 1) := by decide +kernel
theorem dX1_push_57 : decode cX1_push 57 = .ok (.getfield 18, 3) := by decide +kernel
theorem dX1_push_60 : decode cX1_push 60 = .ok (.iconst 1, 1) := by decide +kernel
theorem dX1_push_61 : decode cX1_push 61 = .ok (.iadd, 1) := by decide +kernel
theorem dX1_push_62 : decode cX1_push 62 = .ok (.putfield 18, 3) := by decide +kernel
theorem dX1_push_65 : decode cX1_push 65 = .ok (.return_, 1) := by decide +kernel
theorem dX1_pop_0 : decode cX1_pop 0 = .ok (.aload_n 0, 1) := by decide +kernel
theorem dX1_pop_1 : decode cX1_pop 1 = .ok (.getfield 18, 3) := by decide +kernel
theorem dX1_pop_4 : decode cX1_pop 4 = .ok (.ifCond .le 15, 3) := by decide +kernel
theorem dX1_pop_7 : decode cX1_pop 7 = .ok (.aload_n 0, 1) := by decide +kernel
theorem dX1_pop_8 : decode cX1_pop 8 = .ok (.getfield 18, 3) := by decide +kernel
theorem dX1_pop_11 : decode cX1_pop 11 = .ok (.aload_n 0, 1) := by decide +kernel
theorem dX1_pop_12 : decode cX1_pop 12 = .ok (.getfield 11, 3) := by decide +kernel
theorem dX1_pop_15 : decode cX1_pop 15 = .ok (.arraylength, 1) := by decide +kernel
theorem dX1_pop_16 : decode cX1_pop 16 = .ok (.if_icmp .le 4, 3) := by decide +kernel
theorem dX1_pop_19 : decode cX1_pop 19 = .ok (.return_, 1) := by decide +kernel
theorem dX1_pop_20 : decode cX1_pop 20 = .ok (.aload_n 0, 1) := by decide +kernel
theorem dX1_pop_21 : decode cX1_pop 21 = .ok (.dup, 1) := by decide +kernel
theorem dX1_pop_22 : decode cX1_pop 22 = .ok (.getfield 18, 3) := by decide +kernel
theorem dX1_pop_25 : decode cX1_pop 25 = .ok (.iconst 1, 1) := by decide +kernel
theorem dX1_pop_26 : decode cX1_pop 26 = .ok (.isub, 1) := by decide +kernel
theorem dX1_pop_27 : decode cX1_pop 27 = .ok (.putfield 18, 3) := by decide +kernel
theorem dX1_pop_30 : decode cX1_pop 30 = .ok (.aload_n 0, 1) := by decide +kernel
theorem dX1_pop_31 : decode cX1_pop 31 = .ok (.getfield 11, 3) := by decide +kernel
theorem dX1_pop_34 : decode cX1_pop 34 = .ok (.aload_n 0, 1) := by decide +kernel
theorem dX1_pop_35 : decode cX1_pop 35 = .ok (.getfield 18, 3) := by decide +kernel
theorem dX1_pop_38 : decode cX1_pop 38 = .ok (.aaload, 1) := by decide +kernel
theorem dX1_pop_39 : decode cX1_pop 39 = .ok (.astore_n 2, 1) := by decide +kernel
theorem dX1_pop_40 : decode cX1_pop 40 = .ok (.aload_n 2, 1) := by decide +kernel
theorem dX1_pop_41 : decode cX1_pop 41 = .ok (.ifnull 8, 3) := by decide +kernel
theorem dX1_pop_44 : decode cX1_pop 44 = .ok (.aload_n 1, 1) := by decide +kernel
theorem dX1_pop_45 : decode cX1_pop 45 = .ok (.aload_n 2, 1) := by decide +kernel
theorem dX1_pop_46 : decode cX1_pop 46 = .ok (.invokevirtual 25, 3) := by decide +kernel
theorem dX1_pop_49 : decode cX1_pop 49 = .ok (.return_, 1) := by decide +kernel
theorem dX1_discardOldest_0 : decode cX1_discardOldest 0 = .ok (.aload_n 0, 1) := by decide +kernel
theorem dX1_discardOldest_1 : decode cX1_discardOldest 1 = .ok (.getfield 11, 3) := by decide +kernel
theorem dX1_discardOldest_4 : decode cX1_discardOldest 4 = .ok (.iconst 0, 1) := by decide +kernel
theorem dX1_discardOldest_5 : decode cX1_discardOldest 5 = .ok (.aaload, 1) := by decide +kernel
theorem dX1_discardOldest_6 : decode cX1_discardOldest 6 = .ok (.astore_n 1, 1) := by decide +kernel
theorem dX1_discardOldest_7 : decode cX1_discardOldest 7 = .ok (.iconst 0, 1) := by decide +kernel
theorem dX1_discardOldest_8 : decode cX1_discardOldest 8 = .ok (.istore_n 2, 1) := by decide +kernel
theorem dX1_discardOldest_9 : decode cX1_discardOldest 9 = .ok (.iload_n 2, 1) := by decide +kernel
theorem dX1_discardOldest_10 : decode cX1_discardOldest 10 = .ok (.iconst 1, 1) := by decide +kernel
theorem dX1_discardOldest_11 : decode cX1_discardOldest 11 = .ok (.iadd, 1) := by decide +kernel
theorem dX1_discardOldest_12 : decode cX1_discardOldest 12 = .ok (.aload_n 0, 1) := by decide +kernel
theorem dX1_discardOldest_13 : decode cX1_discardOldest 13 = .ok (.getfield 11, 3) := by decide +kernel
theorem dX1_discardOldest_16 : decode cX1_discardOldest 16 = .ok (.arraylength, 1) := by decide +kernel
theorem dX1_discardOldest_17 : decode cX1_discardOldest 17 = .ok (.if_icmp .ge 23, 3) := by decide +kernel
theorem dX1_discardOldest_20 : decode cX1_discardOldest 20 = .ok (.aload_n 0, 1) := by decide +kernel
theorem dX1_discardOldest_21 : decode cX1_discardOldest 21 = .ok (.getfield 11, 3) := by decide +kernel
theorem dX1_discardOldest_24 : decode cX1_discardOldest 24 = .ok (.iload_n 2, 1) := by decide +kernel
theorem dX1_discardOldest_25 : decode cX1_discardOldest 25 = .ok (.aload_n 0, 1) := by decide +kernel
theorem dX1_discardOldest_26 : decode cX1_discardOldest 26 = .ok (.getfield 11, 3) := by decide +kernel
theorem dX1_discardOldest_29 : decode cX1_discardOldest 29 = .ok (.iload_n 2, 1) := by decide +kernel
theorem dX1_discardOldest_30 : decode cX1_discardOldest 30 = .ok (.iconst 1, 1) := by decide +kernel
theorem dX1_discardOldest_31 : decode cX1_discardOldest 31 = .ok (.iadd, 1) := by decide +kernel
theorem dX1_discardOldest_32 : decode cX1_discardOldest 32 = .ok (.aaload, 1) := by decide +kernel
theorem dX1_discardOldest_33 : decode cX1_discardOldest 33 = .ok (.aastore, 1) := by decide +kernel
theorem dX1_discardOldest_34 : decode cX1_discardOldest 34 = .ok (.iinc 2 1, 3) := by decide +kernel
theorem dX1_discardOldest_37 : decode cX1_discardOldest 37 = .ok (.goto (-28), 3) := by decide +kernel
theorem dX1_discardOldest_40 : decode cX1_discardOldest 40 = .ok (.aload_n 0, 1) := by decide +kernel
theorem dX1_discardOldest_41 : decode cX1_discardOldest 41 = .ok (.getfield 11, 3) := by decide +kernel
theorem dX1_discardOldest_44 : decode cX1_discardOldest 44 = .ok (.aload_n 0, 1) := by decide +kernel
theorem dX1_discardOldest_45 : decode cX1_discardOldest 45 = .ok (.getfield 11, 3) := by decide +kernel
theorem dX1_discardOldest_48 : decode cX1_discardOldest 48 = .ok (.arraylength, 1) := by decide +kernel
theorem dX1_discardOldest_49 : decode cX1_discardOldest 49 = .ok (.iconst 1, 1) := by decide +kernel
theorem dX1_discardOldest_50 : decode cX1_discardOldest 50 = .ok (.isub, 1) := by decide +kernel
theorem dX1_discardOldest_51 : decode cX1_discardOldest 51 = .ok (.aload_n 1, 1) := by decide +kernel
theorem dX1_discardOldest_52 : decode cX1_discardOldest 52 = .ok (.aastore, 1) := by decide +kernel
theorem dX1_discardOldest_53 : decode cX1_discardOldest 53 = .ok (.aload_n 0, 1) := by decide +kernel
theorem dX1_discardOldest_54 : decode cX1_discardOldest 54 = .ok (.dup, 1) := by decide +kernel
theorem dX1_discardOldest_55 : decode cX1_discardOldest 55 = .ok (.getfield 18, 3) := by decide +kernel
theorem dX1_discardOldest_58 : decode cX1_discardOldest 58 = .ok (.iconst 1, 1) := by decide +kernel
theorem dX1_discardOldest_59 : decode cX1_discardOldest 59 = .ok (.isub, 1) := by decide +kernel
theorem dX1_discardOldest_60 : decode cX1_discardOldest 60 = .ok (.putfield 18, 3) := by decide +kernel
theorem dX1_discardOldest_63 : decode cX1_discardOldest 63 = .ok (.return_, 1) := by decide +kernel
theorem dX2_allow_0 : decode cX2_allow 0 = .ok (.iload_n 0, 1) := by decide +kernel
theorem dX2_allow_1 : decode cX2_allow 1 = .ok (.iconst 0, 1) := by decide +kernel
theorem dX2_allow_2 : decode cX2_allow 2 = .ok (.bipush 13, 2) := by decide +kernel
theorem dX2_allow_4 : decode cX2_allow 4 = .ok (.invokestatic 11, 3) := by decide +kernel
theorem dX2_allow_7 : decode cX2_allow 7 = .ok (.ifCond .eq 38, 3) := by decide +kernel
theorem dX2_allow_10 : decode cX2_allow 10 = .ok (.iload_n 1, 1) := by decide +kernel
theorem dX2_allow_11 : decode cX2_allow 11 = .ok (.iload_n 0, 1) := by decide +kernel
theorem dX2_allow_12 : decode cX2_allow 12 = .ok (.invokestatic 15, 3) := by decide +kernel
theorem dX2_allow_15 : decode cX2_allow 15 = .ok (.iload_n 0, 1) := by decide +kernel
theorem dX2_allow_16 : decode cX2_allow 16 = .ok (.invokestatic 19, 3) := by decide +kernel
theorem dX2_allow_19 : decode cX2_allow 19 = .ok (.invokestatic 11, 3) := by decide +kernel
theorem dX2_allow_22 : decode cX2_allow 22 = .ok (.ifCond .eq 23, 3) := by decide +kernel
theorem dX2_allow_25 : decode cX2_allow 25 = .ok (.iload_n 2, 1) := by decide +kernel
theorem dX2_allow_26 : decode cX2_allow 26 = .ok (.iload_n 0, 1) := by decide +kernel
theorem dX2_allow_27 : decode cX2_allow 27 = .ok (.iload_n 1, 1) := by decide +kernel
theorem dX2_allow_28 : decode cX2_allow 28 = .ok (.invokestatic 22, 3) := by decide +kernel
theorem dX2_allow_31 : decode cX2_allow 31 = .ok (.iload_n 0, 1) := by decide +kernel
theorem dX2_allow_32 : decode cX2_allow 32 = .ok (.invokestatic 26, 3) := by decide +kernel
theorem dX2_allow_35 : decode cX2_allow 35 = .ok (.invokestatic 11, 3) := by decide +kernel
theorem dX2_allow_38 : decode cX2_allow 38 = .ok (.ifCond .eq 7, 3) := by decide +kernel
theorem dX2_allow_41 : decode cX2_allow 41 = .ok (.iconst 1, 1) := by decide +kernel
theorem dX2_allow_42 : decode cX2_allow 42 = .ok (.goto 4, 3) := by decide +kernel
theorem dX2_allow_45 : decode cX2_allow 45 = .ok (.iconst 0, 1) := by decide +kernel
theorem dX2_allow_46 : decode cX2_allow 46 = .ok (.ireturn, 1) := by decide +kernel
theorem dX2_lowestA_0 : decode cX2_lowestA 0 = .ok (.getstatic 37, 3) := by decide +kernel
theorem dX2_lowestA_3 : decode cX2_lowestA 3 = .ok (.iload_n 0, 1) := by decide +kernel
theorem dX2_lowestA_4 : decode cX2_lowestA 4 = .ok (.invokestatic 33, 3) := by decide +kernel
theorem dX2_lowestA_7 : decode cX2_lowestA 7 = .ok (.ireturn, 1) := by decide +kernel
theorem dX2_highestA_0 : decode cX2_highestA 0 = .ok (.getstatic 40, 3) := by decide +kernel
theorem dX2_highestA_3 : decode cX2_highestA 3 = .ok (.iload_n 0, 1) := by decide +kernel
theorem dX2_highestA_4 : decode cX2_highestA 4 = .ok (.invokestatic 33, 3) := by decide +kernel
theorem dX2_highestA_7 : decode cX2_highestA 7 = .ok (.ireturn, 1) := by decide +kernel
theorem dX2_lowestB_0 : decode cX2_lowestB 0 = .ok (.iload_n 0, 1) := by decide +kernel
theorem dX2_lowestB_1 : decode cX2_lowestB 1 = .ok (.ifCond .ne 9, 3) := by decide +kernel
theorem dX2_lowestB_4 : decode cX2_lowestB 4 = .ok (.iload_n 1, 1) := by decide +kernel
theorem dX2_lowestB_5 : decode cX2_lowestB 5 = .ok (.iconst 1, 1) := by decide +kernel
theorem dX2_lowestB_6 : decode cX2_lowestB 6 = .ok (.iadd, 1) := by decide +kernel
theorem dX2_lowestB_7 : decode cX2_lowestB 7 = .ok (.goto 10, 3) := by decide +kernel
theorem dX2_lowestB_10 : decode cX2_lowestB 10 = .ok (.getstatic 43, 3) := by decide +kernel
theorem dX2_lowestB_13 : decode cX2_lowestB 13 = .ok (.iload_n 0, 1) := by decide +kernel
theorem dX2_lowestB_14 : decode cX2_lowestB 14 = .ok (.invokestatic 33, 3) := by decide +kernel
theorem dX2_lowestB_17 : decode cX2_lowestB 17 = .ok (.ireturn, 1) := by decide +kernel
theorem dX2_highestB_0 : decode cX2_highestB 0 = .ok (.getstatic 46, 3) := by decide +kernel
theorem dX2_highestB_3 : decode cX2_highestB 3 = .ok (.iload_n 0, 1) := by decide +kernel
theorem dX2_highestB_4 : decode cX2_highestB 4 = .ok (.invokestatic 33, 3) := by decide +kernel
theorem dX2_highestB_7 : decode cX2_highestB 7 = .ok (.ireturn, 1) := by decide +kernel
theorem dX2_entry_0 : decode cX2_entry 0 = .ok (.iload_n 1, 1) := by decide +kernel
theorem dX2_entry_1 : decode cX2_entry 1 = .ok (.ifCond .lt 15, 3) := by decide +kernel
theorem dX2_entry_4 : decode cX2_entry 4 = .ok (.iload_n 1, 1) := by decide +kernel
theorem dX2_entry_5 : decode cX2_entry 5 = .ok (.aload_n 0, 1) := by decide +kernel
theorem dX2_entry_6 : decode cX2_entry 6 = .ok (.arraylength, 1) := by decide +kernel
theorem dX2_entry_7 : decode cX2_entry 7 = .ok (.if_icmp .ge 9, 3) := by decide +kernel
theorem dX2_entry_10 : decode cX2_entry 10 = .ok (.aload_n 0, 1) := by decide +kernel
theorem dX2_entry_11 : decode cX2_entry 11 = .ok (.iload_n 1, 1) := by decide +kernel
theorem dX2_entry_12 : decode cX2_entry 12 = .ok (.iaload, 1) := by decide +kernel
theorem dX2_entry_13 : decode cX2_entry 13 = .ok (.goto 4, 3) := by decide +kernel
theorem dX2_entry_16 : decode cX2_entry 16 = .ok (.iconst 0, 1) := by decide +kernel
theorem dX2_entry_17 : decode cX2_entry 17 = .ok (.ireturn, 1) := by decide +kernel
theorem dX3_init_0 : decode cX3_init 0 = .ok (.aload_n 0, 1) := by decide +kernel
theorem dX3_init_1 : decode cX3_init 1 = .ok (.invokespecial 3, 3) := by decide +kernel
theorem dX3_init_4 : decode cX3_init 4 = .ok (.aload_n 0, 1) := by decide +kernel
theorem dX3_init_5 : decode cX3_init 5 = .ok (.new 9, 3) := by decide +kernel
theorem dX3_init_8 : decode cX3_init 8 = .ok (.dup, 1) := by decide +kernel
theorem dX3_init_9 : decode cX3_init 9 = .ok (.invokespecial 11, 3) := by decide +kernel
theorem dX3_init_12 : decode cX3_init 12 = .ok (.putfield 12, 3) := by decide +kernel
theorem dX3_init_15 : decode cX3_init 15 = .ok (.return_, 1) := by decide +kernel
theorem dX3_startAs_0 : decode cX3_startAs 0 = .ok (.aload_n 0, 1) := by decide +kernel
theorem dX3_startAs_1 : decode cX3_startAs 1 = .ok (.iload_n 1, 1) := by decide +kernel
theorem dX3_startAs_2 : decode cX3_startAs 2 = .ok (.putfield 18, 3) := by decide +kernel
theorem dX3_startAs_5 : decode cX3_startAs 5 = .ok (.aload_n 0, 1) := by decide +kernel
theorem dX3_startAs_6 : decode cX3_startAs 6 = .ok (.iload_n 2, 1) := by decide +kernel
theorem dX3_startAs_7 : decode cX3_startAs 7 = .ok (.putfield 22, 3) := by decide +kernel
theorem dX3_startAs_10 : decode cX3_startAs 10 = .ok (.aload_n 0, 1) := by decide +kernel
theorem dX3_startAs_11 : decode cX3_startAs 11 = .ok (.iload_n 3, 1) := by decide +kernel
theorem dX3_startAs_12 : decode cX3_startAs 12 = .ok (.putfield 25, 3) := by decide +kernel
theorem dX3_startAs_15 : decode cX3_startAs 15 = .ok (.aload_n 0, 1) := by decide +kernel
theorem dX3_startAs_16 : decode cX3_startAs 16 = .ok (.iconst 0, 1) := by decide +kernel
theorem dX3_startAs_17 : decode cX3_startAs 17 = .ok (.putfield 30, 3) := by decide +kernel
theorem dX3_startAs_20 : decode cX3_startAs 20 = .ok (.aload_n 0, 1) := by decide +kernel
theorem dX3_startAs_21 : decode cX3_startAs 21 = .ok (.bipush 100, 2) := by decide +kernel
theorem dX3_startAs_23 : decode cX3_startAs 23 = .ok (.putfield 33, 3) := by decide +kernel
theorem dX3_startAs_26 : decode cX3_startAs 26 = .ok (.aload_n 0, 1) := by decide +kernel
theorem dX3_startAs_27 : decode cX3_startAs 27 = .ok (.iconst 1, 1) := by decide +kernel
theorem dX3_startAs_28 : decode cX3_startAs 28 = .ok (.putfield 36, 3) := by decide +kernel
theorem dX3_startAs_31 : decode cX3_startAs 31 = .ok (.aload_n 0, 1) := by decide +kernel
theorem dX3_startAs_32 : decode cX3_startAs 32 = .ok (.getfield 12, 3) := by decide +kernel
theorem dX3_startAs_35 : decode cX3_startAs 35 = .ok (.invokevirtual 40, 3) := by decide +kernel
theorem dX3_startAs_38 : decode cX3_startAs 38 = .ok (.return_, 1) := by decide +kernel
theorem dX3_copyFrom_0 : decode cX3_copyFrom 0 = .ok (.aload_n 0, 1) := by decide +kernel
theorem dX3_copyFrom_1 : decode cX3_copyFrom 1 = .ok (.aload_n 1, 1) := by decide +kernel
theorem dX3_copyFrom_2 : decode cX3_copyFrom 2 = .ok (.getfield 18, 3) := by decide +kernel
theorem dX3_copyFrom_5 : decode cX3_copyFrom 5 = .ok (.putfield 18, 3) := by decide +kernel
theorem dX3_copyFrom_8 : decode cX3_copyFrom 8 = .ok (.aload_n 0, 1) := by decide +kernel
theorem dX3_copyFrom_9 : decode cX3_copyFrom 9 = .ok (.aload_n 1, 1) := by decide +kernel
theorem dX3_copyFrom_10 : decode cX3_copyFrom 10 = .ok (.getfield 22, 3) := by decide +kernel
theorem dX3_copyFrom_13 : decode cX3_copyFrom 13 = .ok (.putfield 22, 3) := by decide +kernel
theorem dX3_copyFrom_16 : decode cX3_copyFrom 16 = .ok (.aload_n 0, 1) := by decide +kernel
theorem dX3_copyFrom_17 : decode cX3_copyFrom 17 = .ok (.aload_n 1, 1) := by decide +kernel
theorem dX3_copyFrom_18 : decode cX3_copyFrom 18 = .ok (.getfield 25, 3) := by decide +kernel
theorem dX3_copyFrom_21 : decode cX3_copyFrom 21 = .ok (.putfield 25, 3) := by decide +kernel
theorem dX3_copyFrom_24 : decode cX3_copyFrom 24 = .ok (.aload_n 0, 1) := by decide +kernel
theorem dX3_copyFrom_25 : decode cX3_copyFrom 25 = .ok (.aload_n 1, 1) := by decide +kernel
theorem dX3_copyFrom_26 : decode cX3_copyFrom 26 = .ok (.getfield 30, 3) := by decide +kernel
theorem dX3_copyFrom_29 : decode cX3_copyFrom 29 = .ok (.putfield 30, 3) := by decide +kernel
theorem dX3_copyFrom_32 : decode cX3_copyFrom 32 = .ok (.aload_n 0, 1) := by decide +kernel
theorem dX3_copyFrom_33 : decode cX3_copyFrom 33 = .ok (.aload_n 1, 1) := by decide +kernel
theorem dX3_copyFrom_34 : decode cX3_copyFrom 34 = .ok (.getfield 33, 3) := by decide +kernel
theorem dX3_copyFrom_37 : decode cX3_copyFrom 37 = .ok (.putfield 33, 3) := by decide +kernel
theorem dX3_copyFrom_40 : decode cX3_copyFrom 40 = .ok (.aload_n 0, 1) := by decide +kernel
theorem dX3_copyFrom_41 : decode cX3_copyFrom 41 = .ok (.aload_n 1, 1) := by decide +kernel
theorem dX3_copyFrom_42 : decode cX3_copyFrom 42 = .ok (.getfield 36, 3) := by decide +kernel
theorem dX3_copyFrom_45 : decode cX3_copyFrom 45 = .ok (.putfield 36, 3) := by decide +kernel
theorem dX3_copyFrom_48 : decode cX3_copyFrom 48 = .ok (.aload_n 0, 1) := by decide +kernel
theorem dX3_copyFrom_49 : decode cX3_copyFrom 49 = .ok (.getfield 12, 3) := by decide +kernel
theorem dX3_copyFrom_52 : decode cX3_copyFrom 52 = .ok (.aload_n 1, 1) := by decide +kernel
theorem dX3_copyFrom_53 : decode cX3_copyFrom 53 = .ok (.getfield 12, 3) := by decide +kernel
theorem dX3_copyFrom_56 : decode cX3_copyFrom 56 = .ok (.invokevirtual 43, 3) := by decide +kernel
theorem dX3_copyFrom_59 : decode cX3_copyFrom 59 = .ok (.return_, 1) := by decide +kernel
theorem dX3_seesNeighbourhood_0 : decode cX3_seesNeighbourhood 0 = .ok (.aload_n 0, 1) := by decide +kernel
theorem dX3_seesNeighbourhood_1 : decode cX3_seesNeighbourhood 1 = .ok (.getfield 18, 3) := by decide +kernel
theorem dX3_seesNeighbourhood_4 : decode cX3_seesNeighbourhood 4 = .ok (.bipush 6, 2) := by decide +kernel
theorem dX3_seesNeighbourhood_6 : decode cX3_seesNeighbourhood 6 = .ok (.bipush 10, 2) := by decide +kernel
theorem dX3_seesNeighbourhood_8 : decode cX3_seesNeighbourhood 8 = .ok (.invokestatic 47, 3) := by decide +kernel
theorem dX3_seesNeighbourhood_11 : decode cX3_seesNeighbourhood 11 = .ok (.ireturn, 1) := by decide +kernel
theorem dX3_reach_0 : decode cX3_reach 0 = .ok (.aload_n 0, 1) := by decide +kernel
theorem dX3_reach_1 : decode cX3_reach 1 = .ok (.invokevirtual 51, 3) := by decide +kernel
theorem dX3_reach_4 : decode cX3_reach 4 = .ok (.ifCond .eq 8, 3) := by decide +kernel
theorem dX3_reach_7 : decode cX3_reach 7 = .ok (.aload_n 0, 1) := by decide +kernel
theorem dX3_reach_8 : decode cX3_reach 8 = .ok (.getfield 22, 3) := by decide +kernel
theorem dX3_reach_11 : decode cX3_reach 11 = .ok (.ireturn, 1) := by decide +kernel
theorem dX3_reach_12 : decode cX3_reach 12 = .ok (.aload_n 0, 1) := by decide +kernel
theorem dX3_reach_13 : decode cX3_reach 13 = .ok (.getfield 18, 3) := by decide +kernel
theorem dX3_reach_16 : decode cX3_reach 16 = .ok (.bipush 11, 2) := by decide +kernel
theorem dX3_reach_18 : decode cX3_reach 18 = .ok (.if_icmp .ne 21, 3) := by decide +kernel
theorem dX3_reach_21 : decode cX3_reach 21 = .ok (.aload_n 0, 1) := by decide +kernel
theorem dX3_reach_22 : decode cX3_reach 22 = .ok (.getfield 22, 3) := by decide +kernel
theorem dX3_reach_25 : decode cX3_reach 25 = .ok (.invokestatic 55, 3) := by decide +kernel
theorem dX3_reach_28 : decode cX3_reach 28 = .ok (.aload_n 0, 1) := by decide +kernel
theorem dX3_reach_29 : decode cX3_reach 29 = .ok (.getfield 25, 3) := by decide +kernel
theorem dX3_reach_32 : decode cX3_reach 32 = .ok (.invokestatic 55, 3) := by decide +kernel
theorem dX3_reach_35 : decode cX3_reach 35 = .ok (.invokestatic 61, 3) := by decide +kernel
theorem dX3_reach_38 : decode cX3_reach 38 = .ok (.ireturn, 1) := by decide +kernel
theorem dX3_reach_39 : decode cX3_reach 39 = .ok (.aload_n 0, 1) := by decide +kernel
theorem dX3_reach_40 : decode cX3_reach 40 = .ok (.getfield 18, 3) := by decide +kernel
theorem dX3_reach_43 : decode cX3_reach 43 = .ok (.bipush 13, 2) := by decide +kernel
theorem dX3_reach_45 : decode cX3_reach 45 = .ok (.if_icmp .ne 8, 3) := by decide +kernel
theorem dX3_reach_48 : decode cX3_reach 48 = .ok (.bipush 16, 2) := by decide +kernel
theorem dX3_reach_50 : decode cX3_reach 50 = .ok (.goto 4, 3) := by decide +kernel
theorem dX3_reach_53 : decode cX3_reach 53 = .ok (.iconst 0, 1) := by decide +kernel
theorem dX3_reach_54 : decode cX3_reach 54 = .ok (.ireturn, 1) := by decide +kernel
theorem dX4_init_0 : decode cX4_init 0 = .ok (.aload_n 0, 1) := by decide +kernel
theorem dX4_init_1 : decode cX4_init 1 = .ok (.invokespecial 3, 3) := by decide +kernel
theorem dX4_init_4 : decode cX4_init 4 = .ok (.aload_n 0, 1) := by decide +kernel
theorem dX4_init_5 : decode cX4_init 5 = .ok (.bipush 18, 2) := by decide +kernel
theorem dX4_init_7 : decode cX4_init 7 = .ok (.newarray .int, 2) := by decide +kernel
theorem dX4_init_9 : decode cX4_init 9 = .ok (.putfield 11, 3) := by decide +kernel
theorem dX4_init_12 : decode cX4_init 12 = .ok (.return_, 1) := by decide +kernel
theorem dX4_allows_0 : decode cX4_allows 0 = .ok (.iload_n 0, 1) := by decide +kernel
theorem dX4_allows_1 : decode cX4_allows 1 = .ok (.tableswitch 142 0 4 #[35, 58, 105, 35, 35], 35) := by decide +kernel
theorem dX4_allows_36 : decode cX4_allows 36 = .ok (.iload_n 1, 1) := by decide +kernel
theorem dX4_allows_37 : decode cX4_allows 37 = .ok (.ifCond .ne 20, 3) := by decide +kernel
theorem dX4_allows_40 : decode cX4_allows 40 = .ok (.iload_n 2, 1) := by decide +kernel
theorem dX4_allows_41 : decode cX4_allows 41 = .ok (.ifCond .ne 16, 3) := by decide +kernel
theorem dX4_allows_44 : decode cX4_allows 44 = .ok (.iload_n 3, 1) := by decide +kernel
theorem dX4_allows_45 : decode cX4_allows 45 = .ok (.ifCond .ne 12, 3) := by decide +kernel
theorem dX4_allows_48 : decode cX4_allows 48 = .ok (.iload 4, 2) := by decide +kernel
theorem dX4_allows_50 : decode cX4_allows 50 = .ok (.ifCond .ne 7, 3) := by decide +kernel
theorem dX4_allows_53 : decode cX4_allows 53 = .ok (.iconst 1, 1) := by decide +kernel
theorem dX4_allows_54 : decode cX4_allows 54 = .ok (.goto 4, 3) := by decide +kernel
theorem dX4_allows_57 : decode cX4_allows 57 = .ok (.iconst 0, 1) := by decide +kernel
theorem dX4_allows_58 : decode cX4_allows 58 = .ok (.ireturn, 1) := by decide +kernel
theorem dX4_allows_59 : decode cX4_allows 59 = .ok (.iload_n 1, 1) := by decide +kernel
theorem dX4_allows_60 : decode cX4_allows 60 = .ok (.iconst 0, 1) := by decide +kernel
theorem dX4_allows_61 : decode cX4_allows 61 = .ok (.bipush 15, 2) := by decide +kernel
theorem dX4_allows_63 : decode cX4_allows 63 = .ok (.invokestatic 15, 3) := by decide +kernel
theorem dX4_allows_66 : decode cX4_allows 66 = .ok (.ifCond .eq 38, 3) := by decide +kernel
theorem dX4_allows_69 : decode cX4_allows 69 = .ok (.iload_n 3, 1) := by decide +kernel
theorem dX4_allows_70 : decode cX4_allows 70 = .ok (.iload_n 1, 1) := by decide +kernel
theorem dX4_allows_71 : decode cX4_allows 71 = .ok (.bipush 15, 2) := by decide +kernel
theorem dX4_allows_73 : decode cX4_allows 73 = .ok (.invokestatic 15, 3) := by decide +kernel
theorem dX4_allows_76 : decode cX4_allows 76 = .ok (.ifCond .eq 28, 3) := by decide +kernel
theorem dX4_allows_79 : decode cX4_allows 79 = .ok (.iload_n 2, 1) := by decide +kernel
theorem dX4_allows_80 : decode cX4_allows 80 = .ok (.iconst 0, 1) := by decide +kernel
theorem dX4_allows_81 : decode cX4_allows 81 = .ok (.bipush 15, 2) := by decide +kernel
theorem dX4_allows_83 : decode cX4_allows 83 = .ok (.invokestatic 15, 3) := by decide +kernel
theorem dX4_allows_86 : decode cX4_allows 86 = .ok (.ifCond .eq 18, 3) := by decide +kernel
theorem dX4_allows_89 : decode cX4_allows 89 = .ok (.iload 4, 2) := by decide +kernel
theorem dX4_allows_91 : decode cX4_allows 91 = .ok (.iload_n 2, 1) := by decide +kernel
theorem dX4_allows_92 : decode cX4_allows 92 = .ok (.bipush 15, 2) := by decide +kernel
theorem dX4_allows_94 : decode cX4_allows 94 = .ok (.invokestatic 15, 3) := by decide +kernel
theorem dX4_allows_97 : decode cX4_allows 97 = .ok (.ifCond .eq 7, 3) := by decide +kernel
theorem dX4_allows_100 : decode cX4_allows 100 = .ok (.iconst 1, 1) := by decide +kernel
theorem dX4_allows_101 : decode cX4_allows 101 = .ok (.goto 4, 3) := by decide +kernel
theorem dX4_allows_104 : decode cX4_allows 104 = .ok (.iconst 0, 1) := by decide +kernel
theorem dX4_allows_105 : decode cX4_allows 105 = .ok (.ireturn, 1) := by decide +kernel
theorem dX4_allows_106 : decode cX4_allows 106 = .ok (.iload_n 1, 1) := by decide +kernel
theorem dX4_allows_107 : decode cX4_allows 107 = .ok (.iconst 0, 1) := by decide +kernel
theorem dX4_allows_108 : decode cX4_allows 108 = .ok (.bipush 14, 2) := by decide +kernel
theorem dX4_allows_110 : decode cX4_allows 110 = .ok (.invokestatic 15, 3) := by decide +kernel
theorem dX4_allows_113 : decode cX4_allows 113 = .ok (.ifCond .eq 28, 3) := by decide +kernel
theorem dX4_allows_116 : decode cX4_allows 116 = .ok (.iload_n 3, 1) := by decide +kernel
theorem dX4_allows_117 : decode cX4_allows 117 = .ok (.iload_n 1, 1) := by decide +kernel
theorem dX4_allows_118 : decode cX4_allows 118 = .ok (.iconst 1, 1) := by decide +kernel
theorem dX4_allows_119 : decode cX4_allows 119 = .ok (.iadd, 1) := by decide +kernel
theorem dX4_allows_120 : decode cX4_allows 120 = .ok (.bipush 15, 2) := by decide +kernel
theorem dX4_allows_122 : decode cX4_allows 122 = .ok (.invokestatic 15, 3) := by decide +kernel
theorem dX4_allows_125 : decode cX4_allows 125 = .ok (.ifCond .eq 16, 3) := by decide +kernel
theorem dX4_allows_128 : decode cX4_allows 128 = .ok (.iload_n 2, 1) := by decide +kernel
theorem dX4_allows_129 : decode cX4_allows 129 = .ok (.ifCond .ne 12, 3) := by decide +kernel
theorem dX4_allows_132 : decode cX4_allows 132 = .ok (.iload 4, 2) := by decide +kernel
theorem dX4_allows_134 : decode cX4_allows 134 = .ok (.ifCond .ne 7, 3) := by decide +kernel
theorem dX4_allows_137 : decode cX4_allows 137 = .ok (.iconst 1, 1) := by decide +kernel
theorem dX4_allows_138 : decode cX4_allows 138 = .ok (.goto 4, 3) := by decide +kernel
theorem dX4_allows_141 : decode cX4_allows 141 = .ok (.iconst 0, 1) := by decide +kernel
theorem dX4_allows_142 : decode cX4_allows 142 = .ok (.ireturn, 1) := by decide +kernel
theorem dX4_allows_143 : decode cX4_allows 143 = .ok (.iconst 0, 1) := by decide +kernel
theorem dX4_allows_144 : decode cX4_allows 144 = .ok (.ireturn, 1) := by decide +kernel
theorem dX4_define_0 : decode cX4_define 0 = .ok (.aload_n 0, 1) := by decide +kernel
theorem dX4_define_1 : decode cX4_define 1 = .ok (.iload_n 1, 1) := by decide +kernel
theorem dX4_define_2 : decode cX4_define 2 = .ok (.putfield 19, 3) := by decide +kernel
theorem dX4_define_5 : decode cX4_define 5 = .ok (.aload_n 0, 1) := by decide +kernel
theorem dX4_define_6 : decode cX4_define 6 = .ok (.iload_n 2, 1) := by decide +kernel
theorem dX4_define_7 : decode cX4_define 7 = .ok (.putfield 23, 3) := by decide +kernel
theorem dX4_define_10 : decode cX4_define 10 = .ok (.aload_n 0, 1) := by decide +kernel
theorem dX4_define_11 : decode cX4_define 11 = .ok (.iload_n 3, 1) := by decide +kernel
theorem dX4_define_12 : decode cX4_define 12 = .ok (.putfield 26, 3) := by decide +kernel
theorem dX4_define_15 : decode cX4_define 15 = .ok (.aload_n 0, 1) := by decide +kernel
theorem dX4_define_16 : decode cX4_define 16 = .ok (.iload 4, 2) := by decide +kernel
theorem dX4_define_18 : decode cX4_define 18 = .ok (.putfield 29, 3) := by decide +kernel
theorem dX4_define_21 : decode cX4_define 21 = .ok (.aload_n 0, 1) := by decide +kernel
theorem dX4_define_22 : decode cX4_define 22 = .ok (.iload 5, 2) := by decide +kernel
theorem dX4_define_24 : decode cX4_define 24 = .ok (.putfield 32, 3) := by decide +kernel
theorem dX4_define_27 : decode cX4_define 27 = .ok (.return_, 1) := by decide +kernel
theorem dX4_startAnew_0 : decode cX4_startAnew 0 = .ok (.aload_n 0, 1) := by decide +kernel
theorem dX4_startAnew_1 : decode cX4_startAnew 1 = .ok (.iconst 0, 1) := by decide +kernel
theorem dX4_startAnew_2 : decode cX4_startAnew 2 = .ok (.iconst 0, 1) := by decide +kernel
theorem dX4_startAnew_3 : decode cX4_startAnew 3 = .ok (.iconst 0, 1) := by decide +kernel
theorem dX4_startAnew_4 : decode cX4_startAnew 4 = .ok (.iconst 0, 1) := by decide +kernel
theorem dX4_startAnew_5 : decode cX4_startAnew 5 = .ok (.iconst 0, 1) := by decide +kernel
theorem dX4_startAnew_6 : decode cX4_startAnew 6 = .ok (.invokevirtual 35, 3) := by decide +kernel
theorem dX4_startAnew_9 : decode cX4_startAnew 9 = .ok (.aload_n 0, 1) := by decide +kernel
theorem dX4_startAnew_10 : decode cX4_startAnew 10 = .ok (.iconst 0, 1) := by decide +kernel
theorem dX4_startAnew_11 : decode cX4_startAnew 11 = .ok (.putfield 39, 3) := by decide +kernel
theorem dX4_startAnew_14 : decode cX4_startAnew 14 = .ok (.aload_n 0, 1) := by decide +kernel
theorem dX4_startAnew_15 : decode cX4_startAnew 15 = .ok (.iconst 0, 1) := by decide +kernel
theorem dX4_startAnew_16 : decode cX4_startAnew 16 = .ok (.putfield 42, 3) := by decide +kernel
theorem dX4_startAnew_19 : decode cX4_startAnew 19 = .ok (.aload_n 0, 1) := by decide +kernel
theorem dX4_startAnew_20 : decode cX4_startAnew 20 = .ok (.iconst 0, 1) := by decide +kernel
theorem dX4_startAnew_21 : decode cX4_startAnew 21 = .ok (.putfield 46, 3) := by decide +kernel
theorem dX4_startAnew_24 : decode cX4_startAnew 24 = .ok (.return_, 1) := by decide +kernel
theorem dX4_copyFrom_0 : decode cX4_copyFrom 0 = .ok (.aload_n 0, 1) := by decide +kernel
theorem dX4_copyFrom_1 : decode cX4_copyFrom 1 = .ok (.aload_n 1, 1) := by decide +kernel
theorem dX4_copyFrom_2 : decode cX4_copyFrom 2 = .ok (.getfield 19, 3) := by decide +kernel
theorem dX4_copyFrom_5 : decode cX4_copyFrom 5 = .ok (.aload_n 1, 1) := by decide +kernel
theorem dX4_copyFrom_6 : decode cX4_copyFrom 6 = .ok (.getfield 23, 3) := by decide +kernel
theorem dX4_copyFrom_9 : decode cX4_copyFrom 9 = .ok (.aload_n 1, 1) := by decide +kernel
theorem dX4_copyFrom_10 : decode cX4_copyFrom 10 = .ok (.getfield 26, 3) := by decide +kernel
theorem dX4_copyFrom_13 : decode cX4_copyFrom 13 = .ok (.aload_n 1, 1) := by decide +kernel
theorem dX4_copyFrom_14 : decode cX4_copyFrom 14 = .ok (.getfield 29, 3) := by decide +kernel
theorem dX4_copyFrom_17 : decode cX4_copyFrom 17 = .ok (.aload_n 1, 1) := by decide +kernel
theorem dX4_copyFrom_18 : decode cX4_copyFrom 18 = .ok (.getfield 32, 3) := by decide +kernel
theorem dX4_copyFrom_21 : decode cX4_copyFrom 21 = .ok (.invokevirtual 35, 3) := by decide +kernel
theorem dX4_copyFrom_24 : decode cX4_copyFrom 24 = .ok (.aload_n 0, 1) := by decide +kernel
theorem dX4_copyFrom_25 : decode cX4_copyFrom 25 = .ok (.aload_n 1, 1) := by decide +kernel
theorem dX4_copyFrom_26 : decode cX4_copyFrom 26 = .ok (.getfield 39, 3) := by decide +kernel
theorem dX4_copyFrom_29 : decode cX4_copyFrom 29 = .ok (.putfield 39, 3) := by decide +kernel
theorem dX4_copyFrom_32 : decode cX4_copyFrom 32 = .ok (.aload_n 0, 1) := by decide +kernel
theorem dX4_copyFrom_33 : decode cX4_copyFrom 33 = .ok (.aload_n 1, 1) := by decide +kernel
theorem dX4_copyFrom_34 : decode cX4_copyFrom 34 = .ok (.getfield 42, 3) := by decide +kernel
theorem dX4_copyFrom_37 : decode cX4_copyFrom 37 = .ok (.putfield 42, 3) := by decide +kernel
theorem dX4_copyFrom_40 : decode cX4_copyFrom 40 = .ok (.aload_n 0, 1) := by decide +kernel
theorem dX4_copyFrom_41 : decode cX4_copyFrom 41 = .ok (.aload_n 1, 1) := by decide +kernel
theorem dX4_copyFrom_42 : decode cX4_copyFrom 42 = .ok (.getfield 46, 3) := by decide +kernel
theorem dX4_copyFrom_45 : decode cX4_copyFrom 45 = .ok (.putfield 46, 3) := by decide +kernel
theorem dX4_copyFrom_48 : decode cX4_copyFrom 48 = .ok (.iconst 0, 1) := by decide +kernel
theorem dX4_copyFrom_49 : decode cX4_copyFrom 49 = .ok (.istore_n 2, 1) := by decide +kernel
theorem dX4_copyFrom_50 : decode cX4_copyFrom 50 = .ok (.iload_n 2, 1) := by decide +kernel
theorem dX4_copyFrom_51 : decode cX4_copyFrom 51 = .ok (.aload_n 0, 1) := by decide +kernel
theorem dX4_copyFrom_52 : decode cX4_copyFrom 52 = .ok (.getfield 11, 3) := by decide +kernel
theorem dX4_copyFrom_55 : decode cX4_copyFrom 55 = .ok (.arraylength, 1) := by decide +kernel
theorem dX4_copyFrom_56 : decode cX4_copyFrom 56 = .ok (.if_icmp .ge 30, 3) := by decide +kernel
theorem dX4_copyFrom_59 : decode cX4_copyFrom 59 = .ok (.iload_n 2, 1) := by decide +kernel
theorem dX4_copyFrom_60 : decode cX4_copyFrom 60 = .ok (.aload_n 1, 1) := by decide +kernel
theorem dX4_copyFrom_61 : decode cX4_copyFrom 61 = .ok (.getfield 11, 3) := by decide +kernel
theorem dX4_copyFrom_64 : decode cX4_copyFrom 64 = .ok (.arraylength, 1) := by decide +kernel
theorem dX4_copyFrom_65 : decode cX4_copyFrom 65 = .ok (.if_icmp .ge 21, 3) := by decide +kernel
theorem dX4_copyFrom_68 : decode cX4_copyFrom 68 = .ok (.aload_n 0, 1) := by decide +kernel
theorem dX4_copyFrom_69 : decode cX4_copyFrom 69 = .ok (.getfield 11, 3) := by decide +kernel
theorem dX4_copyFrom_72 : decode cX4_copyFrom 72 = .ok (.iload_n 2, 1) := by decide +kernel
theorem dX4_copyFrom_73 : decode cX4_copyFrom 73 = .ok (.aload_n 1, 1) := by decide +kernel
theorem dX4_copyFrom_74 : decode cX4_copyFrom 74 = .ok (.getfield 11, 3) := by decide +kernel
theorem dX4_copyFrom_77 : decode cX4_copyFrom 77 = .ok (.iload_n 2, 1) := by decide +kernel
theorem dX4_copyFrom_78 : decode cX4_copyFrom 78 = .ok (.iaload, 1) := by decide +kernel
theorem dX4_copyFrom_79 : decode cX4_copyFrom 79 = .ok (.iastore, 1) := by decide +kernel
theorem dX4_copyFrom_80 : decode cX4_copyFrom 80 = .ok (.iinc 2 1, 3) := by decide +kernel
theorem dX4_copyFrom_83 : decode cX4_copyFrom 83 = .ok (.goto (-33), 3) := by decide +kernel
theorem dX4_copyFrom_86 : decode cX4_copyFrom 86 = .ok (.return_, 1) := by decide +kernel
theorem dX4_addDab_0 : decode cX4_addDab 0 = .ok (.iconst 3, 1) := by decide +kernel
theorem dX4_addDab_1 : decode cX4_addDab 1 = .ok (.aload_n 0, 1) := by decide +kernel
theorem dX4_addDab_2 : decode cX4_addDab 2 = .ok (.getfield 46, 3) := by decide +kernel
theorem dX4_addDab_5 : decode cX4_addDab 5 = .ok (.imul, 1) := by decide +kernel
theorem dX4_addDab_6 : decode cX4_addDab 6 = .ok (.istore 4, 2) := by decide +kernel
theorem dX4_addDab_8 : decode cX4_addDab 8 = .ok (.iload 4, 2) := by decide +kernel
theorem dX4_addDab_10 : decode cX4_addDab 10 = .ok (.ifCond .lt 15, 3) := by decide +kernel
theorem dX4_addDab_13 : decode cX4_addDab 13 = .ok (.iload 4, 2) := by decide +kernel
theorem dX4_addDab_15 : decode cX4_addDab 15 = .ok (.iconst 2, 1) := by decide +kernel
theorem dX4_addDab_16 : decode cX4_addDab 16 = .ok (.iadd, 1) := by decide +kernel
theorem dX4_addDab_17 : decode cX4_addDab 17 = .ok (.aload_n 0, 1) := by decide +kernel
theorem dX4_addDab_18 : decode cX4_addDab 18 = .ok (.getfield 11, 3) := by decide +kernel
theorem dX4_addDab_21 : decode cX4_addDab 21 = .ok (.arraylength, 1) := by decide +kernel
theorem dX4_addDab_22 : decode cX4_addDab 22 = .ok (.if_icmp .lt 4, 3) := by decide +kernel
theorem dX4_addDab_25 : decode cX4_addDab 25 = .ok (.return_, 1) := by decide +kernel
theorem dX4_addDab_26 : decode cX4_addDab 26 = .ok (.aload_n 0, 1) := by decide +kernel
theorem dX4_addDab_27 : decode cX4_addDab 27 = .ok (.getfield 11, 3) := by decide +kernel
theorem dX4_addDab_30 : decode cX4_addDab 30 = .ok (.iload 4, 2) := by decide +kernel
theorem dX4_addDab_32 : decode cX4_addDab 32 = .ok (.iload_n 1, 1) := by decide +kernel
theorem dX4_addDab_33 : decode cX4_addDab 33 = .ok (.iastore, 1) := by decide +kernel
theorem dX4_addDab_34 : decode cX4_addDab 34 = .ok (.aload_n 0, 1) := by decide +kernel
theorem dX4_addDab_35 : decode cX4_addDab 35 = .ok (.getfield 11, 3) := by decide +kernel
theorem dX4_addDab_38 : decode cX4_addDab 38 = .ok (.iload 4, 2) := by decide +kernel
theorem dX4_addDab_40 : decode cX4_addDab 40 = .ok (.iconst 1, 1) := by decide +kernel
theorem dX4_addDab_41 : decode cX4_addDab 41 = .ok (.iadd, 1) := by decide +kernel
theorem dX4_addDab_42 : decode cX4_addDab 42 = .ok (.iload_n 2, 1) := by decide +kernel
theorem dX4_addDab_43 : decode cX4_addDab 43 = .ok (.iastore, 1) := by decide +kernel
theorem dX4_addDab_44 : decode cX4_addDab 44 = .ok (.aload_n 0, 1) := by decide +kernel
theorem dX4_addDab_45 : decode cX4_addDab 45 = .ok (.getfield 11, 3) := by decide +kernel
theorem dX4_addDab_48 : decode cX4_addDab 48 = .ok (.iload 4, 2) := by decide +kernel
theorem dX4_addDab_50 : decode cX4_addDab 50 = .ok (.iconst 2, 1) := by decide +kernel
theorem dX4_addDab_51 : decode cX4_addDab 51 = .ok (.iadd, 1) := by decide +kernel
theorem dX4_addDab_52 : decode cX4_addDab 52 = .ok (.iload_n 3, 1) := by decide +kernel
theorem dX4_addDab_53 : decode cX4_addDab 53 = .ok (.iastore, 1) := by decide +kernel
theorem dX4_addDab_54 : decode cX4_addDab 54 = .ok (.aload_n 0, 1) := by decide +kernel
theorem dX4_addDab_55 : decode cX4_addDab 55 = .ok (.dup, 1) := by decide +kernel
theorem dX4_addDab_56 : decode cX4_addDab 56 = .ok (.getfield 46, 3) := by decide +kernel
theorem dX4_addDab_59 : decode cX4_addDab 59 = .ok (.iconst 1, 1) := by decide +kernel
theorem dX4_addDab_60 : decode cX4_addDab 60 = .ok (.iadd, 1) := by decide +kernel
theorem dX4_addDab_61 : decode cX4_addDab 61 = .ok (.putfield 46, 3) := by decide +kernel
theorem dX4_addDab_64 : decode cX4_addDab 64 = .ok (.return_, 1) := by decide +kernel
theorem dX4_weightAt_0 : decode cX4_weightAt 0 = .ok (.sipush 255, 3) := by decide +kernel
theorem dX4_weightAt_3 : decode cX4_weightAt 3 = .ok (.istore 4, 2) := by decide +kernel
theorem dX4_weightAt_5 : decode cX4_weightAt 5 = .ok (.aload_n 0, 1) := by decide +kernel
theorem dX4_weightAt_6 : decode cX4_weightAt 6 = .ok (.getfield 19, 3) := by decide +kernel
theorem dX4_weightAt_9 : decode cX4_weightAt 9 = .ok (.iconst 1, 1) := by decide +kernel
theorem dX4_weightAt_10 : decode cX4_weightAt 10 = .ok (.if_icmp .ne 14, 3) := by decide +kernel
theorem dX4_weightAt_13 : decode cX4_weightAt 13 = .ok (.aload_n 0, 1) := by decide +kernel
theorem dX4_weightAt_14 : decode cX4_weightAt 14 = .ok (.iload_n 1, 1) := by decide +kernel
theorem dX4_weightAt_15 : decode cX4_weightAt 15 = .ok (.iload_n 2, 1) := by decide +kernel
theorem dX4_weightAt_16 : decode cX4_weightAt 16 = .ok (.invokevirtual 49, 3) := by decide +kernel
theorem dX4_weightAt_19 : decode cX4_weightAt 19 = .ok (.istore 4, 2) := by decide +kernel
theorem dX4_weightAt_21 : decode cX4_weightAt 21 = .ok (.goto 61, 3) := by decide +kernel
theorem dX4_weightAt_24 : decode cX4_weightAt 24 = .ok (.aload_n 0, 1) := by decide +kernel
theorem dX4_weightAt_25 : decode cX4_weightAt 25 = .ok (.getfield 19, 3) := by decide +kernel
theorem dX4_weightAt_28 : decode cX4_weightAt 28 = .ok (.iconst 2, 1) := by decide +kernel
theorem dX4_weightAt_29 : decode cX4_weightAt 29 = .ok (.if_icmp .ne 13, 3) := by decide +kernel
theorem dX4_weightAt_32 : decode cX4_weightAt 32 = .ok (.aload_n 0, 1) := by decide +kernel
theorem dX4_weightAt_33 : decode cX4_weightAt 33 = .ok (.iload_n 1, 1) := by decide +kernel
theorem dX4_weightAt_34 : decode cX4_weightAt 34 = .ok (.invokevirtual 53, 3) := by decide +kernel
theorem dX4_weightAt_37 : decode cX4_weightAt 37 = .ok (.istore 4, 2) := by decide +kernel
theorem dX4_weightAt_39 : decode cX4_weightAt 39 = .ok (.goto 43, 3) := by decide +kernel
theorem dX4_weightAt_42 : decode cX4_weightAt 42 = .ok (.aload_n 0, 1) := by decide +kernel
theorem dX4_weightAt_43 : decode cX4_weightAt 43 = .ok (.getfield 19, 3) := by decide +kernel
theorem dX4_weightAt_46 : decode cX4_weightAt 46 = .ok (.iconst 3, 1) := by decide +kernel
theorem dX4_weightAt_47 : decode cX4_weightAt 47 = .ok (.if_icmp .ne 9, 3) := by decide +kernel
theorem dX4_weightAt_50 : decode cX4_weightAt 50 = .ok (.iload_n 3, 1) := by decide +kernel
theorem dX4_weightAt_51 : decode cX4_weightAt 51 = .ok (.istore 4, 2) := by decide +kernel
theorem dX4_weightAt_53 : decode cX4_weightAt 53 = .ok (.goto 29, 3) := by decide +kernel
theorem dX4_weightAt_56 : decode cX4_weightAt 56 = .ok (.aload_n 0, 1) := by decide +kernel
theorem dX4_weightAt_57 : decode cX4_weightAt 57 = .ok (.getfield 19, 3) := by decide +kernel
theorem dX4_weightAt_60 : decode cX4_weightAt 60 = .ok (.iconst 4, 1) := by decide +kernel
theorem dX4_weightAt_61 : decode cX4_weightAt 61 = .ok (.if_icmp .ne 21, 3) := by decide +kernel
theorem dX4_weightAt_64 : decode cX4_weightAt 64 = .ok (.aload_n 0, 1) := by decide +kernel
theorem dX4_weightAt_65 : decode cX4_weightAt 65 = .ok (.iload_n 1, 1) := by decide +kernel
theorem dX4_weightAt_66 : decode cX4_weightAt 66 = .ok (.iload_n 2, 1) := by decide +kernel
theorem dX4_weightAt_67 : decode cX4_weightAt 67 = .ok (.invokevirtual 57, 3) := by decide +kernel
theorem dX4_weightAt_70 : decode cX4_weightAt 70 = .ok (.ifCond .eq 9, 3) := by decide +kernel
theorem dX4_weightAt_73 : decode cX4_weightAt 73 = .ok (.sipush 255, 3) := by decide +kernel
theorem dX4_weightAt_76 : decode cX4_weightAt 76 = .ok (.goto 4, 3) := by decide +kernel
theorem dX4_weightAt_79 : decode cX4_weightAt 79 = .ok (.iconst 0, 1) := by decide +kernel
theorem dX4_weightAt_80 : decode cX4_weightAt 80 = .ok (.istore 4, 2) := by decide +kernel
theorem dX4_weightAt_82 : decode cX4_weightAt 82 = .ok (.aload_n 0, 1) := by decide +kernel
theorem dX4_weightAt_83 : decode cX4_weightAt 83 = .ok (.getfield 42, 3) := by decide +kernel
theorem dX4_weightAt_86 : decode cX4_weightAt 86 = .ok (.ifCond .eq 12, 3) := by decide +kernel
theorem dX4_weightAt_89 : decode cX4_weightAt 89 = .ok (.sipush 255, 3) := by decide +kernel
theorem dX4_weightAt_92 : decode cX4_weightAt 92 = .ok (.iload 4, 2) := by decide +kernel
theorem dX4_weightAt_94 : decode cX4_weightAt 94 = .ok (.isub, 1) := by decide +kernel
theorem dX4_weightAt_95 : decode cX4_weightAt 95 = .ok (.goto 5, 3) := by decide +kernel
theorem dX4_weightAt_98 : decode cX4_weightAt 98 = .ok (.iload 4, 2) := by decide +kernel
theorem dX4_weightAt_100 : decode cX4_weightAt 100 = .ok (.ireturn, 1) := by decide +kernel
theorem dX4_rectangleWeightAt_0 : decode cX4_rectangleWeightAt 0 = .ok (.aload_n 0, 1) := by decide +kernel
theorem dX4_rectangleWeightAt_1 : decode cX4_rectangleWeightAt 1 = .ok (.getfield 23, 3) := by decide +kernel
theorem dX4_rectangleWeightAt_4 : decode cX4_rectangleWeightAt 4 = .ok (.iload_n 1, 1) := by decide +kernel
theorem dX4_rectangleWeightAt_5 : decode cX4_rectangleWeightAt 5 = .ok (.isub, 1) := by decide +kernel
theorem dX4_rectangleWeightAt_6 : decode cX4_rectangleWeightAt 6 = .ok (.iload_n 1, 1) := by decide +kernel
theorem dX4_rectangleWeightAt_7 : decode cX4_rectangleWeightAt 7 = .ok (.aload_n 0, 1) := by decide +kernel
theorem dX4_rectangleWeightAt_8 : decode cX4_rectangleWeightAt 8 = .ok (.getfield 29, 3) := by decide +kernel
theorem dX4_rectangleWeightAt_11 : decode cX4_rectangleWeightAt 11 = .ok (.isub, 1) := by decide +kernel
theorem dX4_rectangleWeightAt_12 : decode cX4_rectangleWeightAt 12 = .ok (.invokestatic 61, 3) := by decide +kernel
theorem dX4_rectangleWeightAt_15 : decode cX4_rectangleWeightAt 15 = .ok (.istore_n 3, 1) := by decide +kernel
theorem dX4_rectangleWeightAt_16 : decode cX4_rectangleWeightAt 16 = .ok (.aload_n 0, 1) := by decide +kernel
theorem dX4_rectangleWeightAt_17 : decode cX4_rectangleWeightAt 17 = .ok (.getfield 26, 3) := by decide +kernel
theorem dX4_rectangleWeightAt_20 : decode cX4_rectangleWeightAt 20 = .ok (.iload_n 2, 1) := by decide +kernel
theorem dX4_rectangleWeightAt_21 : decode cX4_rectangleWeightAt 21 = .ok (.isub, 1) := by decide +kernel
theorem dX4_rectangleWeightAt_22 : decode cX4_rectangleWeightAt 22 = .ok (.iload_n 2, 1) := by decide +kernel
theorem dX4_rectangleWeightAt_23 : decode cX4_rectangleWeightAt 23 = .ok (.aload_n 0, 1) := by decide +kernel
theorem dX4_rectangleWeightAt_24 : decode cX4_rectangleWeightAt 24 = .ok (.getfield 32, 3) := by decide +kernel
theorem dX4_rectangleWeightAt_27 : decode cX4_rectangleWeightAt 27 = .ok (.isub, 1) := by decide +kernel
theorem dX4_rectangleWeightAt_28 : decode cX4_rectangleWeightAt 28 = .ok (.invokestatic 61, 3) := by decide +kernel
theorem dX4_rectangleWeightAt_31 : decode cX4_rectangleWeightAt 31 = .ok (.istore 4, 2) := by decide +kernel
theorem dX4_rectangleWeightAt_33 : decode cX4_rectangleWeightAt 33 = .ok (.iconst 0, 1) := by decide +kernel
theorem dX4_rectangleWeightAt_34 : decode cX4_rectangleWeightAt 34 = .ok (.iload_n 3, 1) := by decide +kernel
theorem dX4_rectangleWeightAt_35 : decode cX4_rectangleWeightAt 35 = .ok (.iload 4, 2) := by decide +kernel
theorem dX4_rectangleWeightAt_37 : decode cX4_rectangleWeightAt 37 = .ok (.invokestatic 61, 3) := by decide +kernel
theorem dX4_rectangleWeightAt_40 : decode cX4_rectangleWeightAt 40 = .ok (.invokestatic 61, 3) := by decide +kernel
theorem dX4_rectangleWeightAt_43 : decode cX4_rectangleWeightAt 43 = .ok (.istore 5, 2) := by decide +kernel
theorem dX4_rectangleWeightAt_45 : decode cX4_rectangleWeightAt 45 = .ok (.aload_n 0, 1) := by decide +kernel
theorem dX4_rectangleWeightAt_46 : decode cX4_rectangleWeightAt 46 = .ok (.getfield 39, 3) := by decide +kernel
theorem dX4_rectangleWeightAt_49 : decode cX4_rectangleWeightAt 49 = .ok (.iconst 1, 1) := by decide +kernel
theorem dX4_rectangleWeightAt_50 : decode cX4_rectangleWeightAt 50 = .ok (.iadd, 1) := by decide +kernel
theorem dX4_rectangleWeightAt_51 : decode cX4_rectangleWeightAt 51 = .ok (.istore 6, 2) := by decide +kernel
theorem dX4_rectangleWeightAt_53 : decode cX4_rectangleWeightAt 53 = .ok (.iload 6, 2) := by decide +kernel
theorem dX4_rectangleWeightAt_55 : decode cX4_rectangleWeightAt 55 = .ok (.ifCond .le 25, 3) := by decide +kernel
theorem dX4_rectangleWeightAt_58 : decode cX4_rectangleWeightAt 58 = .ok (.iload 5, 2) := by decide +kernel
theorem dX4_rectangleWeightAt_60 : decode cX4_rectangleWeightAt 60 = .ok (.iload 6, 2) := by decide +kernel
theorem dX4_rectangleWeightAt_62 : decode cX4_rectangleWeightAt 62 = .ok (.if_icmp .ge 18, 3) := by decide +kernel
theorem dX4_rectangleWeightAt_65 : decode cX4_rectangleWeightAt 65 = .ok (.sipush 255, 3) := by decide +kernel
theorem dX4_rectangleWeightAt_68 : decode cX4_rectangleWeightAt 68 = .ok (.iload 6, 2) := by decide +kernel
theorem dX4_rectangleWeightAt_70 : decode cX4_rectangleWeightAt 70 = .ok (.iload 5, 2) := by decide +kernel
theorem dX4_rectangleWeightAt_72 : decode cX4_rectangleWeightAt 72 = .ok (.isub, 1) := by decide +kernel
theorem dX4_rectangleWeightAt_73 : decode cX4_rectangleWeightAt 73 = .ok (.imul, 1) := by decide +kernel
theorem dX4_rectangleWeightAt_74 : decode cX4_rectangleWeightAt 74 = .ok (.iload 6, 2) := by decide +kernel
theorem dX4_rectangleWeightAt_76 : decode cX4_rectangleWeightAt 76 = .ok (.idiv, 1) := by decide +kernel
theorem dX4_rectangleWeightAt_77 : decode cX4_rectangleWeightAt 77 = .ok (.goto 4, 3) := by decide +kernel
theorem dX4_rectangleWeightAt_80 : decode cX4_rectangleWeightAt 80 = .ok (.iconst 0, 1) := by decide +kernel
theorem dX4_rectangleWeightAt_81 : decode cX4_rectangleWeightAt 81 = .ok (.ireturn, 1) := by decide +kernel
theorem dX4_gradientWeightAt_0 : decode cX4_gradientWeightAt 0 = .ok (.iload_n 1, 1) := by decide +kernel
theorem dX4_gradientWeightAt_1 : decode cX4_gradientWeightAt 1 = .ok (.aload_n 0, 1) := by decide +kernel
theorem dX4_gradientWeightAt_2 : decode cX4_gradientWeightAt 2 = .ok (.getfield 23, 3) := by decide +kernel
theorem dX4_gradientWeightAt_5 : decode cX4_gradientWeightAt 5 = .ok (.if_icmp .gt 5, 3) := by decide +kernel
theorem dX4_gradientWeightAt_8 : decode cX4_gradientWeightAt 8 = .ok (.iconst 0, 1) := by decide +kernel
theorem dX4_gradientWeightAt_9 : decode cX4_gradientWeightAt 9 = .ok (.ireturn, 1) := by decide +kernel
theorem dX4_gradientWeightAt_10 : decode cX4_gradientWeightAt 10 = .ok (.aload_n 0, 1) := by decide +kernel
theorem dX4_gradientWeightAt_11 : decode cX4_gradientWeightAt 11 = .ok (.getfield 29, 3) := by decide +kernel
theorem dX4_gradientWeightAt_14 : decode cX4_gradientWeightAt 14 = .ok (.aload_n 0, 1) := by decide +kernel
theorem dX4_gradientWeightAt_15 : decode cX4_gradientWeightAt 15 = .ok (.getfield 23, 3) := by decide +kernel
theorem dX4_gradientWeightAt_18 : decode cX4_gradientWeightAt 18 = .ok (.isub, 1) := by decide +kernel
theorem dX4_gradientWeightAt_19 : decode cX4_gradientWeightAt 19 = .ok (.istore_n 2, 1) := by decide +kernel
theorem dX4_gradientWeightAt_20 : decode cX4_gradientWeightAt 20 = .ok (.iload_n 1, 1) := by decide +kernel
theorem dX4_gradientWeightAt_21 : decode cX4_gradientWeightAt 21 = .ok (.aload_n 0, 1) := by decide +kernel
theorem dX4_gradientWeightAt_22 : decode cX4_gradientWeightAt 22 = .ok (.getfield 29, 3) := by decide +kernel
theorem dX4_gradientWeightAt_25 : decode cX4_gradientWeightAt 25 = .ok (.if_icmp .ge 7, 3) := by decide +kernel
theorem dX4_gradientWeightAt_28 : decode cX4_gradientWeightAt 28 = .ok (.iload_n 2, 1) := by decide +kernel
theorem dX4_gradientWeightAt_29 : decode cX4_gradientWeightAt 29 = .ok (.ifCond .gt 9, 3) := by decide +kernel
theorem dX4_gradientWeightAt_32 : decode cX4_gradientWeightAt 32 = .ok (.sipush 255, 3) := by decide +kernel
theorem dX4_gradientWeightAt_35 : decode cX4_gradientWeightAt 35 = .ok (.goto 15, 3) := by decide +kernel
theorem dX4_gradientWeightAt_38 : decode cX4_gradientWeightAt 38 = .ok (.sipush 255, 3) := by decide +kernel
theorem dX4_gradientWeightAt_41 : decode cX4_gradientWeightAt 41 = .ok (.iload_n 1, 1) := by decide +kernel
theorem dX4_gradientWeightAt_42 : decode cX4_gradientWeightAt 42 = .ok (.aload_n 0, 1) := by decide +kernel
theorem dX4_gradientWeightAt_43 : decode cX4_gradientWeightAt 43 = .ok (.getfield 23, 3) := by decide +kernel
theorem dX4_gradientWeightAt_46 : decode cX4_gradientWeightAt 46 = .ok (.isub, 1) := by decide +kernel
theorem dX4_gradientWeightAt_47 : decode cX4_gradientWeightAt 47 = .ok (.imul, 1) := by decide +kernel
theorem dX4_gradientWeightAt_48 : decode cX4_gradientWeightAt 48 = .ok (.iload_n 2, 1) := by decide +kernel
theorem dX4_gradientWeightAt_49 : decode cX4_gradientWeightAt 49 = .ok (.idiv, 1) := by decide +kernel
theorem dX4_gradientWeightAt_50 : decode cX4_gradientWeightAt 50 = .ok (.ireturn, 1) := by decide +kernel
theorem dX4_isDabbed_0 : decode cX4_isDabbed 0 = .ok (.iconst 3, 1) := by decide +kernel
theorem dX4_isDabbed_1 : decode cX4_isDabbed 1 = .ok (.aload_n 0, 1) := by decide +kernel
theorem dX4_isDabbed_2 : decode cX4_isDabbed 2 = .ok (.getfield 46, 3) := by decide +kernel
theorem dX4_isDabbed_5 : decode cX4_isDabbed 5 = .ok (.imul, 1) := by decide +kernel
theorem dX4_isDabbed_6 : decode cX4_isDabbed 6 = .ok (.istore_n 3, 1) := by decide +kernel
theorem dX4_isDabbed_7 : decode cX4_isDabbed 7 = .ok (.iconst 0, 1) := by decide +kernel
theorem dX4_isDabbed_8 : decode cX4_isDabbed 8 = .ok (.istore 4, 2) := by decide +kernel
theorem dX4_isDabbed_10 : decode cX4_isDabbed 10 = .ok (.iload 4, 2) := by decide +kernel
theorem dX4_isDabbed_12 : decode cX4_isDabbed 12 = .ok (.iconst 2, 1) := by decide +kernel
theorem dX4_isDabbed_13 : decode cX4_isDabbed 13 = .ok (.iadd, 1) := by decide +kernel
theorem dX4_isDabbed_14 : decode cX4_isDabbed 14 = .ok (.aload_n 0, 1) := by decide +kernel
theorem dX4_isDabbed_15 : decode cX4_isDabbed 15 = .ok (.getfield 11, 3) := by decide +kernel
theorem dX4_isDabbed_18 : decode cX4_isDabbed 18 = .ok (.arraylength, 1) := by decide +kernel
theorem dX4_isDabbed_19 : decode cX4_isDabbed 19 = .ok (.if_icmp .ge 71, 3) := by decide +kernel
theorem dX4_isDabbed_22 : decode cX4_isDabbed 22 = .ok (.iload 4, 2) := by decide +kernel
theorem dX4_isDabbed_24 : decode cX4_isDabbed 24 = .ok (.iload_n 3, 1) := by decide +kernel
theorem dX4_isDabbed_25 : decode cX4_isDabbed 25 = .ok (.if_icmp .ge 65, 3) := by decide +kernel
theorem dX4_isDabbed_28 : decode cX4_isDabbed 28 = .ok (.iload_n 1, 1) := by decide +kernel
theorem dX4_isDabbed_29 : decode cX4_isDabbed 29 = .ok (.aload_n 0, 1) := by decide +kernel
theorem dX4_isDabbed_30 : decode cX4_isDabbed 30 = .ok (.getfield 11, 3) := by decide +kernel
theorem dX4_isDabbed_33 : decode cX4_isDabbed 33 = .ok (.iload 4, 2) := by decide +kernel
theorem dX4_isDabbed_35 : decode cX4_isDabbed 35 = .ok (.iaload, 1) := by decide +kernel
theorem dX4_isDabbed_36 : decode cX4_isDabbed 36 = .ok (.isub, 1) := by decide +kernel
theorem dX4_isDabbed_37 : decode cX4_isDabbed 37 = .ok (.istore 5, 2) := by decide +kernel
theorem dX4_isDabbed_39 : decode cX4_isDabbed 39 = .ok (.iload_n 2, 1) := by decide +kernel
theorem dX4_isDabbed_40 : decode cX4_isDabbed 40 = .ok (.aload_n 0, 1) := by decide +kernel
theorem dX4_isDabbed_41 : decode cX4_isDabbed 41 = .ok (.getfield 11, 3) := by decide +kernel
theorem dX4_isDabbed_44 : decode cX4_isDabbed 44 = .ok (.iload 4, 2) := by decide +kernel
theorem dX4_isDabbed_46 : decode cX4_isDabbed 46 = .ok (.iconst 1, 1) := by decide +kernel
theorem dX4_isDabbed_47 : decode cX4_isDabbed 47 = .ok (.iadd, 1) := by decide +kernel
theorem dX4_isDabbed_48 : decode cX4_isDabbed 48 = .ok (.iaload, 1) := by decide +kernel
theorem dX4_isDabbed_49 : decode cX4_isDabbed 49 = .ok (.isub, 1) := by decide +kernel
theorem dX4_isDabbed_50 : decode cX4_isDabbed 50 = .ok (.istore 6, 2) := by decide +kernel
theorem dX4_isDabbed_52 : decode cX4_isDabbed 52 = .ok (.aload_n 0, 1) := by decide +kernel
theorem dX4_isDabbed_53 : decode cX4_isDabbed 53 = .ok (.getfield 11, 3) := by decide +kernel
theorem dX4_isDabbed_56 : decode cX4_isDabbed 56 = .ok (.iload 4, 2) := by decide +kernel
theorem dX4_isDabbed_58 : decode cX4_isDabbed 58 = .ok (.iconst 2, 1) := by decide +kernel
theorem dX4_isDabbed_59 : decode cX4_isDabbed 59 = .ok (.iadd, 1) := by decide +kernel
theorem dX4_isDabbed_60 : decode cX4_isDabbed 60 = .ok (.iaload, 1) := by decide +kernel
theorem dX4_isDabbed_61 : decode cX4_isDabbed 61 = .ok (.istore 7, 2) := by decide +kernel
theorem dX4_isDabbed_63 : decode cX4_isDabbed 63 = .ok (.iload 5, 2) := by decide +kernel
theorem dX4_isDabbed_65 : decode cX4_isDabbed 65 = .ok (.iload 5, 2) := by decide +kernel
theorem dX4_isDabbed_67 : decode cX4_isDabbed 67 = .ok (.imul, 1) := by decide +kernel
theorem dX4_isDabbed_68 : decode cX4_isDabbed 68 = .ok (.iload 6, 2) := by decide +kernel
theorem dX4_isDabbed_70 : decode cX4_isDabbed 70 = .ok (.iload 6, 2) := by decide +kernel
theorem dX4_isDabbed_72 : decode cX4_isDabbed 72 = .ok (.imul, 1) := by decide +kernel
theorem dX4_isDabbed_73 : decode cX4_isDabbed 73 = .ok (.iadd, 1) := by decide +kernel
theorem dX4_isDabbed_74 : decode cX4_isDabbed 74 = .ok (.iload 7, 2) := by decide +kernel
theorem dX4_isDabbed_76 : decode cX4_isDabbed 76 = .ok (.iload 7, 2) := by decide +kernel
theorem dX4_isDabbed_78 : decode cX4_isDabbed 78 = .ok (.imul, 1) := by decide +kernel
theorem dX4_isDabbed_79 : decode cX4_isDabbed 79 = .ok (.if_icmp .gt 5, 3) := by decide +kernel
theorem dX4_isDabbed_82 : decode cX4_isDabbed 82 = .ok (.iconst 1, 1) := by decide +kernel
theorem dX4_isDabbed_83 : decode cX4_isDabbed 83 = .ok (.ireturn, 1) := by decide +kernel
theorem dX4_isDabbed_84 : decode cX4_isDabbed 84 = .ok (.iinc 4 3, 3) := by decide +kernel
theorem dX4_isDabbed_87 : decode cX4_isDabbed 87 = .ok (.goto (-77), 3) := by decide +kernel
theorem dX4_isDabbed_90 : decode cX4_isDabbed 90 = .ok (.iconst 0, 1) := by decide +kernel
theorem dX4_isDabbed_91 : decode cX4_isDabbed 91 = .ok (.ireturn, 1) := by decide +kernel
theorem dX5_blended_0 : decode cX5_blended 0 = .ok (.iload_n 0, 1) := by decide +kernel
theorem dX5_blended_1 : decode cX5_blended 1 = .ok (.tableswitch 108 1 7 #[43, 53, 75, 81, 87, 94, 101], 43) := by decide +kernel
theorem dX5_blended_44 : decode cX5_blended 44 = .ok (.iload_n 1, 1) := by decide +kernel
theorem dX5_blended_45 : decode cX5_blended 45 = .ok (.iload_n 2, 1) := by decide +kernel
theorem dX5_blended_46 : decode cX5_blended 46 = .ok (.imul, 1) := by decide +kernel
theorem dX5_blended_47 : decode cX5_blended 47 = .ok (.sipush 255, 3) := by decide +kernel
theorem dX5_blended_50 : decode cX5_blended 50 = .ok (.invokestatic 9, 3) := by decide +kernel
theorem dX5_blended_53 : decode cX5_blended 53 = .ok (.ireturn, 1) := by decide +kernel
theorem dX5_blended_54 : decode cX5_blended 54 = .ok (.sipush 255, 3) := by decide +kernel
theorem dX5_blended_57 : decode cX5_blended 57 = .ok (.sipush 255, 3) := by decide +kernel
theorem dX5_blended_60 : decode cX5_blended 60 = .ok (.iload_n 1, 1) := by decide +kernel
theorem dX5_blended_61 : decode cX5_blended 61 = .ok (.isub, 1) := by decide +kernel
theorem dX5_blended_62 : decode cX5_blended 62 = .ok (.sipush 255, 3) := by decide +kernel
theorem dX5_blended_65 : decode cX5_blended 65 = .ok (.iload_n 2, 1) := by decide +kernel
theorem dX5_blended_66 : decode cX5_blended 66 = .ok (.isub, 1) := by decide +kernel
theorem dX5_blended_67 : decode cX5_blended 67 = .ok (.imul, 1) := by decide +kernel
theorem dX5_blended_68 : decode cX5_blended 68 = .ok (.sipush 255, 3) := by decide +kernel
theorem dX5_blended_71 : decode cX5_blended 71 = .ok (.invokestatic 9, 3) := by decide +kernel
theorem dX5_blended_74 : decode cX5_blended 74 = .ok (.isub, 1) := by decide +kernel
theorem dX5_blended_75 : decode cX5_blended 75 = .ok (.ireturn, 1) := by decide +kernel
theorem dX5_blended_76 : decode cX5_blended 76 = .ok (.iload_n 1, 1) := by decide +kernel
theorem dX5_blended_77 : decode cX5_blended 77 = .ok (.iload_n 2, 1) := by decide +kernel
theorem dX5_blended_78 : decode cX5_blended 78 = .ok (.invokestatic 13, 3) := by decide +kernel
theorem dX5_blended_81 : decode cX5_blended 81 = .ok (.ireturn, 1) := by decide +kernel
theorem dX5_blended_82 : decode cX5_blended 82 = .ok (.iload_n 1, 1) := by decide +kernel
theorem dX5_blended_83 : decode cX5_blended 83 = .ok (.iload_n 2, 1) := by decide +kernel
theorem dX5_blended_84 : decode cX5_blended 84 = .ok (.invokestatic 18, 3) := by decide +kernel
theorem dX5_blended_87 : decode cX5_blended 87 = .ok (.ireturn, 1) := by decide +kernel
theorem dX5_blended_88 : decode cX5_blended 88 = .ok (.iload_n 1, 1) := by decide +kernel
theorem dX5_blended_89 : decode cX5_blended 89 = .ok (.iload_n 2, 1) := by decide +kernel
theorem dX5_blended_90 : decode cX5_blended 90 = .ok (.isub, 1) := by decide +kernel
theorem dX5_blended_91 : decode cX5_blended 91 = .ok (.invokestatic 21, 3) := by decide +kernel
theorem dX5_blended_94 : decode cX5_blended 94 = .ok (.ireturn, 1) := by decide +kernel
theorem dX5_blended_95 : decode cX5_blended 95 = .ok (.iload_n 1, 1) := by decide +kernel
theorem dX5_blended_96 : decode cX5_blended 96 = .ok (.iload_n 2, 1) := by decide +kernel
theorem dX5_blended_97 : decode cX5_blended 97 = .ok (.iadd, 1) := by decide +kernel
theorem dX5_blended_98 : decode cX5_blended 98 = .ok (.invokestatic 25, 3) := by decide +kernel
theorem dX5_blended_101 : decode cX5_blended 101 = .ok (.ireturn, 1) := by decide +kernel
theorem dX5_blended_102 : decode cX5_blended 102 = .ok (.iload_n 1, 1) := by decide +kernel
theorem dX5_blended_103 : decode cX5_blended 103 = .ok (.iload_n 2, 1) := by decide +kernel
theorem dX5_blended_104 : decode cX5_blended 104 = .ok (.isub, 1) := by decide +kernel
theorem dX5_blended_105 : decode cX5_blended 105 = .ok (.invokestatic 25, 3) := by decide +kernel
theorem dX5_blended_108 : decode cX5_blended 108 = .ok (.ireturn, 1) := by decide +kernel
theorem dX5_blended_109 : decode cX5_blended 109 = .ok (.iload_n 2, 1) := by decide +kernel
theorem dX5_blended_110 : decode cX5_blended 110 = .ok (.ireturn, 1) := by decide +kernel
theorem dX6_init_0 : decode cX6_init 0 = .ok (.aload_n 0, 1) := by decide +kernel
theorem dX6_init_1 : decode cX6_init 1 = .ok (.invokespecial 3, 3) := by decide +kernel
theorem dX6_init_4 : decode cX6_init 4 = .ok (.aload_n 0, 1) := by decide +kernel
theorem dX6_init_5 : decode cX6_init 5 = .ok (.sipush 256, 3) := by decide +kernel
theorem dX6_init_8 : decode cX6_init 8 = .ok (.newarray .int, 2) := by decide +kernel
theorem dX6_init_10 : decode cX6_init 10 = .ok (.putfield 9, 3) := by decide +kernel
theorem dX6_init_13 : decode cX6_init 13 = .ok (.return_, 1) := by decide +kernel
theorem dX6_startAs_0 : decode cX6_startAs 0 = .ok (.aload_n 0, 1) := by decide +kernel
theorem dX6_startAs_1 : decode cX6_startAs 1 = .ok (.iload_n 1, 1) := by decide +kernel
theorem dX6_startAs_2 : decode cX6_startAs 2 = .ok (.putfield 15, 3) := by decide +kernel
theorem dX6_startAs_5 : decode cX6_startAs 5 = .ok (.aload_n 0, 1) := by decide +kernel
theorem dX6_startAs_6 : decode cX6_startAs 6 = .ok (.iload_n 2, 1) := by decide +kernel
theorem dX6_startAs_7 : decode cX6_startAs 7 = .ok (.putfield 19, 3) := by decide +kernel
theorem dX6_startAs_10 : decode cX6_startAs 10 = .ok (.iconst 0, 1) := by decide +kernel
theorem dX6_startAs_11 : decode cX6_startAs 11 = .ok (.istore_n 3, 1) := by decide +kernel
theorem dX6_startAs_12 : decode cX6_startAs 12 = .ok (.iload_n 3, 1) := by decide +kernel
theorem dX6_startAs_13 : decode cX6_startAs 13 = .ok (.aload_n 0, 1) := by decide +kernel
theorem dX6_startAs_14 : decode cX6_startAs 14 = .ok (.getfield 19, 3) := by decide +kernel
theorem dX6_startAs_17 : decode cX6_startAs 17 = .ok (.if_icmp .ge 48, 3) := by decide +kernel
theorem dX6_startAs_20 : decode cX6_startAs 20 = .ok (.iconst 0, 1) := by decide +kernel
theorem dX6_startAs_21 : decode cX6_startAs 21 = .ok (.istore 4, 2) := by decide +kernel
theorem dX6_startAs_23 : decode cX6_startAs 23 = .ok (.iload 4, 2) := by decide +kernel
theorem dX6_startAs_25 : decode cX6_startAs 25 = .ok (.aload_n 0, 1) := by decide +kernel
theorem dX6_startAs_26 : decode cX6_startAs 26 = .ok (.getfield 15, 3) := by decide +kernel
theorem dX6_startAs_29 : decode cX6_startAs 29 = .ok (.if_icmp .ge 30, 3) := by decide +kernel
theorem dX6_startAs_32 : decode cX6_startAs 32 = .ok (.aload_n 0, 1) := by decide +kernel
theorem dX6_startAs_33 : decode cX6_startAs 33 = .ok (.iload 4, 2) := by decide +kernel
theorem dX6_startAs_35 : decode cX6_startAs 35 = .ok (.iload_n 3, 1) := by decide +kernel
theorem dX6_startAs_36 : decode cX6_startAs 36 = .ok (.bipush 17, 2) := by decide +kernel
theorem dX6_startAs_38 : decode cX6_startAs 38 = .ok (.iload 4, 2) := by decide +kernel
theorem dX6_startAs_40 : decode cX6_startAs 40 = .ok (.imul, 1) := by decide +kernel
theorem dX6_startAs_41 : decode cX6_startAs 41 = .ok (.bipush 29, 2) := by decide +kernel
theorem dX6_startAs_43 : decode cX6_startAs 43 = .ok (.iload_n 3, 1) := by decide +kernel
theorem dX6_startAs_44 : decode cX6_startAs 44 = .ok (.imul, 1) := by decide +kernel
theorem dX6_startAs_45 : decode cX6_startAs 45 = .ok (.iadd, 1) := by decide +kernel
theorem dX6_startAs_46 : decode cX6_startAs 46 = .ok (.sipush 255, 3) := by decide +kernel
theorem dX6_startAs_49 : decode cX6_startAs 49 = .ok (.iand, 1) := by decide +kernel
theorem dX6_startAs_50 : decode cX6_startAs 50 = .ok (.invokevirtual 22, 3) := by decide +kernel
theorem dX6_startAs_53 : decode cX6_startAs 53 = .ok (.iinc 4 1, 3) := by decide +kernel
theorem dX6_startAs_56 : decode cX6_startAs 56 = .ok (.goto (-33), 3) := by decide +kernel
theorem dX6_startAs_59 : decode cX6_startAs 59 = .ok (.iinc 3 1, 3) := by decide +kernel
theorem dX6_startAs_62 : decode cX6_startAs 62 = .ok (.goto (-50), 3) := by decide +kernel
theorem dX6_startAs_65 : decode cX6_startAs 65 = .ok (.return_, 1) := by decide +kernel
theorem dX6_contains_0 : decode cX6_contains 0 = .ok (.iload_n 1, 1) := by decide +kernel
theorem dX6_contains_1 : decode cX6_contains 1 = .ok (.ifCond .lt 27, 3) := by decide +kernel
theorem dX6_contains_4 : decode cX6_contains 4 = .ok (.iload_n 1, 1) := by decide +kernel
theorem dX6_contains_5 : decode cX6_contains 5 = .ok (.aload_n 0, 1) := by decide +kernel
theorem dX6_contains_6 : decode cX6_contains 6 = .ok (.getfield 15, 3) := by decide +kernel
theorem dX6_contains_9 : decode cX6_contains 9 = .ok (.if_icmp .ge 19, 3) := by decide +kernel
theorem dX6_contains_12 : decode cX6_contains 12 = .ok (.iload_n 2, 1) := by decide +kernel
theorem dX6_contains_13 : decode cX6_contains 13 = .ok (.ifCond .lt 15, 3) := by decide +kernel
theorem dX6_contains_16 : decode cX6_contains 16 = .ok (.iload_n 2, 1) := by decide +kernel
theorem dX6_contains_17 : decode cX6_contains 17 = .ok (.aload_n 0, 1) := by decide +kernel
theorem dX6_contains_18 : decode cX6_contains 18 = .ok (.getfield 19, 3) := by decide +kernel
theorem dX6_contains_21 : decode cX6_contains 21 = .ok (.if_icmp .ge 7, 3) := by decide +kernel
theorem dX6_contains_24 : decode cX6_contains 24 = .ok (.iconst 1, 1) := by decide +kernel
theorem dX6_contains_25 : decode cX6_contains 25 = .ok (.goto 4, 3) := by decide +kernel
theorem dX6_contains_28 : decode cX6_contains 28 = .ok (.iconst 0, 1) := by decide +kernel
theorem dX6_contains_29 : decode cX6_contains 29 = .ok (.ireturn, 1) := by decide +kernel
theorem dX6_at_0 : decode cX6_at 0 = .ok (.iload_n 2, 1) := by decide +kernel
theorem dX6_at_1 : decode cX6_at 1 = .ok (.bipush 16, 2) := by decide +kernel
theorem dX6_at_3 : decode cX6_at 3 = .ok (.imul, 1) := by decide +kernel
theorem dX6_at_4 : decode cX6_at 4 = .ok (.iload_n 1, 1) := by decide +kernel
theorem dX6_at_5 : decode cX6_at 5 = .ok (.iadd, 1) := by decide +kernel
theorem dX6_at_6 : decode cX6_at 6 = .ok (.istore_n 3, 1) := by decide +kernel
theorem dX6_at_7 : decode cX6_at 7 = .ok (.iload_n 3, 1) := by decide +kernel
theorem dX6_at_8 : decode cX6_at 8 = .ok (.ifCond .lt 21, 3) := by decide +kernel
theorem dX6_at_11 : decode cX6_at 11 = .ok (.iload_n 3, 1) := by decide +kernel
theorem dX6_at_12 : decode cX6_at 12 = .ok (.aload_n 0, 1) := by decide +kernel
theorem dX6_at_13 : decode cX6_at 13 = .ok (.getfield 9, 3) := by decide +kernel
theorem dX6_at_16 : decode cX6_at 16 = .ok (.arraylength, 1) := by decide +kernel
theorem dX6_at_17 : decode cX6_at 17 = .ok (.if_icmp .ge 12, 3) := by decide +kernel
theorem dX6_at_20 : decode cX6_at 20 = .ok (.aload_n 0, 1) := by decide +kernel
theorem dX6_at_21 : decode cX6_at 21 = .ok (.getfield 9, 3) := by decide +kernel
theorem dX6_at_24 : decode cX6_at 24 = .ok (.iload_n 3, 1) := by decide +kernel
theorem dX6_at_25 : decode cX6_at 25 = .ok (.iaload, 1) := by decide +kernel
theorem dX6_at_26 : decode cX6_at 26 = .ok (.goto 4, 3) := by decide +kernel
theorem dX6_at_29 : decode cX6_at 29 = .ok (.iconst 0, 1) := by decide +kernel
theorem dX6_at_30 : decode cX6_at 30 = .ok (.ireturn, 1) := by decide +kernel
theorem dX6_atNearest_0 : decode cX6_atNearest 0 = .ok (.aload_n 0, 1) := by decide +kernel
theorem dX6_atNearest_1 : decode cX6_atNearest 1 = .ok (.iconst 0, 1) := by decide +kernel
theorem dX6_atNearest_2 : decode cX6_atNearest 2 = .ok (.iload_n 1, 1) := by decide +kernel
theorem dX6_atNearest_3 : decode cX6_atNearest 3 = .ok (.aload_n 0, 1) := by decide +kernel
theorem dX6_atNearest_4 : decode cX6_atNearest 4 = .ok (.getfield 15, 3) := by decide +kernel
theorem dX6_atNearest_7 : decode cX6_atNearest 7 = .ok (.iconst 1, 1) := by decide +kernel
theorem dX6_atNearest_8 : decode cX6_atNearest 8 = .ok (.isub, 1) := by decide +kernel
theorem dX6_atNearest_9 : decode cX6_atNearest 9 = .ok (.invokestatic 26, 3) := by decide +kernel
theorem dX6_atNearest_12 : decode cX6_atNearest 12 = .ok (.invokestatic 32, 3) := by decide +kernel
theorem dX6_atNearest_15 : decode cX6_atNearest 15 = .ok (.iconst 0, 1) := by decide +kernel
theorem dX6_atNearest_16 : decode cX6_atNearest 16 = .ok (.iload_n 2, 1) := by decide +kernel
theorem dX6_atNearest_17 : decode cX6_atNearest 17 = .ok (.aload_n 0, 1) := by decide +kernel
theorem dX6_atNearest_18 : decode cX6_atNearest 18 = .ok (.getfield 19, 3) := by decide +kernel
theorem dX6_atNearest_21 : decode cX6_atNearest 21 = .ok (.iconst 1, 1) := by decide +kernel
theorem dX6_atNearest_22 : decode cX6_atNearest 22 = .ok (.isub, 1) := by decide +kernel
theorem dX6_atNearest_23 : decode cX6_atNearest 23 = .ok (.invokestatic 26, 3) := by decide +kernel
theorem dX6_atNearest_26 : decode cX6_atNearest 26 = .ok (.invokestatic 32, 3) := by decide +kernel
theorem dX6_atNearest_29 : decode cX6_atNearest 29 = .ok (.invokevirtual 35, 3) := by decide +kernel
theorem dX6_atNearest_32 : decode cX6_atNearest 32 = .ok (.ireturn, 1) := by decide +kernel
theorem dX6_put_0 : decode cX6_put 0 = .ok (.iload_n 2, 1) := by decide +kernel
theorem dX6_put_1 : decode cX6_put 1 = .ok (.bipush 16, 2) := by decide +kernel
theorem dX6_put_3 : decode cX6_put 3 = .ok (.imul, 1) := by decide +kernel
theorem dX6_put_4 : decode cX6_put 4 = .ok (.iload_n 1, 1) := by decide +kernel
theorem dX6_put_5 : decode cX6_put 5 = .ok (.iadd, 1) := by decide +kernel
theorem dX6_put_6 : decode cX6_put 6 = .ok (.istore 4, 2) := by decide +kernel
theorem dX6_put_8 : decode cX6_put 8 = .ok (.iload 4, 2) := by decide +kernel
theorem dX6_put_10 : decode cX6_put 10 = .ok (.ifCond .lt 21, 3) := by decide +kernel
theorem dX6_put_13 : decode cX6_put 13 = .ok (.iload 4, 2) := by decide +kernel
theorem dX6_put_15 : decode cX6_put 15 = .ok (.aload_n 0, 1) := by decide +kernel
theorem dX6_put_16 : decode cX6_put 16 = .ok (.getfield 9, 3) := by decide +kernel
theorem dX6_put_19 : decode cX6_put 19 = .ok (.arraylength, 1) := by decide +kernel
theorem dX6_put_20 : decode cX6_put 20 = .ok (.if_icmp .ge 11, 3) := by decide +kernel
theorem dX6_put_23 : decode cX6_put 23 = .ok (.aload_n 0, 1) := by decide +kernel
theorem dX6_put_24 : decode cX6_put 24 = .ok (.getfield 9, 3) := by decide +kernel
theorem dX6_put_27 : decode cX6_put 27 = .ok (.iload 4, 2) := by decide +kernel
theorem dX6_put_29 : decode cX6_put 29 = .ok (.iload_n 3, 1) := by decide +kernel
theorem dX6_put_30 : decode cX6_put 30 = .ok (.iastore, 1) := by decide +kernel
theorem dX6_put_31 : decode cX6_put 31 = .ok (.return_, 1) := by decide +kernel
theorem dX6_copyFrom_0 : decode cX6_copyFrom 0 = .ok (.aload_n 0, 1) := by decide +kernel
theorem dX6_copyFrom_1 : decode cX6_copyFrom 1 = .ok (.aload_n 1, 1) := by decide +kernel
theorem dX6_copyFrom_2 : decode cX6_copyFrom 2 = .ok (.invokevirtual 38, 3) := by decide +kernel
theorem dX6_copyFrom_5 : decode cX6_copyFrom 5 = .ok (.iconst 0, 1) := by decide +kernel
theorem dX6_copyFrom_6 : decode cX6_copyFrom 6 = .ok (.istore_n 2, 1) := by decide +kernel
theorem dX6_copyFrom_7 : decode cX6_copyFrom 7 = .ok (.iload_n 2, 1) := by decide +kernel
theorem dX6_copyFrom_8 : decode cX6_copyFrom 8 = .ok (.aload_n 0, 1) := by decide +kernel
theorem dX6_copyFrom_9 : decode cX6_copyFrom 9 = .ok (.getfield 19, 3) := by decide +kernel
theorem dX6_copyFrom_12 : decode cX6_copyFrom 12 = .ok (.if_icmp .ge 37, 3) := by decide +kernel
theorem dX6_copyFrom_15 : decode cX6_copyFrom 15 = .ok (.iconst 0, 1) := by decide +kernel
theorem dX6_copyFrom_16 : decode cX6_copyFrom 16 = .ok (.istore_n 3, 1) := by decide +kernel
theorem dX6_copyFrom_17 : decode cX6_copyFrom 17 = .ok (.iload_n 3, 1) := by decide +kernel
theorem dX6_copyFrom_18 : decode cX6_copyFrom 18 = .ok (.aload_n 0, 1) := by decide +kernel
theorem dX6_copyFrom_19 : decode cX6_copyFrom 19 = .ok (.getfield 15, 3) := by decide +kernel
theorem dX6_copyFrom_22 : decode cX6_copyFrom 22 = .ok (.if_icmp .ge 21, 3) := by decide +kernel
theorem dX6_copyFrom_25 : decode cX6_copyFrom 25 = .ok (.aload_n 0, 1) := by decide +kernel
theorem dX6_copyFrom_26 : decode cX6_copyFrom 26 = .ok (.iload_n 3, 1) := by decide +kernel
theorem dX6_copyFrom_27 : decode cX6_copyFrom 27 = .ok (.iload_n 2, 1) := by decide +kernel
theorem dX6_copyFrom_28 : decode cX6_copyFrom 28 = .ok (.aload_n 1, 1) := by decide +kernel
theorem dX6_copyFrom_29 : decode cX6_copyFrom 29 = .ok (.iload_n 3, 1) := by decide +kernel
theorem dX6_copyFrom_30 : decode cX6_copyFrom 30 = .ok (.iload_n 2, 1) := by decide +kernel
theorem dX6_copyFrom_31 : decode cX6_copyFrom 31 = .ok (.invokevirtual 35, 3) := by decide +kernel
theorem dX6_copyFrom_34 : decode cX6_copyFrom 34 = .ok (.invokevirtual 22, 3) := by decide +kernel
theorem dX6_copyFrom_37 : decode cX6_copyFrom 37 = .ok (.iinc 3 1, 3) := by decide +kernel
theorem dX6_copyFrom_40 : decode cX6_copyFrom 40 = .ok (.goto (-23), 3) := by decide +kernel
theorem dX6_copyFrom_43 : decode cX6_copyFrom 43 = .ok (.iinc 2 1, 3) := by decide +kernel
theorem dX6_copyFrom_46 : decode cX6_copyFrom 46 = .ok (.goto (-39), 3) := by decide +kernel
theorem dX6_copyFrom_49 : decode cX6_copyFrom 49 = .ok (.return_, 1) := by decide +kernel
theorem dX6_takeSizeOf_0 : decode cX6_takeSizeOf 0 = .ok (.aload_n 0, 1) := by decide +kernel
theorem dX6_takeSizeOf_1 : decode cX6_takeSizeOf 1 = .ok (.aload_n 1, 1) := by decide +kernel
theorem dX6_takeSizeOf_2 : decode cX6_takeSizeOf 2 = .ok (.getfield 15, 3) := by decide +kernel
theorem dX6_takeSizeOf_5 : decode cX6_takeSizeOf 5 = .ok (.putfield 15, 3) := by decide +kernel
theorem dX6_takeSizeOf_8 : decode cX6_takeSizeOf 8 = .ok (.aload_n 0, 1) := by decide +kernel
theorem dX6_takeSizeOf_9 : decode cX6_takeSizeOf 9 = .ok (.aload_n 1, 1) := by decide +kernel
theorem dX6_takeSizeOf_10 : decode cX6_takeSizeOf 10 = .ok (.getfield 19, 3) := by decide +kernel
theorem dX6_takeSizeOf_13 : decode cX6_takeSizeOf 13 = .ok (.putfield 19, 3) := by decide +kernel
theorem dX6_takeSizeOf_16 : decode cX6_takeSizeOf 16 = .ok (.return_, 1) := by decide +kernel
theorem dX6_hasSizeOf_0 : decode cX6_hasSizeOf 0 = .ok (.aload_n 0, 1) := by decide +kernel
theorem dX6_hasSizeOf_1 : decode cX6_hasSizeOf 1 = .ok (.getfield 15, 3) := by decide +kernel
theorem dX6_hasSizeOf_4 : decode cX6_hasSizeOf 4 = .ok (.aload_n 1, 1) := by decide +kernel
theorem dX6_hasSizeOf_5 : decode cX6_hasSizeOf 5 = .ok (.getfield 15, 3) := by decide +kernel
theorem dX6_hasSizeOf_8 : decode cX6_hasSizeOf 8 = .ok (.if_icmp .ne 18, 3) := by decide +kernel
theorem dX6_hasSizeOf_11 : decode cX6_hasSizeOf 11 = .ok (.aload_n 0, 1) := by decide +kernel
theorem dX6_hasSizeOf_12 : decode cX6_hasSizeOf 12 = .ok (.getfield 19, 3) := by decide +kernel
theorem dX6_hasSizeOf_15 : decode cX6_hasSizeOf 15 = .ok (.aload_n 1, 1) := by decide +kernel
theorem dX6_hasSizeOf_16 : decode cX6_hasSizeOf 16 = .ok (.getfield 19, 3) := by decide +kernel
theorem dX6_hasSizeOf_19 : decode cX6_hasSizeOf 19 = .ok (.if_icmp .ne 7, 3) := by decide +kernel
theorem dX6_hasSizeOf_22 : decode cX6_hasSizeOf 22 = .ok (.iconst 1, 1) := by decide +kernel
theorem dX6_hasSizeOf_23 : decode cX6_hasSizeOf 23 = .ok (.goto 4, 3) := by decide +kernel
theorem dX6_hasSizeOf_26 : decode cX6_hasSizeOf 26 = .ok (.iconst 0, 1) := by decide +kernel
theorem dX6_hasSizeOf_27 : decode cX6_hasSizeOf 27 = .ok (.ireturn, 1) := by decide +kernel
theorem dX6_absoluteDifference_0 : decode cX6_absoluteDifference 0 = .ok (.iconst 0, 1) := by decide +kernel
theorem dX6_absoluteDifference_1 : decode cX6_absoluteDifference 1 = .ok (.istore_n 2, 1) := by decide +kernel
theorem dX6_absoluteDifference_2 : decode cX6_absoluteDifference 2 = .ok (.iconst 0, 1) := by decide +kernel
theorem dX6_absoluteDifference_3 : decode cX6_absoluteDifference 3 = .ok (.istore_n 3, 1) := by decide +kernel
theorem dX6_absoluteDifference_4 : decode cX6_absoluteDifference 4 = .ok (.iload_n 3, 1) := by decide +kernel
theorem dX6_absoluteDifference_5 : decode cX6_absoluteDifference 5 = .ok (.aload_n 0, 1) := by decide +kernel
theorem dX6_absoluteDifference_6 : decode cX6_absoluteDifference 6 = .ok (.getfield 19, 3) := by decide +kernel
theorem dX6_absoluteDifference_9 : decode cX6_absoluteDifference 9 = .ok (.if_icmp .ge 48, 3) := by decide +kernel
theorem dX6_absoluteDifference_12 : decode cX6_absoluteDifference 12 = .ok (.iconst 0, 1) := by decide +kernel
theorem dX6_absoluteDifference_13 : decode cX6_absoluteDifference 13 = .ok (.istore 4, 2) := by decide +kernel
theorem dX6_absoluteDifference_15 : decode cX6_absoluteDifference 15 = .ok (.iload 4, 2) := by decide +kernel
theorem dX6_absoluteDifference_17 : decode cX6_absoluteDifference 17 = .ok (.aload_n 0, 1) := by decide +kernel
theorem dX6_absoluteDifference_18 : decode cX6_absoluteDifference 18 = .ok (.getfield 15, 3) := by decide +kernel
theorem dX6_absoluteDifference_21 : decode cX6_absoluteDifference 21 = .ok (.if_icmp .ge 30, 3) := by decide +kernel
theorem dX6_absoluteDifference_24 : decode cX6_absoluteDifference 24 = .ok (.iload_n 2, 1) := by decide +kernel
theorem dX6_absoluteDifference_25 : decode cX6_absoluteDifference 25 = .ok (.aload_n 0, 1) := by decide +kernel
theorem dX6_absoluteDifference_26 : decode cX6_absoluteDifference 26 = .ok (.iload 4, 2) := by decide +kernel
theorem dX6_absoluteDifference_28 : decode cX6_absoluteDifference 28 = .ok (.iload_n 3, 1) := by decide +kernel
theorem dX6_absoluteDifference_29 : decode cX6_absoluteDifference 29 = .ok (.invokevirtual 35, 3) := by decide +kernel
theorem dX6_absoluteDifference_32 : decode cX6_absoluteDifference 32 = .ok (.aload_n 1, 1) := by decide +kernel
theorem dX6_absoluteDifference_33 : decode cX6_absoluteDifference 33 = .ok (.iload 4, 2) := by decide +kernel
theorem dX6_absoluteDifference_35 : decode cX6_absoluteDifference 35 = .ok (.iload_n 3, 1) := by decide +kernel
theorem dX6_absoluteDifference_36 : decode cX6_absoluteDifference 36 = .ok (.invokevirtual 35, 3) := by decide +kernel
theorem dX6_absoluteDifference_39 : decode cX6_absoluteDifference 39 = .ok (.isub, 1) := by decide +kernel
theorem dX6_absoluteDifference_40 : decode cX6_absoluteDifference 40 = .ok (.invokestatic 42, 3) := by decide +kernel
theorem dX6_absoluteDifference_43 : decode cX6_absoluteDifference 43 = .ok (.iadd, 1) := by decide +kernel
theorem dX6_absoluteDifference_44 : decode cX6_absoluteDifference 44 = .ok (.istore_n 2, 1) := by decide +kernel
theorem dX6_absoluteDifference_45 : decode cX6_absoluteDifference 45 = .ok (.iinc 4 1, 3) := by decide +kernel
theorem dX6_absoluteDifference_48 : decode cX6_absoluteDifference 48 = .ok (.goto (-33), 3) := by decide +kernel
theorem dX6_absoluteDifference_51 : decode cX6_absoluteDifference 51 = .ok (.iinc 3 1, 3) := by decide +kernel
theorem dX6_absoluteDifference_54 : decode cX6_absoluteDifference 54 = .ok (.goto (-50), 3) := by decide +kernel
theorem dX6_absoluteDifference_57 : decode cX6_absoluteDifference 57 = .ok (.iload_n 2, 1) := by decide +kernel
theorem dX6_absoluteDifference_58 : decode cX6_absoluteDifference 58 = .ok (.ireturn, 1) := by decide +kernel
theorem dX6_differingPixels_0 : decode cX6_differingPixels 0 = .ok (.iconst 0, 1) := by decide +kernel
theorem dX6_differingPixels_1 : decode cX6_differingPixels 1 = .ok (.istore_n 2, 1) := by decide +kernel
theorem dX6_differingPixels_2 : decode cX6_differingPixels 2 = .ok (.iconst 0, 1) := by decide +kernel
theorem dX6_differingPixels_3 : decode cX6_differingPixels 3 = .ok (.istore_n 3, 1) := by decide +kernel
theorem dX6_differingPixels_4 : decode cX6_differingPixels 4 = .ok (.iload_n 3, 1) := by decide +kernel
theorem dX6_differingPixels_5 : decode cX6_differingPixels 5 = .ok (.aload_n 0, 1) := by decide +kernel
theorem dX6_differingPixels_6 : decode cX6_differingPixels 6 = .ok (.getfield 19, 3) := by decide +kernel
theorem dX6_differingPixels_9 : decode cX6_differingPixels 9 = .ok (.if_icmp .ge 47, 3) := by decide +kernel
theorem dX6_differingPixels_12 : decode cX6_differingPixels 12 = .ok (.iconst 0, 1) := by decide +kernel
theorem dX6_differingPixels_13 : decode cX6_differingPixels 13 = .ok (.istore 4, 2) := by decide +kernel
theorem dX6_differingPixels_15 : decode cX6_differingPixels 15 = .ok (.iload 4, 2) := by decide +kernel
theorem dX6_differingPixels_17 : decode cX6_differingPixels 17 = .ok (.aload_n 0, 1) := by decide +kernel
theorem dX6_differingPixels_18 : decode cX6_differingPixels 18 = .ok (.getfield 15, 3) := by decide +kernel
theorem dX6_differingPixels_21 : decode cX6_differingPixels 21 = .ok (.if_icmp .ge 29, 3) := by decide +kernel
theorem dX6_differingPixels_24 : decode cX6_differingPixels 24 = .ok (.aload_n 0, 1) := by decide +kernel
theorem dX6_differingPixels_25 : decode cX6_differingPixels 25 = .ok (.iload 4, 2) := by decide +kernel
theorem dX6_differingPixels_27 : decode cX6_differingPixels 27 = .ok (.iload_n 3, 1) := by decide +kernel
theorem dX6_differingPixels_28 : decode cX6_differingPixels 28 = .ok (.invokevirtual 35, 3) := by decide +kernel
theorem dX6_differingPixels_31 : decode cX6_differingPixels 31 = .ok (.aload_n 1, 1) := by decide +kernel
theorem dX6_differingPixels_32 : decode cX6_differingPixels 32 = .ok (.iload 4, 2) := by decide +kernel
theorem dX6_differingPixels_34 : decode cX6_differingPixels 34 = .ok (.iload_n 3, 1) := by decide +kernel
theorem dX6_differingPixels_35 : decode cX6_differingPixels 35 = .ok (.invokevirtual 35, 3) := by decide +kernel
theorem dX6_differingPixels_38 : decode cX6_differingPixels 38 = .ok (.if_icmp .eq 6, 3) := by decide +kernel
theorem dX6_differingPixels_41 : decode cX6_differingPixels 41 = .ok (.iinc 2 1, 3) := by decide +kernel
theorem dX6_differingPixels_44 : decode cX6_differingPixels 44 = .ok (.iinc 4 1, 3) := by decide +kernel
theorem dX6_differingPixels_47 : decode cX6_differingPixels 47 = .ok (.goto (-32), 3) := by decide +kernel
theorem dX6_differingPixels_50 : decode cX6_differingPixels 50 = .ok (.iinc 3 1, 3) := by decide +kernel
theorem dX6_differingPixels_53 : decode cX6_differingPixels 53 = .ok (.goto (-49), 3) := by decide +kernel
theorem dX6_differingPixels_56 : decode cX6_differingPixels 56 = .ok (.iload_n 2, 1) := by decide +kernel
theorem dX6_differingPixels_57 : decode cX6_differingPixels 57 = .ok (.ireturn, 1) := by decide +kernel
theorem dX7_init_0 : decode cX7_init 0 = .ok (.aload_n 0, 1) := by decide +kernel
theorem dX7_init_1 : decode cX7_init 1 = .ok (.invokespecial 3, 3) := by decide +kernel
theorem dX7_init_4 : decode cX7_init 4 = .ok (.aload_n 0, 1) := by decide +kernel
theorem dX7_init_5 : decode cX7_init 5 = .ok (.new 9, 3) := by decide +kernel
theorem dX7_init_8 : decode cX7_init 8 = .ok (.dup, 1) := by decide +kernel
theorem dX7_init_9 : decode cX7_init 9 = .ok (.invokespecial 11, 3) := by decide +kernel
theorem dX7_init_12 : decode cX7_init 12 = .ok (.putfield 12, 3) := by decide +kernel
theorem dX7_init_15 : decode cX7_init 15 = .ok (.aload_n 0, 1) := by decide +kernel
theorem dX7_init_16 : decode cX7_init 16 = .ok (.bipush 49, 2) := by decide +kernel
theorem dX7_init_18 : decode cX7_init 18 = .ok (.newarray .int, 2) := by decide +kernel
theorem dX7_init_20 : decode cX7_init 20 = .ok (.putfield 18, 3) := by decide +kernel
theorem dX7_init_23 : decode cX7_init 23 = .ok (.return_, 1) := by decide +kernel
theorem dX7_renderStack_0 : decode cX7_renderStack 0 = .ok (.aload_n 3, 1) := by decide +kernel
theorem dX7_renderStack_1 : decode cX7_renderStack 1 = .ok (.aload_n 1, 1) := by decide +kernel
theorem dX7_renderStack_2 : decode cX7_renderStack 2 = .ok (.getfield 22, 3) := by decide +kernel
theorem dX7_renderStack_5 : decode cX7_renderStack 5 = .ok (.invokevirtual 27, 3) := by decide +kernel
theorem dX7_renderStack_8 : decode cX7_renderStack 8 = .ok (.iconst 0, 1) := by decide +kernel
theorem dX7_renderStack_9 : decode cX7_renderStack 9 = .ok (.istore 4, 2) := by decide +kernel
theorem dX7_renderStack_11 : decode cX7_renderStack 11 = .ok (.iload 4, 2) := by decide +kernel
theorem dX7_renderStack_13 : decode cX7_renderStack 13 = .ok (.iload_n 2, 1) := by decide +kernel
theorem dX7_renderStack_14 : decode cX7_renderStack 14 = .ok (.if_icmp .gt 62, 3) := by decide +kernel
theorem dX7_renderStack_17 : decode cX7_renderStack 17 = .ok (.iload 4, 2) := by decide +kernel
theorem dX7_renderStack_19 : decode cX7_renderStack 19 = .ok (.aload_n 1, 1) := by decide +kernel
theorem dX7_renderStack_20 : decode cX7_renderStack 20 = .ok (.invokevirtual 31, 3) := by decide +kernel
theorem dX7_renderStack_23 : decode cX7_renderStack 23 = .ok (.if_icmp .ge 53, 3) := by decide +kernel
theorem dX7_renderStack_26 : decode cX7_renderStack 26 = .ok (.aload_n 1, 1) := by decide +kernel
theorem dX7_renderStack_27 : decode cX7_renderStack 27 = .ok (.iload 4, 2) := by decide +kernel
theorem dX7_renderStack_29 : decode cX7_renderStack 29 = .ok (.invokevirtual 35, 3) := by decide +kernel
theorem dX7_renderStack_32 : decode cX7_renderStack 32 = .ok (.astore 5, 2) := by decide +kernel
theorem dX7_renderStack_34 : decode cX7_renderStack 34 = .ok (.aload 5, 2) := by decide +kernel
theorem dX7_renderStack_36 : decode cX7_renderStack 36 = .ok (.ifnull 34, 3) := by decide +kernel
theorem dX7_renderStack_39 : decode cX7_renderStack 39 = .ok (.aload 5, 2) := by decide +kernel
theorem dX7_renderStack_41 : decode cX7_renderStack 41 = .ok (.getfield 39, 3) := by decide +kernel
theorem dX7_renderStack_44 : decode cX7_renderStack 44 = .ok (.ifCond .eq 26, 3) := by decide +kernel
theorem dX7_renderStack_47 : decode cX7_renderStack 47 = .ok (.aload_n 0, 1) := by decide +kernel
theorem dX7_renderStack_48 : decode cX7_renderStack 48 = .ok (.aload 5, 2) := by decide +kernel
theorem dX7_renderStack_50 : decode cX7_renderStack 50 = .ok (.aload_n 3, 1) := by decide +kernel
theorem dX7_renderStack_51 : decode cX7_renderStack 51 = .ok (.aload_n 0, 1) := by decide +kernel
theorem dX7_renderStack_52 : decode cX7_renderStack 52 = .ok (.getfield 12, 3) := by decide +kernel
theorem dX7_renderStack_55 : decode cX7_renderStack 55 = .ok (.iconst 0, 1) := by decide +kernel
theorem dX7_renderStack_56 : decode cX7_renderStack 56 = .ok (.iconst 0, 1) := by decide +kernel
theorem dX7_renderStack_57 : decode cX7_renderStack 57 = .ok (.bipush 16, 2) := by decide +kernel
theorem dX7_renderStack_59 : decode cX7_renderStack 59 = .ok (.invokevirtual 45, 3) := by decide +kernel
theorem dX7_renderStack_62 : decode cX7_renderStack 62 = .ok (.aload_n 3, 1) := by decide +kernel
theorem dX7_renderStack_63 : decode cX7_renderStack 63 = .ok (.aload_n 0, 1) := by decide +kernel
theorem dX7_renderStack_64 : decode cX7_renderStack 64 = .ok (.getfield 12, 3) := by decide +kernel
theorem dX7_renderStack_67 : decode cX7_renderStack 67 = .ok (.invokevirtual 27, 3) := by decide +kernel
theorem dX7_renderStack_70 : decode cX7_renderStack 70 = .ok (.iinc 4 1, 3) := by decide +kernel
theorem dX7_renderStack_73 : decode cX7_renderStack 73 = .ok (.goto (-62), 3) := by decide +kernel
theorem dX7_renderStack_76 : decode cX7_renderStack 76 = .ok (.return_, 1) := by decide +kernel
theorem dX7_render_0 : decode cX7_render 0 = .ok (.aload_n 3, 1) := by decide +kernel
theorem dX7_render_1 : decode cX7_render 1 = .ok (.aload_n 2, 1) := by decide +kernel
theorem dX7_render_2 : decode cX7_render 2 = .ok (.invokevirtual 49, 3) := by decide +kernel
theorem dX7_render_5 : decode cX7_render 5 = .ok (.aload_n 1, 1) := by decide +kernel
theorem dX7_render_6 : decode cX7_render 6 = .ok (.getfield 52, 3) := by decide +kernel
theorem dX7_render_9 : decode cX7_render 9 = .ok (.bipush 13, 2) := by decide +kernel
theorem dX7_render_11 : decode cX7_render 11 = .ok (.if_icmp .ne 8, 3) := by decide +kernel
theorem dX7_render_14 : decode cX7_render 14 = .ok (.aload_n 0, 1) := by decide +kernel
theorem dX7_render_15 : decode cX7_render 15 = .ok (.aload_n 2, 1) := by decide +kernel
theorem dX7_render_16 : decode cX7_render 16 = .ok (.invokevirtual 56, 3) := by decide +kernel
theorem dX7_render_19 : decode cX7_render 19 = .ok (.iload 5, 2) := by decide +kernel
theorem dX7_render_21 : decode cX7_render 21 = .ok (.istore 7, 2) := by decide +kernel
theorem dX7_render_23 : decode cX7_render 23 = .ok (.iload 7, 2) := by decide +kernel
theorem dX7_render_25 : decode cX7_render 25 = .ok (.iload 5, 2) := by decide +kernel
theorem dX7_render_27 : decode cX7_render 27 = .ok (.iload 6, 2) := by decide +kernel
theorem dX7_render_29 : decode cX7_render 29 = .ok (.iadd, 1) := by decide +kernel
theorem dX7_render_30 : decode cX7_render 30 = .ok (.if_icmp .ge 123, 3) := by decide +kernel
theorem dX7_render_33 : decode cX7_render 33 = .ok (.iload 7, 2) := by decide +kernel
theorem dX7_render_35 : decode cX7_render 35 = .ok (.aload_n 2, 1) := by decide +kernel
theorem dX7_render_36 : decode cX7_render 36 = .ok (.getfield 59, 3) := by decide +kernel
theorem dX7_render_39 : decode cX7_render 39 = .ok (.if_icmp .ge 114, 3) := by decide +kernel
theorem dX7_render_42 : decode cX7_render 42 = .ok (.iload 4, 2) := by decide +kernel
theorem dX7_render_44 : decode cX7_render 44 = .ok (.istore 8, 2) := by decide +kernel
theorem dX7_render_46 : decode cX7_render 46 = .ok (.iload 8, 2) := by decide +kernel
theorem dX7_render_48 : decode cX7_render 48 = .ok (.iload 4, 2) := by decide +kernel
theorem dX7_render_50 : decode cX7_render 50 = .ok (.iload 6, 2) := by decide +kernel
theorem dX7_render_52 : decode cX7_render 52 = .ok (.iadd, 1) := by decide +kernel
theorem dX7_render_53 : decode cX7_render 53 = .ok (.if_icmp .ge 94, 3) := by decide +kernel
theorem dX7_render_56 : decode cX7_render 56 = .ok (.iload 8, 2) := by decide +kernel
theorem dX7_render_58 : decode cX7_render 58 = .ok (.aload_n 2, 1) := by decide +kernel
theorem dX7_render_59 : decode cX7_render 59 = .ok (.getfield 62, 3) := by decide +kernel
theorem dX7_render_62 : decode cX7_render 62 = .ok (.if_icmp .ge 85, 3) := by decide +kernel
theorem dX7_render_65 : decode cX7_render 65 = .ok (.aload_n 2, 1) := by decide +kernel
theorem dX7_render_66 : decode cX7_render 66 = .ok (.iload 8, 2) := by decide +kernel
theorem dX7_render_68 : decode cX7_render 68 = .ok (.iload 7, 2) := by decide +kernel
theorem dX7_render_70 : decode cX7_render 70 = .ok (.invokevirtual 65, 3) := by decide +kernel
theorem dX7_render_73 : decode cX7_render 73 = .ok (.istore 9, 2) := by decide +kernel
theorem dX7_render_75 : decode cX7_render 75 = .ok (.aload_n 1, 1) := by decide +kernel
theorem dX7_render_76 : decode cX7_render 76 = .ok (.getfield 69, 3) := by decide +kernel
theorem dX7_render_79 : decode cX7_render 79 = .ok (.iload 9, 2) := by decide +kernel
theorem dX7_render_81 : decode cX7_render 81 = .ok (.aload_n 0, 1) := by decide +kernel
theorem dX7_render_82 : decode cX7_render 82 = .ok (.aload_n 1, 1) := by decide +kernel
theorem dX7_render_83 : decode cX7_render 83 = .ok (.aload_n 2, 1) := by decide +kernel
theorem dX7_render_84 : decode cX7_render 84 = .ok (.iload 8, 2) := by decide +kernel
theorem dX7_render_86 : decode cX7_render 86 = .ok (.iload 7, 2) := by decide +kernel
theorem dX7_render_88 : decode cX7_render 88 = .ok (.invokevirtual 72, 3) := by decide +kernel
theorem dX7_render_91 : decode cX7_render 91 = .ok (.invokestatic 76, 3) := by decide +kernel
theorem dX7_render_94 : decode cX7_render 94 = .ok (.istore 10, 2) := by decide +kernel
theorem dX7_render_96 : decode cX7_render 96 = .ok (.aload_n 1, 1) := by decide +kernel
theorem dX7_render_97 : decode cX7_render 97 = .ok (.getfield 82, 3) := by decide +kernel
theorem dX7_render_100 : decode cX7_render 100 = .ok (.iload 8, 2) := by decide +kernel
theorem dX7_render_102 : decode cX7_render 102 = .ok (.iload 7, 2) := by decide +kernel
theorem dX7_render_104 : decode cX7_render 104 = .ok (.iload 9, 2) := by decide +kernel
theorem dX7_render_106 : decode cX7_render 106 = .ok (.invokevirtual 86, 3) := by decide +kernel
theorem dX7_render_109 : decode cX7_render 109 = .ok (.istore 11, 2) := by decide +kernel
theorem dX7_render_111 : decode cX7_render 111 = .ok (.aload_n 3, 1) := by decide +kernel
theorem dX7_render_112 : decode cX7_render 112 = .ok (.iload 8, 2) := by decide +kernel
theorem dX7_render_114 : decode cX7_render 114 = .ok (.iload 7, 2) := by decide +kernel
theorem dX7_render_116 : decode cX7_render 116 = .ok (.iload 9, 2) := by decide +kernel
theorem dX7_render_118 : decode cX7_render 118 = .ok (.iload 10, 2) := by decide +kernel
theorem dX7_render_120 : decode cX7_render 120 = .ok (.iload 9, 2) := by decide +kernel
theorem dX7_render_122 : decode cX7_render 122 = .ok (.isub, 1) := by decide +kernel
theorem dX7_render_123 : decode cX7_render 123 = .ok (.aload_n 1, 1) := by decide +kernel
theorem dX7_render_124 : decode cX7_render 124 = .ok (.getfield 91, 3) := by decide +kernel
theorem dX7_render_127 : decode cX7_render 127 = .ok (.imul, 1) := by decide +kernel
theorem dX7_render_128 : decode cX7_render 128 = .ok (.iload 11, 2) := by decide +kernel
theorem dX7_render_130 : decode cX7_render 130 = .ok (.imul, 1) := by decide +kernel
theorem dX7_render_131 : decode cX7_render 131 = .ok (.sipush 25500, 3) := by decide +kernel
theorem dX7_render_134 : decode cX7_render 134 = .ok (.invokestatic 94, 3) := by decide +kernel
theorem dX7_render_137 : decode cX7_render 137 = .ok (.iadd, 1) := by decide +kernel
theorem dX7_render_138 : decode cX7_render 138 = .ok (.invokevirtual 97, 3) := by decide +kernel
theorem dX7_render_141 : decode cX7_render 141 = .ok (.iinc 8 1, 3) := by decide +kernel
theorem dX7_render_144 : decode cX7_render 144 = .ok (.goto (-98), 3) := by decide +kernel
theorem dX7_render_147 : decode cX7_render 147 = .ok (.iinc 7 1, 3) := by decide +kernel
theorem dX7_render_150 : decode cX7_render 150 = .ok (.goto (-127), 3) := by decide +kernel
theorem dX7_render_153 : decode cX7_render 153 = .ok (.return_, 1) := by decide +kernel
theorem dX7_adjusted_0 : decode cX7_adjusted 0 = .ok (.aload_n 2, 1) := by decide +kernel
theorem dX7_adjusted_1 : decode cX7_adjusted 1 = .ok (.iload_n 3, 1) := by decide +kernel
theorem dX7_adjusted_2 : decode cX7_adjusted 2 = .ok (.iload 4, 2) := by decide +kernel
theorem dX7_adjusted_4 : decode cX7_adjusted 4 = .ok (.invokevirtual 65, 3) := by decide +kernel
theorem dX7_adjusted_7 : decode cX7_adjusted 7 = .ok (.istore 5, 2) := by decide +kernel
theorem dX7_adjusted_9 : decode cX7_adjusted 9 = .ok (.aload_n 1, 1) := by decide +kernel
theorem dX7_adjusted_10 : decode cX7_adjusted 10 = .ok (.getfield 101, 3) := by decide +kernel
theorem dX7_adjusted_13 : decode cX7_adjusted 13 = .ok (.istore 6, 2) := by decide +kernel
theorem dX7_adjusted_15 : decode cX7_adjusted 15 = .ok (.aload_n 1, 1) := by decide +kernel
theorem dX7_adjusted_16 : decode cX7_adjusted 16 = .ok (.getfield 104, 3) := by decide +kernel
theorem dX7_adjusted_19 : decode cX7_adjusted 19 = .ok (.istore 7, 2) := by decide +kernel
theorem dX7_adjusted_21 : decode cX7_adjusted 21 = .ok (.aload_n 1, 1) := by decide +kernel
theorem dX7_adjusted_22 : decode cX7_adjusted 22 = .ok (.invokevirtual 107, 3) := by decide +kernel
theorem dX7_adjusted_25 : decode cX7_adjusted 25 = .ok (.ifCond .eq 13, 3) := by decide +kernel
theorem dX7_adjusted_28 : decode cX7_adjusted 28 = .ok (.aload_n 0, 1) := by decide +kernel
theorem dX7_adjusted_29 : decode cX7_adjusted 29 = .ok (.aload_n 2, 1) := by decide +kernel
theorem dX7_adjusted_30 : decode cX7_adjusted 30 = .ok (.iload_n 3, 1) := by decide +kernel
theorem dX7_adjusted_31 : decode cX7_adjusted 31 = .ok (.iload 4, 2) := by decide +kernel
theorem dX7_adjusted_33 : decode cX7_adjusted 33 = .ok (.iload 6, 2) := by decide +kernel
theorem dX7_adjusted_35 : decode cX7_adjusted 35 = .ok (.invokevirtual 111, 3) := by decide +kernel
theorem dX7_adjusted_38 : decode cX7_adjusted 38 = .ok (.aload_n 1, 1) := by decide +kernel
theorem dX7_adjusted_39 : decode cX7_adjusted 39 = .ok (.getfield 52, 3) := by decide +kernel
theorem dX7_adjusted_42 : decode cX7_adjusted 42 = .ok (.tableswitch 287 0 13 #[70, 112, 121, 143, 166, 173, 188, 193, 198, 203, 208, 230, 244, 247], 70) := by decide +kernel
theorem dX7_adjusted_112 : decode cX7_adjusted 112 = .ok (.iload 5, 2) := by decide +kernel
theorem dX7_adjusted_114 : decode cX7_adjusted 114 = .ok (.iload 6, 2) := by decide +kernel
theorem dX7_adjusted_116 : decode cX7_adjusted 116 = .ok (.if_icmp .gt 7, 3) := by decide +kernel
theorem dX7_adjusted_119 : decode cX7_adjusted 119 = .ok (.iconst 0, 1) := by decide +kernel
theorem dX7_adjusted_120 : decode cX7_adjusted 120 = .ok (.goto 33, 3) := by decide +kernel
theorem dX7_adjusted_123 : decode cX7_adjusted 123 = .ok (.iload 5, 2) := by decide +kernel
theorem dX7_adjusted_125 : decode cX7_adjusted 125 = .ok (.iload 7, 2) := by decide +kernel
theorem dX7_adjusted_127 : decode cX7_adjusted 127 = .ok (.if_icmp .lt 9, 3) := by decide +kernel
theorem dX7_adjusted_130 : decode cX7_adjusted 130 = .ok (.sipush 255, 3) := by decide +kernel
theorem dX7_adjusted_133 : decode cX7_adjusted 133 = .ok (.goto 20, 3) := by decide +kernel
theorem dX7_adjusted_136 : decode cX7_adjusted 136 = .ok (.iload 5, 2) := by decide +kernel
theorem dX7_adjusted_138 : decode cX7_adjusted 138 = .ok (.iload 6, 2) := by decide +kernel
theorem dX7_adjusted_140 : decode cX7_adjusted 140 = .ok (.isub, 1) := by decide +kernel
theorem dX7_adjusted_141 : decode cX7_adjusted 141 = .ok (.sipush 255, 3) := by decide +kernel
theorem dX7_adjusted_144 : decode cX7_adjusted 144 = .ok (.imul, 1) := by decide +kernel
theorem dX7_adjusted_145 : decode cX7_adjusted 145 = .ok (.iload 7, 2) := by decide +kernel
theorem dX7_adjusted_147 : decode cX7_adjusted 147 = .ok (.iload 6, 2) := by decide +kernel
theorem dX7_adjusted_149 : decode cX7_adjusted 149 = .ok (.isub, 1) := by decide +kernel
theorem dX7_adjusted_150 : decode cX7_adjusted 150 = .ok (.invokestatic 94, 3) := by decide +kernel
theorem dX7_adjusted_153 : decode cX7_adjusted 153 = .ok (.ireturn, 1) := by decide +kernel
theorem dX7_adjusted_154 : decode cX7_adjusted 154 = .ok (.iload 5, 2) := by decide +kernel
theorem dX7_adjusted_156 : decode cX7_adjusted 156 = .ok (.iload 6, 2) := by decide +kernel
theorem dX7_adjusted_158 : decode cX7_adjusted 158 = .ok (.iadd, 1) := by decide +kernel
theorem dX7_adjusted_159 : decode cX7_adjusted 159 = .ok (.invokestatic 115, 3) := by decide +kernel
theorem dX7_adjusted_162 : decode cX7_adjusted 162 = .ok (.ireturn, 1) := by decide +kernel
theorem dX7_adjusted_163 : decode cX7_adjusted 163 = .ok (.sipush 128, 3) := by decide +kernel
theorem dX7_adjusted_166 : decode cX7_adjusted 166 = .ok (.iload 5, 2) := by decide +kernel
theorem dX7_adjusted_168 : decode cX7_adjusted 168 = .ok (.sipush 128, 3) := by decide +kernel
theorem dX7_adjusted_171 : decode cX7_adjusted 171 = .ok (.isub, 1) := by decide +kernel
theorem dX7_adjusted_172 : decode cX7_adjusted 172 = .ok (.iload 6, 2) := by decide +kernel
theorem dX7_adjusted_174 : decode cX7_adjusted 174 = .ok (.imul, 1) := by decide +kernel
theorem dX7_adjusted_175 : decode cX7_adjusted 175 = .ok (.bipush 100, 2) := by decide +kernel
theorem dX7_adjusted_177 : decode cX7_adjusted 177 = .ok (.invokestatic 94, 3) := by decide +kernel
theorem dX7_adjusted_180 : decode cX7_adjusted 180 = .ok (.iadd, 1) := by decide +kernel
theorem dX7_adjusted_181 : decode cX7_adjusted 181 = .ok (.invokestatic 115, 3) := by decide +kernel
theorem dX7_adjusted_184 : decode cX7_adjusted 184 = .ok (.ireturn, 1) := by decide +kernel
theorem dX7_adjusted_185 : decode cX7_adjusted 185 = .ok (.iload 5, 2) := by decide +kernel
theorem dX7_adjusted_187 : decode cX7_adjusted 187 = .ok (.iload 6, 2) := by decide +kernel
theorem dX7_adjusted_189 : decode cX7_adjusted 189 = .ok (.imul, 1) := by decide +kernel
theorem dX7_adjusted_190 : decode cX7_adjusted 190 = .ok (.sipush 256, 3) := by decide +kernel
theorem dX7_adjusted_193 : decode cX7_adjusted 193 = .ok (.invokestatic 94, 3) := by decide +kernel
theorem dX7_adjusted_196 : decode cX7_adjusted 196 = .ok (.sipush 255, 3) := by decide +kernel
theorem dX7_adjusted_199 : decode cX7_adjusted 199 = .ok (.imul, 1) := by decide +kernel
theorem dX7_adjusted_200 : decode cX7_adjusted 200 = .ok (.iload 6, 2) := by decide +kernel
theorem dX7_adjusted_202 : decode cX7_adjusted 202 = .ok (.iconst 1, 1) := by decide +kernel
theorem dX7_adjusted_203 : decode cX7_adjusted 203 = .ok (.isub, 1) := by decide +kernel
theorem dX7_adjusted_204 : decode cX7_adjusted 204 = .ok (.invokestatic 94, 3) := by decide +kernel
theorem dX7_adjusted_207 : decode cX7_adjusted 207 = .ok (.ireturn, 1) := by decide +kernel
theorem dX7_adjusted_208 : decode cX7_adjusted 208 = .ok (.sipush 255, 3) := by decide +kernel
theorem dX7_adjusted_211 : decode cX7_adjusted 211 = .ok (.iload 5, 2) := by decide +kernel
theorem dX7_adjusted_213 : decode cX7_adjusted 213 = .ok (.isub, 1) := by decide +kernel
theorem dX7_adjusted_214 : decode cX7_adjusted 214 = .ok (.ireturn, 1) := by decide +kernel
theorem dX7_adjusted_215 : decode cX7_adjusted 215 = .ok (.iload 5, 2) := by decide +kernel
theorem dX7_adjusted_217 : decode cX7_adjusted 217 = .ok (.iload 6, 2) := by decide +kernel
theorem dX7_adjusted_219 : decode cX7_adjusted 219 = .ok (.if_icmp .lt 9, 3) := by decide +kernel
theorem dX7_adjusted_222 : decode cX7_adjusted 222 = .ok (.sipush 255, 3) := by decide +kernel
theorem dX7_adjusted_225 : decode cX7_adjusted 225 = .ok (.goto 4, 3) := by decide +kernel
theorem dX7_adjusted_228 : decode cX7_adjusted 228 = .ok (.iconst 0, 1) := by decide +kernel
theorem dX7_adjusted_229 : decode cX7_adjusted 229 = .ok (.ireturn, 1) := by decide +kernel
theorem dX7_adjusted_230 : decode cX7_adjusted 230 = .ok (.aload_n 0, 1) := by decide +kernel
theorem dX7_adjusted_231 : decode cX7_adjusted 231 = .ok (.invokevirtual 119, 3) := by decide +kernel
theorem dX7_adjusted_234 : decode cX7_adjusted 234 = .ok (.ireturn, 1) := by decide +kernel
theorem dX7_adjusted_235 : decode cX7_adjusted 235 = .ok (.aload_n 0, 1) := by decide +kernel
theorem dX7_adjusted_236 : decode cX7_adjusted 236 = .ok (.invokevirtual 122, 3) := by decide +kernel
theorem dX7_adjusted_239 : decode cX7_adjusted 239 = .ok (.ireturn, 1) := by decide +kernel
theorem dX7_adjusted_240 : decode cX7_adjusted 240 = .ok (.aload_n 0, 1) := by decide +kernel
theorem dX7_adjusted_241 : decode cX7_adjusted 241 = .ok (.invokevirtual 125, 3) := by decide +kernel
theorem dX7_adjusted_244 : decode cX7_adjusted 244 = .ok (.ireturn, 1) := by decide +kernel
theorem dX7_adjusted_245 : decode cX7_adjusted 245 = .ok (.aload_n 0, 1) := by decide +kernel
theorem dX7_adjusted_246 : decode cX7_adjusted 246 = .ok (.invokevirtual 128, 3) := by decide +kernel
theorem dX7_adjusted_249 : decode cX7_adjusted 249 = .ok (.ireturn, 1) := by decide +kernel
theorem dX7_adjusted_250 : decode cX7_adjusted 250 = .ok (.iload 5, 2) := by decide +kernel
theorem dX7_adjusted_252 : decode cX7_adjusted 252 = .ok (.iload 5, 2) := by decide +kernel
theorem dX7_adjusted_254 : decode cX7_adjusted 254 = .ok (.aload_n 0, 1) := by decide +kernel
theorem dX7_adjusted_255 : decode cX7_adjusted 255 = .ok (.invokevirtual 119, 3) := by decide +kernel
theorem dX7_adjusted_258 : decode cX7_adjusted 258 = .ok (.isub, 1) := by decide +kernel
theorem dX7_adjusted_259 : decode cX7_adjusted 259 = .ok (.iload 7, 2) := by decide +kernel
theorem dX7_adjusted_261 : decode cX7_adjusted 261 = .ok (.imul, 1) := by decide +kernel
theorem dX7_adjusted_262 : decode cX7_adjusted 262 = .ok (.bipush 100, 2) := by decide +kernel
theorem dX7_adjusted_264 : decode cX7_adjusted 264 = .ok (.invokestatic 94, 3) := by decide +kernel
theorem dX7_adjusted_267 : decode cX7_adjusted 267 = .ok (.iadd, 1) := by decide +kernel
theorem dX7_adjusted_268 : decode cX7_adjusted 268 = .ok (.invokestatic 115, 3) := by decide +kernel
theorem dX7_adjusted_271 : decode cX7_adjusted 271 = .ok (.ireturn, 1) := by decide +kernel
theorem dX7_adjusted_272 : decode cX7_adjusted 272 = .ok (.aload_n 2, 1) := by decide +kernel
theorem dX7_adjusted_273 : decode cX7_adjusted 273 = .ok (.iload_n 3, 1) := by decide +kernel
theorem dX7_adjusted_274 : decode cX7_adjusted 274 = .ok (.iload 6, 2) := by decide +kernel
theorem dX7_adjusted_276 : decode cX7_adjusted 276 = .ok (.isub, 1) := by decide +kernel
theorem dX7_adjusted_277 : decode cX7_adjusted 277 = .ok (.iload 4, 2) := by decide +kernel
theorem dX7_adjusted_279 : decode cX7_adjusted 279 = .ok (.iload 7, 2) := by decide +kernel
theorem dX7_adjusted_281 : decode cX7_adjusted 281 = .ok (.isub, 1) := by decide +kernel
theorem dX7_adjusted_282 : decode cX7_adjusted 282 = .ok (.invokevirtual 131, 3) := by decide +kernel
theorem dX7_adjusted_285 : decode cX7_adjusted 285 = .ok (.ireturn, 1) := by decide +kernel
theorem dX7_adjusted_286 : decode cX7_adjusted 286 = .ok (.iload 6, 2) := by decide +kernel
theorem dX7_adjusted_288 : decode cX7_adjusted 288 = .ok (.ireturn, 1) := by decide +kernel
theorem dX7_adjusted_289 : decode cX7_adjusted 289 = .ok (.aload_n 0, 1) := by decide +kernel
theorem dX7_adjusted_290 : decode cX7_adjusted 290 = .ok (.getfield 134, 3) := by decide +kernel
theorem dX7_adjusted_293 : decode cX7_adjusted 293 = .ok (.aload_n 0, 1) := by decide +kernel
theorem dX7_adjusted_294 : decode cX7_adjusted 294 = .ok (.getfield 137, 3) := by decide +kernel
theorem dX7_adjusted_297 : decode cX7_adjusted 297 = .ok (.if_icmp .le 29, 3) := by decide +kernel
theorem dX7_adjusted_300 : decode cX7_adjusted 300 = .ok (.iload 5, 2) := by decide +kernel
theorem dX7_adjusted_302 : decode cX7_adjusted 302 = .ok (.aload_n 0, 1) := by decide +kernel
theorem dX7_adjusted_303 : decode cX7_adjusted 303 = .ok (.getfield 137, 3) := by decide +kernel
theorem dX7_adjusted_306 : decode cX7_adjusted 306 = .ok (.isub, 1) := by decide +kernel
theorem dX7_adjusted_307 : decode cX7_adjusted 307 = .ok (.sipush 255, 3) := by decide +kernel
theorem dX7_adjusted_310 : decode cX7_adjusted 310 = .ok (.imul, 1) := by decide +kernel
theorem dX7_adjusted_311 : decode cX7_adjusted 311 = .ok (.aload_n 0, 1) := by decide +kernel
theorem dX7_adjusted_312 : decode cX7_adjusted 312 = .ok (.getfield 134, 3) := by decide +kernel
theorem dX7_adjusted_315 : decode cX7_adjusted 315 = .ok (.aload_n 0, 1) := by decide +kernel
theorem dX7_adjusted_316 : decode cX7_adjusted 316 = .ok (.getfield 137, 3) := by decide +kernel
theorem dX7_adjusted_319 : decode cX7_adjusted 319 = .ok (.isub, 1) := by decide +kernel
theorem dX7_adjusted_320 : decode cX7_adjusted 320 = .ok (.invokestatic 94, 3) := by decide +kernel
theorem dX7_adjusted_323 : decode cX7_adjusted 323 = .ok (.goto 5, 3) := by decide +kernel
theorem dX7_adjusted_326 : decode cX7_adjusted 326 = .ok (.iload 5, 2) := by decide +kernel
theorem dX7_adjusted_328 : decode cX7_adjusted 328 = .ok (.ireturn, 1) := by decide +kernel
theorem dX7_adjusted_329 : decode cX7_adjusted 329 = .ok (.iload 5, 2) := by decide +kernel
theorem dX7_adjusted_331 : decode cX7_adjusted 331 = .ok (.ireturn, 1) := by decide +kernel
theorem dX7_findExtremes_0 : decode cX7_findExtremes 0 = .ok (.aload_n 0, 1) := by decide +kernel
theorem dX7_findExtremes_1 : decode cX7_findExtremes 1 = .ok (.sipush 255, 3) := by decide +kernel
