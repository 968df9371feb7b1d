theorem dX0_init_0 : decode cX0_init 0 = .ok (.aload_n 0, 1) := by decide +kernel
theorem dX0_init_1 : decode cX0_init 1 = .ok (.invokespecial 3, 3) := by decide +kernel
theorem dX0_init_4 : decode cX0_init 4 = .ok (.aload_n 0, 1) := by decide +kernel
theorem dX0_init_5 : decode cX0_init 5 = .ok (.new 9, 3) := by decide +kernel
theorem dX0_init_8 : decode cX0_init 8 = .ok (.dup, 1) := by decide +kernel
theorem dX0_init_9 : decode cX0_init 9 = .ok (.invokespecial 11, 3) := by decide +kernel
theorem dX0_init_12 : decode cX0_init 12 = .ok (.putfield 12, 3) := by decide +kernel
theorem dX0_init_15 : decode cX0_init 15 = .ok (.aload_n 0, 1) := by decide +kernel
theorem dX0_init_16 : decode cX0_init 16 = .ok (.bipush 8, 2) := by decide +kernel
theorem dX0_init_18 : decode cX0_init 18 = .ok (.anewarray 18, 3) := by decide +kernel
theorem dX0_init_21 : decode cX0_init 21 = .ok (.putfield 20, 3) := by decide +kernel
theorem dX0_init_24 : decode cX0_init 24 = .ok (.iconst 0, 1) := by decide +kernel
theorem dX0_init_25 : decode cX0_init 25 = .ok (.istore_n 1, 1) := by decide +kernel
theorem dX0_init_26 : decode cX0_init 26 = .ok (.iload_n 1, 1) := by decide +kernel
theorem dX0_init_27 : decode cX0_init 27 = .ok (.aload_n 0, 1) := by decide +kernel
theorem dX0_init_28 : decode cX0_init 28 = .ok (.getfield 20, 3) := by decide +kernel
theorem dX0_init_31 : decode cX0_init 31 = .ok (.arraylength, 1) := by decide +kernel
theorem dX0_init_32 : decode cX0_init 32 = .ok (.if_icmp .ge 22, 3) := by decide +kernel
theorem dX0_init_35 : decode cX0_init 35 = .ok (.aload_n 0, 1) := by decide +kernel
theorem dX0_init_36 : decode cX0_init 36 = .ok (.getfield 20, 3) := by decide +kernel
theorem dX0_init_39 : decode cX0_init 39 = .ok (.iload_n 1, 1) := by decide +kernel
theorem dX0_init_40 : decode cX0_init 40 = .ok (.new 18, 3) := by decide +kernel
theorem dX0_init_43 : decode cX0_init 43 = .ok (.dup, 1) := by decide +kernel
theorem dX0_init_44 : decode cX0_init 44 = .ok (.invokespecial 24, 3) := by decide +kernel
theorem dX0_init_47 : decode cX0_init 47 = .ok (.aastore, 1) := by decide +kernel
theorem dX0_init_48 : decode cX0_init 48 = .ok (.iinc 1 1, 3) := by decide +kernel
theorem dX0_init_51 : decode cX0_init 51 = .ok (.goto (-25), 3) := by decide +kernel
theorem dX0_init_54 : decode cX0_init 54 = .ok (.return_, 1) := by decide +kernel
theorem dX0_layerCount_0 : decode cX0_layerCount 0 = .ok (.aload_n 0, 1) := by decide +kernel
theorem dX0_layerCount_1 : decode cX0_layerCount 1 = .ok (.getfield 25, 3) := by decide +kernel
theorem dX0_layerCount_4 : decode cX0_layerCount 4 = .ok (.ireturn, 1) := by decide +kernel
theorem dX0_isFull_0 : decode cX0_isFull 0 = .ok (.aload_n 0, 1) := by decide +kernel
theorem dX0_isFull_1 : decode cX0_isFull 1 = .ok (.getfield 25, 3) := by decide +kernel
theorem dX0_isFull_4 : decode cX0_isFull 4 = .ok (.aload_n 0, 1) := by decide +kernel
theorem dX0_isFull_5 : decode cX0_isFull 5 = .ok (.getfield 20, 3) := by decide +kernel
theorem dX0_isFull_8 : decode cX0_isFull 8 = .ok (.arraylength, 1) := by decide +kernel
theorem dX0_isFull_9 : decode cX0_isFull 9 = .ok (.if_icmp .lt 7, 3) := by decide +kernel
theorem dX0_isFull_12 : decode cX0_isFull 12 = .ok (.iconst 1, 1) := by decide +kernel
theorem dX0_isFull_13 : decode cX0_isFull 13 = .ok (.goto 4, 3) := by decide +kernel
theorem dX0_isFull_16 : decode cX0_isFull 16 = .ok (.iconst 0, 1) := by decide +kernel
theorem dX0_isFull_17 : decode cX0_isFull 17 = .ok (.ireturn, 1) := by decide +kernel
theorem dX0_layerAt_0 : decode cX0_layerAt 0 = .ok (.iload_n 1, 1) := by decide +kernel
theorem dX0_layerAt_1 : decode cX0_layerAt 1 = .ok (.ifCond .lt 29, 3) := by decide +kernel
theorem dX0_layerAt_4 : decode cX0_layerAt 4 = .ok (.iload_n 1, 1) := by decide +kernel
theorem dX0_layerAt_5 : decode cX0_layerAt 5 = .ok (.aload_n 0, 1) := by decide +kernel
theorem dX0_layerAt_6 : decode cX0_layerAt 6 = .ok (.getfield 25, 3) := by decide +kernel
theorem dX0_layerAt_9 : decode cX0_layerAt 9 = .ok (.if_icmp .ge 21, 3) := by decide +kernel
theorem dX0_layerAt_12 : decode cX0_layerAt 12 = .ok (.iload_n 1, 1) := by decide +kernel
theorem dX0_layerAt_13 : decode cX0_layerAt 13 = .ok (.aload_n 0, 1) := by decide +kernel
theorem dX0_layerAt_14 : decode cX0_layerAt 14 = .ok (.getfield 20, 3) := by decide +kernel
theorem dX0_layerAt_17 : decode cX0_layerAt 17 = .ok (.arraylength, 1) := by decide +kernel
theorem dX0_layerAt_18 : decode cX0_layerAt 18 = .ok (.if_icmp .ge 12, 3) := by decide +kernel
theorem dX0_layerAt_21 : decode cX0_layerAt 21 = .ok (.aload_n 0, 1) := by decide +kernel
theorem dX0_layerAt_22 : decode cX0_layerAt 22 = .ok (.getfield 20, 3) := by decide +kernel
theorem dX0_layerAt_25 : decode cX0_layerAt 25 = .ok (.iload_n 1, 1) := by decide +kernel
theorem dX0_layerAt_26 : decode cX0_layerAt 26 = .ok (.aaload, 1) := by decide +kernel
theorem dX0_layerAt_27 : decode cX0_layerAt 27 = .ok (.goto 4, 3) := by decide +kernel
theorem dX0_layerAt_30 : decode cX0_layerAt 30 = .ok (.aconst_null, 1) := by decide +kernel
theorem dX0_layerAt_31 : decode cX0_layerAt 31 = .ok (.areturn, 1) := by decide +kernel
theorem dX0_enabledCount_0 : decode cX0_enabledCount 0 = .ok (.iconst 0, 1) := by decide +kernel
theorem dX0_enabledCount_1 : decode cX0_enabledCount 1 = .ok (.istore_n 1, 1) := by decide +kernel
theorem dX0_enabledCount_2 : decode cX0_enabledCount 2 = .ok (.iconst 0, 1) := by decide +kernel
theorem dX0_enabledCount_3 : decode cX0_enabledCount 3 = .ok (.istore_n 2, 1) := by decide +kernel
theorem dX0_enabledCount_4 : decode cX0_enabledCount 4 = .ok (.iload_n 2, 1) := by decide +kernel
theorem dX0_enabledCount_5 : decode cX0_enabledCount 5 = .ok (.aload_n 0, 1) := by decide +kernel
theorem dX0_enabledCount_6 : decode cX0_enabledCount 6 = .ok (.getfield 25, 3) := by decide +kernel
theorem dX0_enabledCount_9 : decode cX0_enabledCount 9 = .ok (.if_icmp .ge 29, 3) := by decide +kernel
theorem dX0_enabledCount_12 : decode cX0_enabledCount 12 = .ok (.aload_n 0, 1) := by decide +kernel
theorem dX0_enabledCount_13 : decode cX0_enabledCount 13 = .ok (.iload_n 2, 1) := by decide +kernel
theorem dX0_enabledCount_14 : decode cX0_enabledCount 14 = .ok (.invokevirtual 29, 3) := by decide +kernel
theorem dX0_enabledCount_17 : decode cX0_enabledCount 17 = .ok (.astore_n 3, 1) := by decide +kernel
theorem dX0_enabledCount_18 : decode cX0_enabledCount 18 = .ok (.aload_n 3, 1) := by decide +kernel
theorem dX0_enabledCount_19 : decode cX0_enabledCount 19 = .ok (.ifnull 13, 3) := by decide +kernel
theorem dX0_enabledCount_22 : decode cX0_enabledCount 22 = .ok (.aload_n 3, 1) := by decide +kernel
theorem dX0_enabledCount_23 : decode cX0_enabledCount 23 = .ok (.getfield 33, 3) := by decide +kernel
theorem dX0_enabledCount_26 : decode cX0_enabledCount 26 = .ok (.ifCond .eq 6, 3) := by decide +kernel
theorem dX0_enabledCount_29 : decode cX0_enabledCount 29 = .ok (.iinc 1 1, 3) := by decide +kernel
theorem dX0_enabledCount_32 : decode cX0_enabledCount 32 = .ok (.iinc 2 1, 3) := by decide +kernel
theorem dX0_enabledCount_35 : decode cX0_enabledCount 35 = .ok (.goto (-31), 3) := by decide +kernel
theorem dX0_enabledCount_38 : decode cX0_enabledCount 38 = .ok (.iload_n 1, 1) := by decide +kernel
theorem dX0_enabledCount_39 : decode cX0_enabledCount 39 = .ok (.ireturn, 1) := by decide +kernel
theorem dX0_enabledAtMost_0 : decode cX0_enabledAtMost 0 = .ok (.iload_n 1, 1) := by decide +kernel
theorem dX0_enabledAtMost_1 : decode cX0_enabledAtMost 1 = .ok (.istore_n 2, 1) := by decide +kernel
theorem dX0_enabledAtMost_2 : decode cX0_enabledAtMost 2 = .ok (.iload_n 2, 1) := by decide +kernel
theorem dX0_enabledAtMost_3 : decode cX0_enabledAtMost 3 = .ok (.ifCond .lt 28, 3) := by decide +kernel
theorem dX0_enabledAtMost_6 : decode cX0_enabledAtMost 6 = .ok (.aload_n 0, 1) := by decide +kernel
theorem dX0_enabledAtMost_7 : decode cX0_enabledAtMost 7 = .ok (.iload_n 2, 1) := by decide +kernel
theorem dX0_enabledAtMost_8 : decode cX0_enabledAtMost 8 = .ok (.invokevirtual 29, 3) := by decide +kernel
theorem dX0_enabledAtMost_11 : decode cX0_enabledAtMost 11 = .ok (.astore_n 3, 1) := by decide +kernel
theorem dX0_enabledAtMost_12 : decode cX0_enabledAtMost 12 = .ok (.aload_n 3, 1) := by decide +kernel
theorem dX0_enabledAtMost_13 : decode cX0_enabledAtMost 13 = .ok (.ifnull 12, 3) := by decide +kernel
theorem dX0_enabledAtMost_16 : decode cX0_enabledAtMost 16 = .ok (.aload_n 3, 1) := by decide +kernel
theorem dX0_enabledAtMost_17 : decode cX0_enabledAtMost 17 = .ok (.getfield 33, 3) := by decide +kernel
theorem dX0_enabledAtMost_20 : decode cX0_enabledAtMost 20 = .ok (.ifCond .eq 5, 3) := by decide +kernel
theorem dX0_enabledAtMost_23 : decode cX0_enabledAtMost 23 = .ok (.iload_n 2, 1) := by decide +kernel
theorem dX0_enabledAtMost_24 : decode cX0_enabledAtMost 24 = .ok (.ireturn, 1) := by decide +kernel
theorem dX0_enabledAtMost_25 : decode cX0_enabledAtMost 25 = .ok (.iinc 2 (-1), 3) := by decide +kernel
theorem dX0_enabledAtMost_28 : decode cX0_enabledAtMost 28 = .ok (.goto (-26), 3) := by decide +kernel
theorem dX0_enabledAtMost_31 : decode cX0_enabledAtMost 31 = .ok (.iconst (-1), 1) := by decide +kernel
theorem dX0_enabledAtMost_32 : decode cX0_enabledAtMost 32 = .ok (.ireturn, 1) := by decide +kernel
theorem dX0_copyFrom_0 : decode cX0_copyFrom 0 = .ok (.aload_n 0, 1) := by decide +kernel
theorem dX0_copyFrom_1 : decode cX0_copyFrom 1 = .ok (.getfield 12, 3) := by decide +kernel
theorem dX0_copyFrom_4 : decode cX0_copyFrom 4 = .ok (.aload_n 1, 1) := by decide +kernel
theorem dX0_copyFrom_5 : decode cX0_copyFrom 5 = .ok (.getfield 12, 3) := by decide +kernel
theorem dX0_copyFrom_8 : decode cX0_copyFrom 8 = .ok (.invokevirtual 37, 3) := by decide +kernel
theorem dX0_copyFrom_11 : decode cX0_copyFrom 11 = .ok (.aload_n 0, 1) := by decide +kernel
theorem dX0_copyFrom_12 : decode cX0_copyFrom 12 = .ok (.aload_n 1, 1) := by decide +kernel
theorem dX0_copyFrom_13 : decode cX0_copyFrom 13 = .ok (.invokevirtual 41, 3) := by decide +kernel
theorem dX0_copyFrom_16 : decode cX0_copyFrom 16 = .ok (.return_, 1) := by decide +kernel
theorem dX0_copyLayersFrom_0 : decode cX0_copyLayersFrom 0 = .ok (.aload_n 0, 1) := by decide +kernel
theorem dX0_copyLayersFrom_1 : decode cX0_copyLayersFrom 1 = .ok (.invokevirtual 45, 3) := by decide +kernel
theorem dX0_copyLayersFrom_4 : decode cX0_copyLayersFrom 4 = .ok (.iconst 0, 1) := by decide +kernel
theorem dX0_copyLayersFrom_5 : decode cX0_copyLayersFrom 5 = .ok (.istore_n 2, 1) := by decide +kernel
theorem dX0_copyLayersFrom_6 : decode cX0_copyLayersFrom 6 = .ok (.iload_n 2, 1) := by decide +kernel
theorem dX0_copyLayersFrom_7 : decode cX0_copyLayersFrom 7 = .ok (.aload_n 1, 1) := by decide +kernel
theorem dX0_copyLayersFrom_8 : decode cX0_copyLayersFrom 8 = .ok (.getfield 25, 3) := by decide +kernel
theorem dX0_copyLayersFrom_11 : decode cX0_copyLayersFrom 11 = .ok (.if_icmp .ge 36, 3) := by decide +kernel
theorem dX0_copyLayersFrom_14 : decode cX0_copyLayersFrom 14 = .ok (.aload_n 1, 1) := by decide +kernel
theorem dX0_copyLayersFrom_15 : decode cX0_copyLayersFrom 15 = .ok (.iload_n 2, 1) := by decide +kernel
theorem dX0_copyLayersFrom_16 : decode cX0_copyLayersFrom 16 = .ok (.invokevirtual 29, 3) := by decide +kernel
theorem dX0_copyLayersFrom_19 : decode cX0_copyLayersFrom 19 = .ok (.astore_n 3, 1) := by decide +kernel
theorem dX0_copyLayersFrom_20 : decode cX0_copyLayersFrom 20 = .ok (.aload_n 0, 1) := by decide +kernel
theorem dX0_copyLayersFrom_21 : decode cX0_copyLayersFrom 21 = .ok (.invokevirtual 48, 3) := by decide +kernel
theorem dX0_copyLayersFrom_24 : decode cX0_copyLayersFrom 24 = .ok (.astore 4, 2) := by decide +kernel
theorem dX0_copyLayersFrom_26 : decode cX0_copyLayersFrom 26 = .ok (.aload_n 3, 1) := by decide +kernel
theorem dX0_copyLayersFrom_27 : decode cX0_copyLayersFrom 27 = .ok (.ifnull 14, 3) := by decide +kernel
theorem dX0_copyLayersFrom_30 : decode cX0_copyLayersFrom 30 = .ok (.aload 4, 2) := by decide +kernel
theorem dX0_copyLayersFrom_32 : decode cX0_copyLayersFrom 32 = .ok (.ifnull 9, 3) := by decide +kernel
theorem dX0_copyLayersFrom_35 : decode cX0_copyLayersFrom 35 = .ok (.aload 4, 2) := by decide +kernel
theorem dX0_copyLayersFrom_37 : decode cX0_copyLayersFrom 37 = .ok (.aload_n 3, 1) := by decide +kernel
theorem dX0_copyLayersFrom_38 : decode cX0_copyLayersFrom 38 = .ok (.invokevirtual 52, 3) := by decide +kernel
theorem dX0_copyLayersFrom_41 : decode cX0_copyLayersFrom 41 = .ok (.iinc 2 1, 3) := by decide +kernel
theorem dX0_copyLayersFrom_44 : decode cX0_copyLayersFrom 44 = .ok (.goto (-38), 3) := by decide +kernel
theorem dX0_copyLayersFrom_47 : decode cX0_copyLayersFrom 47 = .ok (.return_, 1) := by decide +kernel
theorem dX0_removeLayers_0 : decode cX0_removeLayers 0 = .ok (.aload_n 0, 1) := by decide +kernel
theorem dX0_removeLayers_1 : decode cX0_removeLayers 1 = .ok (.iconst 0, 1) := by decide +kernel
theorem dX0_removeLayers_2 : decode cX0_removeLayers 2 = .ok (.putfield 25, 3) := by decide +kernel
theorem dX0_removeLayers_5 : decode cX0_removeLayers 5 = .ok (.return_, 1) := by decide +kernel
theorem dX0_addFresh_0 : decode cX0_addFresh 0 = .ok (.aload_n 0, 1) := by decide +kernel
theorem dX0_addFresh_1 : decode cX0_addFresh 1 = .ok (.invokevirtual 48, 3) := by decide +kernel
theorem dX0_addFresh_4 : decode cX0_addFresh 4 = .ok (.astore 4, 2) := by decide +kernel
theorem dX0_addFresh_6 : decode cX0_addFresh 6 = .ok (.aload 4, 2) := by decide +kernel
theorem dX0_addFresh_8 : decode cX0_addFresh 8 = .ok (.ifnull 11, 3) := by decide +kernel
theorem dX0_addFresh_11 : decode cX0_addFresh 11 = .ok (.aload 4, 2) := by decide +kernel
theorem dX0_addFresh_13 : decode cX0_addFresh 13 = .ok (.iload_n 1, 1) := by decide +kernel
theorem dX0_addFresh_14 : decode cX0_addFresh 14 = .ok (.iload_n 2, 1) := by decide +kernel
theorem dX0_addFresh_15 : decode cX0_addFresh 15 = .ok (.iload_n 3, 1) := by decide +kernel
theorem dX0_addFresh_16 : decode cX0_addFresh 16 = .ok (.invokevirtual 55, 3) := by decide +kernel
theorem dX0_addFresh_19 : decode cX0_addFresh 19 = .ok (.aload 4, 2) := by decide +kernel
theorem dX0_addFresh_21 : decode cX0_addFresh 21 = .ok (.areturn, 1) := by decide +kernel
theorem dX0_addCopyAbove_0 : decode cX0_addCopyAbove 0 = .ok (.aload_n 0, 1) := by decide +kernel
theorem dX0_addCopyAbove_1 : decode cX0_addCopyAbove 1 = .ok (.iload_n 1, 1) := by decide +kernel
theorem dX0_addCopyAbove_2 : decode cX0_addCopyAbove 2 = .ok (.invokevirtual 29, 3) := by decide +kernel
theorem dX0_addCopyAbove_5 : decode cX0_addCopyAbove 5 = .ok (.astore_n 2, 1) := by decide +kernel
theorem dX0_addCopyAbove_6 : decode cX0_addCopyAbove 6 = .ok (.aload_n 2, 1) := by decide +kernel
theorem dX0_addCopyAbove_7 : decode cX0_addCopyAbove 7 = .ok (.ifnonnull 7, 3) := by decide +kernel
theorem dX0_addCopyAbove_10 : decode cX0_addCopyAbove 10 = .ok (.aconst_null, 1) := by decide +kernel
theorem dX0_addCopyAbove_11 : decode cX0_addCopyAbove 11 = .ok (.goto 7, 3) := by decide +kernel
theorem dX0_addCopyAbove_14 : decode cX0_addCopyAbove 14 = .ok (.aload_n 0, 1) := by decide +kernel
theorem dX0_addCopyAbove_15 : decode cX0_addCopyAbove 15 = .ok (.invokevirtual 48, 3) := by decide +kernel
theorem dX0_addCopyAbove_18 : decode cX0_addCopyAbove 18 = .ok (.astore_n 3, 1) := by decide +kernel
theorem dX0_addCopyAbove_19 : decode cX0_addCopyAbove 19 = .ok (.aload_n 3, 1) := by decide +kernel
theorem dX0_addCopyAbove_20 : decode cX0_addCopyAbove 20 = .ok (.ifnull 21, 3) := by decide +kernel
theorem dX0_addCopyAbove_23 : decode cX0_addCopyAbove 23 = .ok (.aload_n 3, 1) := by decide +kernel
theorem dX0_addCopyAbove_24 : decode cX0_addCopyAbove 24 = .ok (.aload_n 2, 1) := by decide +kernel
theorem dX0_addCopyAbove_25 : decode cX0_addCopyAbove 25 = .ok (.invokevirtual 52, 3) := by decide +kernel
theorem dX0_addCopyAbove_28 : decode cX0_addCopyAbove 28 = .ok (.aload_n 0, 1) := by decide +kernel
theorem dX0_addCopyAbove_29 : decode cX0_addCopyAbove 29 = .ok (.aload_n 0, 1) := by decide +kernel
theorem dX0_addCopyAbove_30 : decode cX0_addCopyAbove 30 = .ok (.getfield 25, 3) := by decide +kernel
theorem dX0_addCopyAbove_33 : decode cX0_addCopyAbove 33 = .ok (.iconst 1, 1) := by decide +kernel
theorem dX0_addCopyAbove_34 : decode cX0_addCopyAbove 34 = .ok (.isub, 1) := by decide +kernel
theorem dX0_addCopyAbove_35 : decode cX0_addCopyAbove 35 = .ok (.iload_n 1, 1) := by decide +kernel
theorem dX0_addCopyAbove_36 : decode cX0_addCopyAbove 36 = .ok (.iconst 1, 1) := by decide +kernel
theorem dX0_addCopyAbove_37 : decode cX0_addCopyAbove 37 = .ok (.iadd, 1) := by decide +kernel
theorem dX0_addCopyAbove_38 : decode cX0_addCopyAbove 38 = .ok (.invokevirtual 59, 3) := by decide +kernel
theorem dX0_addCopyAbove_41 : decode cX0_addCopyAbove 41 = .ok (.return_, 1) := by decide +kernel
theorem dX0_takeOut_0 : decode cX0_takeOut 0 = .ok (.aload_n 0, 1) := by decide +kernel
theorem dX0_takeOut_1 : decode cX0_takeOut 1 = .ok (.iload_n 1, 1) := by decide +kernel
theorem dX0_takeOut_2 : decode cX0_takeOut 2 = .ok (.invokevirtual 29, 3) := by decide +kernel
theorem dX0_takeOut_5 : decode cX0_takeOut 5 = .ok (.ifnull 24, 3) := by decide +kernel
theorem dX0_takeOut_8 : decode cX0_takeOut 8 = .ok (.aload_n 0, 1) := by decide +kernel
theorem dX0_takeOut_9 : decode cX0_takeOut 9 = .ok (.iload_n 1, 1) := by decide +kernel
theorem dX0_takeOut_10 : decode cX0_takeOut 10 = .ok (.aload_n 0, 1) := by decide +kernel
theorem dX0_takeOut_11 : decode cX0_takeOut 11 = .ok (.getfield 25, 3) := by decide +kernel
theorem dX0_takeOut_14 : decode cX0_takeOut 14 = .ok (.iconst 1, 1) := by decide +kernel
theorem dX0_takeOut_15 : decode cX0_takeOut 15 = .ok (.isub, 1) := by decide +kernel
theorem dX0_takeOut_16 : decode cX0_takeOut 16 = .ok (.invokevirtual 59, 3) := by decide +kernel
theorem dX0_takeOut_19 : decode cX0_takeOut 19 = .ok (.aload_n 0, 1) := by decide +kernel
theorem dX0_takeOut_20 : decode cX0_takeOut 20 = .ok (.dup, 1) := by decide +kernel
theorem dX0_takeOut_21 : decode cX0_takeOut 21 = .ok (.getfield 25, 3) := by decide +kernel
theorem dX0_takeOut_24 : decode cX0_takeOut 24 = .ok (.iconst 1, 1) := by decide +kernel
theorem dX0_takeOut_25 : decode cX0_takeOut 25 = .ok (.isub, 1) := by decide +kernel
theorem dX0_takeOut_26 : decode cX0_takeOut 26 = .ok (.putfield 25, 3) := by decide +kernel
theorem dX0_takeOut_29 : decode cX0_takeOut 29 = .ok (.return_, 1) := by decide +kernel
theorem dX0_shift_0 : decode cX0_shift 0 = .ok (.aload_n 0, 1) := by decide +kernel
theorem dX0_shift_1 : decode cX0_shift 1 = .ok (.iload_n 1, 1) := by decide +kernel
theorem dX0_shift_2 : decode cX0_shift 2 = .ok (.invokevirtual 29, 3) := by decide +kernel
theorem dX0_shift_5 : decode cX0_shift 5 = .ok (.astore_n 3, 1) := by decide +kernel
theorem dX0_shift_6 : decode cX0_shift 6 = .ok (.aload_n 3, 1) := by decide +kernel
theorem dX0_shift_7 : decode cX0_shift 7 = .ok (.ifnull 11, 3) := by decide +kernel
theorem dX0_shift_10 : decode cX0_shift 10 = .ok (.aload_n 0, 1) := by decide +kernel
theorem dX0_shift_11 : decode cX0_shift 11 = .ok (.iload_n 2, 1) := by decide +kernel
theorem dX0_shift_12 : decode cX0_shift 12 = .ok (.invokevirtual 29, 3) := by decide +kernel
theorem dX0_shift_15 : decode cX0_shift 15 = .ok (.ifnonnull 4, 3) := by decide +kernel
theorem dX0_shift_18 : decode cX0_shift 18 = .ok (.return_, 1) := by decide +kernel
theorem dX0_shift_19 : decode cX0_shift 19 = .ok (.iload_n 1, 1) := by decide +kernel
theorem dX0_shift_20 : decode cX0_shift 20 = .ok (.istore 4, 2) := by decide +kernel
theorem dX0_shift_22 : decode cX0_shift 22 = .ok (.iload 4, 2) := by decide +kernel
theorem dX0_shift_24 : decode cX0_shift 24 = .ok (.iload_n 2, 1) := by decide +kernel
theorem dX0_shift_25 : decode cX0_shift 25 = .ok (.if_icmp .ge 25, 3) := by decide +kernel
theorem dX0_shift_28 : decode cX0_shift 28 = .ok (.aload_n 0, 1) := by decide +kernel
theorem dX0_shift_29 : decode cX0_shift 29 = .ok (.getfield 20, 3) := by decide +kernel
theorem dX0_shift_32 : decode cX0_shift 32 = .ok (.iload 4, 2) := by decide +kernel
theorem dX0_shift_34 : decode cX0_shift 34 = .ok (.aload_n 0, 1) := by decide +kernel
theorem dX0_shift_35 : decode cX0_shift 35 = .ok (.getfield 20, 3) := by decide +kernel
theorem dX0_shift_38 : decode cX0_shift 38 = .ok (.iload 4, 2) := by decide +kernel
theorem dX0_shift_40 : decode cX0_shift 40 = .ok (.iconst 1, 1) := by decide +kernel
theorem dX0_shift_41 : decode cX0_shift 41 = .ok (.iadd, 1) := by decide +kernel
theorem dX0_shift_42 : decode cX0_shift 42 = .ok (.aaload, 1) := by decide +kernel
theorem dX0_shift_43 : decode cX0_shift 43 = .ok (.aastore, 1) := by decide +kernel
theorem dX0_shift_44 : decode cX0_shift 44 = .ok (.iinc 4 1, 3) := by decide +kernel
theorem dX0_shift_47 : decode cX0_shift 47 = .ok (.goto (-25), 3) := by decide +kernel
theorem dX0_shift_50 : decode cX0_shift 50 = .ok (.iload_n 1, 1) := by decide +kernel
theorem dX0_shift_51 : decode cX0_shift 51 = .ok (.istore 4, 2) := by decide +kernel
theorem dX0_shift_53 : decode cX0_shift 53 = .ok (.iload 4, 2) := by decide +kernel
theorem dX0_shift_55 : decode cX0_shift 55 = .ok (.iload_n 2, 1) := by decide +kernel
theorem dX0_shift_56 : decode cX0_shift 56 = .ok (.if_icmp .le 25, 3) := by decide +kernel
theorem dX0_shift_59 : decode cX0_shift 59 = .ok (.aload_n 0, 1) := by decide +kernel
theorem dX0_shift_60 : decode cX0_shift 60 = .ok (.getfield 20, 3) := by decide +kernel
theorem dX0_shift_63 : decode cX0_shift 63 = .ok (.iload 4, 2) := by decide +kernel
theorem dX0_shift_65 : decode cX0_shift 65 = .ok (.aload_n 0, 1) := by decide +kernel
theorem dX0_shift_66 : decode cX0_shift 66 = .ok (.getfield 20, 3) := by decide +kernel
theorem dX0_shift_69 : decode cX0_shift 69 = .ok (.iload 4, 2) := by decide +kernel
theorem dX0_shift_71 : decode cX0_shift 71 = .ok (.iconst 1, 1) := by decide +kernel
theorem dX0_shift_72 : decode cX0_shift 72 = .ok (.isub, 1) := by decide +kernel
theorem dX0_shift_73 : decode cX0_shift 73 = .ok (.aaload, 1) := by decide +kernel
theorem dX0_shift_74 : decode cX0_shift 74 = .ok (.aastore, 1) := by decide +kernel
theorem dX0_shift_75 : decode cX0_shift 75 = .ok (.iinc 4 (-1), 3) := by decide +kernel
theorem dX0_shift_78 : decode cX0_shift 78 = .ok (.goto (-25), 3) := by decide +kernel
theorem dX0_shift_81 : decode cX0_shift 81 = .ok (.aload_n 0, 1) := by decide +kernel
theorem dX0_shift_82 : decode cX0_shift 82 = .ok (.getfield 20, 3) := by decide +kernel
theorem dX0_shift_85 : decode cX0_shift 85 = .ok (.iload_n 2, 1) := by decide +kernel
theorem dX0_shift_86 : decode cX0_shift 86 = .ok (.aload_n 3, 1) := by decide +kernel
theorem dX0_shift_87 : decode cX0_shift 87 = .ok (.aastore, 1) := by decide +kernel
theorem dX0_shift_88 : decode cX0_shift 88 = .ok (.return_, 1) := by decide +kernel
theorem dX0_nextLayer_0 : decode cX0_nextLayer 0 = .ok (.aload_n 0, 1) := by decide +kernel
theorem dX0_nextLayer_1 : decode cX0_nextLayer 1 = .ok (.invokevirtual 63, 3) := by decide +kernel
theorem dX0_nextLayer_4 : decode cX0_nextLayer 4 = .ok (.ifCond .eq 5, 3) := by decide +kernel
theorem dX0_nextLayer_7 : decode cX0_nextLayer 7 = .ok (.aconst_null, 1) := by decide +kernel
theorem dX0_nextLayer_8 : decode cX0_nextLayer 8 = .ok (.areturn, 1) := by decide +kernel
theorem dX0_nextLayer_9 : decode cX0_nextLayer 9 = .ok (.aload_n 0, 1) := by decide +kernel
theorem dX0_nextLayer_10 : decode cX0_nextLayer 10 = .ok (.dup, 1) := by decide +kernel
theorem dX0_nextLayer_11 : decode cX0_nextLayer 11 = .ok (.getfield 25, 3) := by decide +kernel
theorem dX0_nextLayer_14 : decode cX0_nextLayer 14 = .ok (.iconst 1, 1) := by decide +kernel
theorem dX0_nextLayer_15 : decode cX0_nextLayer 15 = .ok (.iadd, 1) := by decide +kernel
theorem dX0_nextLayer_16 : decode cX0_nextLayer 16 = .ok (.putfield 25, 3) := by decide +kernel
theorem dX0_nextLayer_19 : decode cX0_nextLayer 19 = .ok (.aload_n 0, 1) := by decide +kernel
theorem dX0_nextLayer_20 : decode cX0_nextLayer 20 = .ok (.aload_n 0, 1) := by decide +kernel
theorem dX0_nextLayer_21 : decode cX0_nextLayer 21 = .ok (.getfield 25, 3) := by decide +kernel
theorem dX0_nextLayer_24 : decode cX0_nextLayer 24 = .ok (.iconst 1, 1) := by decide +kernel
theorem dX0_nextLayer_25 : decode cX0_nextLayer 25 = .ok (.isub, 1) := by decide +kernel
theorem dX0_nextLayer_26 : decode cX0_nextLayer 26 = .ok (.invokevirtual 29, 3) := by decide +kernel
theorem dX0_nextLayer_29 : decode cX0_nextLayer 29 = .ok (.areturn, 1) := by decide +kernel
theorem dX1_init_0 : decode cX1_init 0 = .ok (.aload_n 0, 1) := by decide +kernel
theorem dX1_init_1 : decode cX1_init 1 = .ok (.invokespecial 3, 3) := by decide +kernel
theorem dX1_init_4 : decode cX1_init 4 = .ok (.aload_n 0, 1) := by decide +kernel
theorem dX1_init_5 : decode cX1_init 5 = .ok (.bipush 6, 2) := by decide +kernel
theorem dX1_init_7 : decode cX1_init 7 = .ok (.anewarray 9, 3) := by decide +kernel
theorem dX1_init_10 : decode cX1_init 10 = .ok (.putfield 11, 3) := by decide +kernel
theorem dX1_init_13 : decode cX1_init 13 = .ok (.iconst 0, 1) := by decide +kernel
theorem dX1_init_14 : decode cX1_init 14 = .ok (.istore_n 1, 1) := by decide +kernel
theorem dX1_init_15 : decode cX1_init 15 = .ok (.iload_n 1, 1) := by decide +kernel
theorem dX1_init_16 : decode cX1_init 16 = .ok (.aload_n 0, 1) := by decide +kernel
theorem dX1_init_17 : decode cX1_init 17 = .ok (.getfield 11, 3) := by decide +kernel
theorem dX1_init_20 : decode cX1_init 20 = .ok (.arraylength, 1) := by decide +kernel
theorem dX1_init_21 : decode cX1_init 21 = .ok (.if_icmp .ge 22, 3) := by decide +kernel
theorem dX1_init_24 : decode cX1_init 24 = .ok (.aload_n 0, 1) := by decide +kernel
theorem dX1_init_25 : decode cX1_init 25 = .ok (.getfield 11, 3) := by decide +kernel
theorem dX1_init_28 : decode cX1_init 28 = .ok (.iload_n 1, 1) := by decide +kernel
theorem dX1_init_29 : decode cX1_init 29 = .ok (.new 9, 3) := by decide +kernel
theorem dX1_init_32 : decode cX1_init 32 = .ok (.dup, 1) := by decide +kernel
theorem dX1_init_33 : decode cX1_init 33 = .ok (.invokespecial 17, 3) := by decide +kernel
theorem dX1_init_36 : decode cX1_init 36 = .ok (.aastore, 1) := by decide +kernel
theorem dX1_init_37 : decode cX1_init 37 = .ok (.iinc 1 1, 3) := by decide +kernel
theorem dX1_init_40 : decode cX1_init 40 = .ok (.goto (-25), 3) := by decide +kernel
theorem dX1_init_43 : decode cX1_init 43 = .ok (.return_, 1) := by decide +kernel
theorem dX1_push_0 : decode cX1_push 0 = .ok (.aload_n 0, 1) := by decide +kernel
theorem dX1_push_1 : decode cX1_push 1 = .ok (.getfield 18, 3) := by decide +kernel
theorem dX1_push_4 : decode cX1_push 4 = .ok (.aload_n 0, 1) := by decide +kernel
theorem dX1_push_5 : decode cX1_push 5 = .ok (.getfield 11, 3) := by decide +kernel
theorem dX1_push_8 : decode cX1_push 8 = .ok (.arraylength, 1) := by decide +kernel
theorem dX1_push_9 : decode cX1_push 9 = .ok (.if_icmp .lt 7, 3) := by decide +kernel
theorem dX1_push_12 : decode cX1_push 12 = .ok (.aload_n 0, 1) := by decide +kernel
theorem dX1_push_13 : decode cX1_push 13 = .ok (.invokevirtual 22, 3) := by decide +kernel
theorem dX1_push_16 : decode cX1_push 16 = .ok (.aload_n 0, 1) := by decide +kernel
theorem dX1_push_17 : decode cX1_push 17 = .ok (.getfield 18, 3) := by decide +kernel
theorem dX1_push_20 : decode cX1_push 20 = .ok (.ifCond .lt 15, 3) := by decide +kernel
theorem dX1_push_23 : decode cX1_push 23 = .ok (.aload_n 0, 1) := by decide +kernel
theorem dX1_push_24 : decode cX1_push 24 = .ok (.getfield 18, 3) := by decide +kernel
theorem dX1_push_27 : decode cX1_push 27 = .ok (.aload_n 0, 1) := by decide +kernel
theorem dX1_push_28 : decode cX1_push 28 = .ok (.getfield 11, 3) := by decide +kernel
theorem dX1_push_31 : decode cX1_push 31 = .ok (.arraylength, 1) := by decide +kernel
theorem dX1_push_32 : decode cX1_push 32 = .ok (.if_icmp .lt 4, 3) := by decide +kernel
theorem dX1_push_35 : decode cX1_push 35 = .ok (.return_, 1) := by decide +kernel
theorem dX1_push_36 : decode cX1_push 36 = .ok (.aload_n 0, 1) := by decide +kernel
theorem dX1_push_37 : decode cX1_push 37 = .ok (.getfield 11, 3) := by decide +kernel
theorem dX1_push_40 : decode cX1_push 40 = .ok (.aload_n 0, 1) := by decide +kernel
theorem dX1_push_41 : decode cX1_push 41 = .ok (.getfield 18, 3) := by decide +kernel
theorem dX1_push_44 : decode cX1_push 44 = .ok (.aaload, 1) := by decide +kernel
theorem dX1_push_45 : decode cX1_push 45 = .ok (.astore_n 2, 1) := by decide +kernel
theorem dX1_push_46 : decode cX1_push 46 = .ok (.aload_n 2, 1) := by decide +kernel
theorem dX1_push_47 : decode cX1_push 47 = .ok (.ifnull 18, 3) := by decide +kernel
theorem dX1_push_50 : decode cX1_push 50 = .ok (.aload_n 2, 1) := by decide +kernel
theorem dX1_push_51 : decode cX1_push 51 = .ok (.aload_n 1, 1) := by decide +kernel
theorem dX1_push_52 : decode cX1_push 52 = .ok (.invokevirtual 25, 3) := by decide +kernel
theorem dX1_push_55 : decode cX1_push 55 = .ok (.aload_n 0, 1) := by decide +kernel
theorem dX1_push_56 : decode cX1_push 56 = .ok (.dup, 1) := by decide +kernel
theorem dX1_push_57 : decode cX1_push 57 = .ok (.getfield 18, 3) := by decide +kernel
theorem dX1_push_60 : decode cX1_push 60 = .ok (.iconst 1, 1) := by decide +kernel
theorem dX1_push_61 : decode cX1_push 61 = .ok (.iadd, 1) := by decide +kernel
theorem dX1_push_62 : decode cX1_push 62 = .ok (.putfield 18, 3) := by decide +kernel
theorem dX1_push_65 : decode cX1_push 65 = .ok (.return_, 1) := by decide +kernel
theorem dX1_pop_0 : decode cX1_pop 0 = .ok (.aload_n 0, 1) := by decide +kernel
theorem dX1_pop_1 : decode cX1_pop 1 = .ok (.getfield 18, 3) := by decide +kernel
theorem dX1_pop_4 : decode cX1_pop 4 = .ok (.ifCond .le 15, 3) := by decide +kernel
theorem dX1_pop_7 : decode cX1_pop 7 = .ok (.aload_n 0, 1) := by decide +kernel
theorem dX1_pop_8 : decode cX1_pop 8 = .ok (.getfield 18, 3) := by decide +kernel
theorem dX1_pop_11 : decode cX1_pop 11 = .ok (.aload_n 0, 1) := by decide +kernel
theorem dX1_pop_12 : decode cX1_pop 12 = .ok (.getfield 11, 3) := by decide +kernel
theorem dX1_pop_15 : decode cX1_pop 15 = .ok (.arraylength, 1) := by decide +kernel
theorem dX1_pop_16 : decode cX1_pop 16 = .ok (.if_icmp .le 4, 3) := by decide +kernel
theorem dX1_pop_19 : decode cX1_pop 19 = .ok (.return_, 1) := by decide +kernel
theorem dX1_pop_20 : decode cX1_pop 20 = .ok (.aload_n 0, 1) := by decide +kernel
theorem dX1_pop_21 : decode cX1_pop 21 = .ok (.dup, 1) := by decide +kernel
theorem dX1_pop_22 : decode cX1_pop 22 = .ok (.getfield 18, 3) := by decide +kernel
theorem dX1_pop_25 : decode cX1_pop 25 = .ok (.iconst 1, 1) := by decide +kernel
theorem dX1_pop_26 : decode cX1_pop 26 = .ok (.isub, 1) := by decide +kernel
theorem dX1_pop_27 : decode cX1_pop 27 = .ok (.putfield 18, 3) := by decide +kernel
theorem dX1_pop_30 : decode cX1_pop 30 = .ok (.aload_n 0, 1) := by decide +kernel
theorem dX1_pop_31 : decode cX1_pop 31 = .ok (.getfield 11, 3) := by decide +kernel
theorem dX1_pop_34 : decode cX1_pop 34 = .ok (.aload_n 0, 1) := by decide +kernel
theorem dX1_pop_35 : decode cX1_pop 35 = .ok (.getfield 18, 3) := by decide +kernel
theorem dX1_pop_38 : decode cX1_pop 38 = .ok (.aaload, 1) := by decide +kernel
theorem dX1_pop_39 : decode cX1_pop 39 = .ok (.astore_n 2, 1) := by decide +kernel
theorem dX1_pop_40 : decode cX1_pop 40 = .ok (.aload_n 2, 1) := by decide +kernel
theorem dX1_pop_41 : decode cX1_pop 41 = .ok (.ifnull 8, 3) := by decide +kernel
theorem dX1_pop_44 : decode cX1_pop 44 = .ok (.aload_n 1, 1) := by decide +kernel
theorem dX1_pop_45 : decode cX1_pop 45 = .ok (.aload_n 2, 1) := by decide +kernel
theorem dX1_pop_46 : decode cX1_pop 46 = .ok (.invokevirtual 25, 3) := by decide +kernel
theorem dX1_pop_49 : decode cX1_pop 49 = .ok (.return_, 1) := by decide +kernel
theorem dX1_discardOldest_0 : decode cX1_discardOldest 0 = .ok (.aload_n 0, 1) := by decide +kernel
theorem dX1_discardOldest_1 : decode cX1_discardOldest 1 = .ok (.getfield 11, 3) := by decide +kernel
theorem dX1_discardOldest_4 : decode cX1_discardOldest 4 = .ok (.iconst 0, 1) := by decide +kernel
theorem dX1_discardOldest_5 : decode cX1_discardOldest 5 = .ok (.aaload, 1) := by decide +kernel
theorem dX1_discardOldest_6 : decode cX1_discardOldest 6 = .ok (.astore_n 1, 1) := by decide +kernel
theorem dX1_discardOldest_7 : decode cX1_discardOldest 7 = .ok (.iconst 0, 1) := by decide +kernel
theorem dX1_discardOldest_8 : decode cX1_discardOldest 8 = .ok (.istore_n 2, 1) := by decide +kernel
theorem dX1_discardOldest_9 : decode cX1_discardOldest 9 = .ok (.iload_n 2, 1) := by decide +kernel
theorem dX1_discardOldest_10 : decode cX1_discardOldest 10 = .ok (.iconst 1, 1) := by decide +kernel
theorem dX1_discardOldest_11 : decode cX1_discardOldest 11 = .ok (.iadd, 1) := by decide +kernel
theorem dX1_discardOldest_12 : decode cX1_discardOldest 12 = .ok (.aload_n 0, 1) := by decide +kernel
theorem dX1_discardOldest_13 : decode cX1_discardOldest 13 = .ok (.getfield 11, 3) := by decide +kernel
theorem dX1_discardOldest_16 : decode cX1_discardOldest 16 = .ok (.arraylength, 1) := by decide +kernel
theorem dX1_discardOldest_17 : decode cX1_discardOldest 17 = .ok (.if_icmp .ge 23, 3) := by decide +kernel
theorem dX1_discardOldest_20 : decode cX1_discardOldest 20 = .ok (.aload_n 0, 1) := by decide +kernel
theorem dX1_discardOldest_21 : decode cX1_discardOldest 21 = .ok (.getfield 11, 3) := by decide +kernel
theorem dX1_discardOldest_24 : decode cX1_discardOldest 24 = .ok (.iload_n 2, 1) := by decide +kernel
theorem dX1_discardOldest_25 : decode cX1_discardOldest 25 = .ok (.aload_n 0, 1) := by decide +kernel
theorem dX1_discardOldest_26 : decode cX1_discardOldest 26 = .ok (.getfield 11, 3) := by decide +kernel
theorem dX1_discardOldest_29 : decode cX1_discardOldest 29 = .ok (.iload_n 2, 1) := by decide +kernel
theorem dX1_discardOldest_30 : decode cX1_discardOldest 30 = .ok (.iconst 1, 1) := by decide +kernel
theorem dX1_discardOldest_31 : decode cX1_discardOldest 31 = .ok (.iadd, 1) := by decide +kernel
theorem dX1_discardOldest_32 : decode cX1_discardOldest 32 = .ok (.aaload, 1) := by decide +kernel
theorem dX1_discardOldest_33 : decode cX1_discardOldest 33 = .ok (.aastore, 1) := by decide +kernel
theorem dX1_discardOldest_34 : decode cX1_discardOldest 34 = .ok (.iinc 2 1, 3) := by decide +kernel
theorem dX1_discardOldest_37 : decode cX1_discardOldest 37 = .ok (.goto (-28), 3) := by decide +kernel
theorem dX1_discardOldest_40 : decode cX1_discardOldest 40 = .ok (.aload_n 0, 1) := by decide +kernel
theorem dX1_discardOldest_41 : decode cX1_discardOldest 41 = .ok (.getfield 11, 3) := by decide +kernel
theorem dX1_discardOldest_44 : decode cX1_discardOldest 44 = .ok (.aload_n 0, 1) := by decide +kernel
theorem dX1_discardOldest_45 : decode cX1_discardOldest 45 = .ok (.getfield 11, 3) := by decide +kernel
theorem dX1_discardOldest_48 : decode cX1_discardOldest 48 = .ok (.arraylength, 1) := by decide +kernel
theorem dX1_discardOldest_49 : decode cX1_discardOldest 49 = .ok (.iconst 1, 1) := by decide +kernel
theorem dX1_discardOldest_50 : decode cX1_discardOldest 50 = .ok (.isub, 1) := by decide +kernel
theorem dX1_discardOldest_51 : decode cX1_discardOldest 51 = .ok (.aload_n 1, 1) := by decide +kernel
theorem dX1_discardOldest_52 : decode cX1_discardOldest 52 = .ok (.aastore, 1) := by decide +kernel
theorem dX1_discardOldest_53 : decode cX1_discardOldest 53 = .ok (.aload_n 0, 1) := by decide +kernel
theorem dX1_discardOldest_54 : decode cX1_discardOldest 54 = .ok (.dup, 1) := by decide +kernel
theorem dX1_discardOldest_55 : decode cX1_discardOldest 55 = .ok (.getfield 18, 3) := by decide +kernel
theorem dX1_discardOldest_58 : decode cX1_discardOldest 58 = .ok (.iconst 1, 1) := by decide +kernel
theorem dX1_discardOldest_59 : decode cX1_discardOldest 59 = .ok (.isub, 1) := by decide +kernel
theorem dX1_discardOldest_60 : decode cX1_discardOldest 60 = .ok (.putfield 18, 3) := by decide +kernel
theorem dX1_discardOldest_63 : decode cX1_discardOldest 63 = .ok (.return_, 1) := by decide +kernel
theorem dX2_allow_0 : decode cX2_allow 0 = .ok (.iload_n 0, 1) := by decide +kernel
theorem dX2_allow_1 : decode cX2_allow 1 = .ok (.iconst 0, 1) := by decide +kernel
theorem dX2_allow_2 : decode cX2_allow 2 = .ok (.bipush 13, 2) := by decide +kernel
theorem dX2_allow_4 : decode cX2_allow 4 = .ok (.invokestatic 11, 3) := by decide +kernel
theorem dX2_allow_7 : decode cX2_allow 7 = .ok (.ifCond .eq 38, 3) := by decide +kernel
theorem dX2_allow_10 : decode cX2_allow 10 = .ok (.iload_n 1, 1) := by decide +kernel
theorem dX2_allow_11 : decode cX2_allow 11 = .ok (.iload_n 0, 1) := by decide +kernel
theorem dX2_allow_12 : decode cX2_allow 12 = .ok (.invokestatic 15, 3) := by decide +kernel
theorem dX2_allow_15 : decode cX2_allow 15 = .ok (.iload_n 0, 1) := by decide +kernel
theorem dX2_allow_16 : decode cX2_allow 16 = .ok (.invokestatic 19, 3) := by decide +kernel
theorem dX2_allow_19 : decode cX2_allow 19 = .ok (.invokestatic 11, 3) := by decide +kernel
theorem dX2_allow_22 : decode cX2_allow 22 = .ok (.ifCond .eq 23, 3) := by decide +kernel
theorem dX2_allow_25 : decode cX2_allow 25 = .ok (.iload_n 2, 1) := by decide +kernel
theorem dX2_allow_26 : decode cX2_allow 26 = .ok (.iload_n 0, 1) := by decide +kernel
theorem dX2_allow_27 : decode cX2_allow 27 = .ok (.iload_n 1, 1) := by decide +kernel
theorem dX2_allow_28 : decode cX2_allow 28 = .ok (.invokestatic 22, 3) := by decide +kernel
theorem dX2_allow_31 : decode cX2_allow 31 = .ok (.iload_n 0, 1) := by decide +kernel
theorem dX2_allow_32 : decode cX2_allow 32 = .ok (.invokestatic 26, 3) := by decide +kernel
theorem dX2_allow_35 : decode cX2_allow 35 = .ok (.invokestatic 11, 3) := by decide +kernel
theorem dX2_allow_38 : decode cX2_allow 38 = .ok (.ifCond .eq 7, 3) := by decide +kernel
theorem dX2_allow_41 : decode cX2_allow 41 = .ok (.iconst 1, 1) := by decide +kernel
theorem dX2_allow_42 : decode cX2_allow 42 = .ok (.goto 4, 3) := by decide +kernel
theorem dX2_allow_45 : decode cX2_allow 45 = .ok (.iconst 0, 1) := by decide +kernel
theorem dX2_allow_46 : decode cX2_allow 46 = .ok (.ireturn, 1) := by decide +kernel
theorem dX2_parametersOf_0 : decode cX2_parametersOf 0 = .ok (.getstatic 29, 3) := by decide +kernel
theorem dX2_parametersOf_3 : decode cX2_parametersOf 3 = .ok (.iload_n 0, 1) := by decide +kernel
theorem dX2_parametersOf_4 : decode cX2_parametersOf 4 = .ok (.invokestatic 33, 3) := by decide +kernel
theorem dX2_parametersOf_7 : decode cX2_parametersOf 7 = .ok (.ireturn, 1) := by decide +kernel
theorem dX2_lowestA_0 : decode cX2_lowestA 0 = .ok (.getstatic 37, 3) := by decide +kernel
theorem dX2_lowestA_3 : decode cX2_lowestA 3 = .ok (.iload_n 0, 1) := by decide +kernel
theorem dX2_lowestA_4 : decode cX2_lowestA 4 = .ok (.invokestatic 33, 3) := by decide +kernel
theorem dX2_lowestA_7 : decode cX2_lowestA 7 = .ok (.ireturn, 1) := by decide +kernel
theorem dX2_highestA_0 : decode cX2_highestA 0 = .ok (.getstatic 40, 3) := by decide +kernel
theorem dX2_highestA_3 : decode cX2_highestA 3 = .ok (.iload_n 0, 1) := by decide +kernel
theorem dX2_highestA_4 : decode cX2_highestA 4 = .ok (.invokestatic 33, 3) := by decide +kernel
theorem dX2_highestA_7 : decode cX2_highestA 7 = .ok (.ireturn, 1) := by decide +kernel
theorem dX2_lowestB_0 : decode cX2_lowestB 0 = .ok (.iload_n 0, 1) := by decide +kernel
theorem dX2_lowestB_1 : decode cX2_lowestB 1 = .ok (.ifCond .ne 9, 3) := by decide +kernel
theorem dX2_lowestB_4 : decode cX2_lowestB 4 = .ok (.iload_n 1, 1) := by decide +kernel
theorem dX2_lowestB_5 : decode cX2_lowestB 5 = .ok (.iconst 1, 1) := by decide +kernel
theorem dX2_lowestB_6 : decode cX2_lowestB 6 = .ok (.iadd, 1) := by decide +kernel
theorem dX2_lowestB_7 : decode cX2_lowestB 7 = .ok (.goto 10, 3) := by decide +kernel
theorem dX2_lowestB_10 : decode cX2_lowestB 10 = .ok (.getstatic 43, 3) := by decide +kernel
theorem dX2_lowestB_13 : decode cX2_lowestB 13 = .ok (.iload_n 0, 1) := by decide +kernel
theorem dX2_lowestB_14 : decode cX2_lowestB 14 = .ok (.invokestatic 33, 3) := by decide +kernel
theorem dX2_lowestB_17 : decode cX2_lowestB 17 = .ok (.ireturn, 1) := by decide +kernel
theorem dX2_highestB_0 : decode cX2_highestB 0 = .ok (.getstatic 46, 3) := by decide +kernel
theorem dX2_highestB_3 : decode cX2_highestB 3 = .ok (.iload_n 0, 1) := by decide +kernel
theorem dX2_highestB_4 : decode cX2_highestB 4 = .ok (.invokestatic 33, 3) := by decide +kernel
theorem dX2_highestB_7 : decode cX2_highestB 7 = .ok (.ireturn, 1) := by decide +kernel
theorem dX2_entry_0 : decode cX2_entry 0 = .ok (.iload_n 1, 1) := by decide +kernel
theorem dX2_entry_1 : decode cX2_entry 1 = .ok (.ifCond .lt 15, 3) := by decide +kernel
theorem dX2_entry_4 : decode cX2_entry 4 = .ok (.iload_n 1, 1) := by decide +kernel
theorem dX2_entry_5 : decode cX2_entry 5 = .ok (.aload_n 0, 1) := by decide +kernel
theorem dX2_entry_6 : decode cX2_entry 6 = .ok (.arraylength, 1) := by decide +kernel
theorem dX2_entry_7 : decode cX2_entry 7 = .ok (.if_icmp .ge 9, 3) := by decide +kernel
theorem dX2_entry_10 : decode cX2_entry 10 = .ok (.aload_n 0, 1) := by decide +kernel
theorem dX2_entry_11 : decode cX2_entry 11 = .ok (.iload_n 1, 1) := by decide +kernel
theorem dX2_entry_12 : decode cX2_entry 12 = .ok (.iaload, 1) := by decide +kernel
theorem dX2_entry_13 : decode cX2_entry 13 = .ok (.goto 4, 3) := by decide +kernel
theorem dX2_entry_16 : decode cX2_entry 16 = .ok (.iconst 0, 1) := by decide +kernel
theorem dX2_entry_17 : decode cX2_entry 17 = .ok (.ireturn, 1) := by decide +kernel
theorem dX2_nameOf_0 : decode cX2_nameOf 0 = .ok (.iload_n 0, 1) := by decide +kernel
theorem dX2_nameOf_1 : decode cX2_nameOf 1 = .ok (.tableswitch 113 0 13 #[71, 74, 77, 80, 83, 86, 89, 92, 95, 98, 101, 104, 107, 110], 71) := by decide +kernel
theorem dX2_nameOf_72 : decode cX2_nameOf 72 = .ok (.ldc 49, 2) := by decide +kernel
theorem dX2_nameOf_74 : decode cX2_nameOf 74 = .ok (.areturn, 1) := by decide +kernel
theorem dX2_nameOf_75 : decode cX2_nameOf 75 = .ok (.ldc 51, 2) := by decide +kernel
theorem dX2_nameOf_77 : decode cX2_nameOf 77 = .ok (.areturn, 1) := by decide +kernel
theorem dX2_nameOf_78 : decode cX2_nameOf 78 = .ok (.ldc 53, 2) := by decide +kernel
theorem dX2_nameOf_80 : decode cX2_nameOf 80 = .ok (.areturn, 1) := by decide +kernel
theorem dX2_nameOf_81 : decode cX2_nameOf 81 = .ok (.ldc 55, 2) := by decide +kernel
theorem dX2_nameOf_83 : decode cX2_nameOf 83 = .ok (.areturn, 1) := by decide +kernel
theorem dX2_nameOf_84 : decode cX2_nameOf 84 = .ok (.ldc 57, 2) := by decide +kernel
theorem dX2_nameOf_86 : decode cX2_nameOf 86 = .ok (.areturn, 1) := by decide +kernel
theorem dX2_nameOf_87 : decode cX2_nameOf 87 = .ok (.ldc 59, 2) := by decide +kernel
theorem dX2_nameOf_89 : decode cX2_nameOf 89 = .ok (.areturn, 1) := by decide +kernel
theorem dX2_nameOf_90 : decode cX2_nameOf 90 = .ok (.ldc 61, 2) := by decide +kernel
theorem dX2_nameOf_92 : decode cX2_nameOf 92 = .ok (.areturn, 1) := by decide +kernel
theorem dX2_nameOf_93 : decode cX2_nameOf 93 = .ok (.ldc 63, 2) := by decide +kernel
theorem dX2_nameOf_95 : decode cX2_nameOf 95 = .ok (.areturn, 1) := by decide +kernel
theorem dX2_nameOf_96 : decode cX2_nameOf 96 = .ok (.ldc 65, 2) := by decide +kernel
theorem dX2_nameOf_98 : decode cX2_nameOf 98 = .ok (.areturn, 1) := by decide +kernel
theorem dX2_nameOf_99 : decode cX2_nameOf 99 = .ok (.ldc 67, 2) := by decide +kernel
theorem dX2_nameOf_101 : decode cX2_nameOf 101 = .ok (.areturn, 1) := by decide +kernel
theorem dX2_nameOf_102 : decode cX2_nameOf 102 = .ok (.ldc 69, 2) := by decide +kernel
theorem dX2_nameOf_104 : decode cX2_nameOf 104 = .ok (.areturn, 1) := by decide +kernel
theorem dX2_nameOf_105 : decode cX2_nameOf 105 = .ok (.ldc 71, 2) := by decide +kernel
theorem dX2_nameOf_107 : decode cX2_nameOf 107 = .ok (.areturn, 1) := by decide +kernel
theorem dX2_nameOf_108 : decode cX2_nameOf 108 = .ok (.ldc 73, 2) := by decide +kernel
theorem dX2_nameOf_110 : decode cX2_nameOf 110 = .ok (.areturn, 1) := by decide +kernel
theorem dX2_nameOf_111 : decode cX2_nameOf 111 = .ok (.ldc 75, 2) := by decide +kernel
theorem dX2_nameOf_113 : decode cX2_nameOf 113 = .ok (.areturn, 1) := by decide +kernel
theorem dX2_nameOf_114 : decode cX2_nameOf 114 = .ok (.ldc 77, 2) := by decide +kernel
theorem dX2_nameOf_116 : decode cX2_nameOf 116 = .ok (.areturn, 1) := by decide +kernel
theorem dX3_init_0 : decode cX3_init 0 = .ok (.aload_n 0, 1) := by decide +kernel
theorem dX3_init_1 : decode cX3_init 1 = .ok (.invokespecial 3, 3) := by decide +kernel
theorem dX3_init_4 : decode cX3_init 4 = .ok (.aload_n 0, 1) := by decide +kernel
theorem dX3_init_5 : decode cX3_init 5 = .ok (.new 9, 3) := by decide +kernel
theorem dX3_init_8 : decode cX3_init 8 = .ok (.dup, 1) := by decide +kernel
theorem dX3_init_9 : decode cX3_init 9 = .ok (.invokespecial 11, 3) := by decide +kernel
theorem dX3_init_12 : decode cX3_init 12 = .ok (.putfield 12, 3) := by decide +kernel
theorem dX3_init_15 : decode cX3_init 15 = .ok (.return_, 1) := by decide +kernel
theorem dX3_startAs_0 : decode cX3_startAs 0 = .ok (.aload_n 0, 1) := by decide +kernel
theorem dX3_startAs_1 : decode cX3_startAs 1 = .ok (.iload_n 1, 1) := by decide +kernel
theorem dX3_startAs_2 : decode cX3_startAs 2 = .ok (.putfield 18, 3) := by decide +kernel
theorem dX3_startAs_5 : decode cX3_startAs 5 = .ok (.aload_n 0, 1) := by decide +kernel
theorem dX3_startAs_6 : decode cX3_startAs 6 = .ok (.iload_n 2, 1) := by decide +kernel
theorem dX3_startAs_7 : decode cX3_startAs 7 = .ok (.putfield 22, 3) := by decide +kernel
theorem dX3_startAs_10 : decode cX3_startAs 10 = .ok (.aload_n 0, 1) := by decide +kernel
theorem dX3_startAs_11 : decode cX3_startAs 11 = .ok (.iload_n 3, 1) := by decide +kernel
theorem dX3_startAs_12 : decode cX3_startAs 12 = .ok (.putfield 25, 3) := by decide +kernel
theorem dX3_startAs_15 : decode cX3_startAs 15 = .ok (.aload_n 0, 1) := by decide +kernel
theorem dX3_startAs_16 : decode cX3_startAs 16 = .ok (.iconst 0, 1) := by decide +kernel
theorem dX3_startAs_17 : decode cX3_startAs 17 = .ok (.putfield 30, 3) := by decide +kernel
theorem dX3_startAs_20 : decode cX3_startAs 20 = .ok (.aload_n 0, 1) := by decide +kernel
theorem dX3_startAs_21 : decode cX3_startAs 21 = .ok (.bipush 100, 2) := by decide +kernel
theorem dX3_startAs_23 : decode cX3_startAs 23 = .ok (.putfield 33, 3) := by decide +kernel
theorem dX3_startAs_26 : decode cX3_startAs 26 = .ok (.aload_n 0, 1) := by decide +kernel
theorem dX3_startAs_27 : decode cX3_startAs 27 = .ok (.iconst 1, 1) := by decide +kernel
theorem dX3_startAs_28 : decode cX3_startAs 28 = .ok (.putfield 36, 3) := by decide +kernel
theorem dX3_startAs_31 : decode cX3_startAs 31 = .ok (.aload_n 0, 1) := by decide +kernel
theorem dX3_startAs_32 : decode cX3_startAs 32 = .ok (.getfield 12, 3) := by decide +kernel
theorem dX3_startAs_35 : decode cX3_startAs 35 = .ok (.invokevirtual 40, 3) := by decide +kernel
theorem dX3_startAs_38 : decode cX3_startAs 38 = .ok (.return_, 1) := by decide +kernel
theorem dX3_copyFrom_0 : decode cX3_copyFrom 0 = .ok (.aload_n 0, 1) := by decide +kernel
theorem dX3_copyFrom_1 : decode cX3_copyFrom 1 = .ok (.aload_n 1, 1) := by decide +kernel
theorem dX3_copyFrom_2 : decode cX3_copyFrom 2 = .ok (.getfield 18, 3) := by decide +kernel
theorem dX3_copyFrom_5 : decode cX3_copyFrom 5 = .ok (.putfield 18, 3) := by decide +kernel
theorem dX3_copyFrom_8 : decode cX3_copyFrom 8 = .ok (.aload_n 0, 1) := by decide +kernel
theorem dX3_copyFrom_9 : decode cX3_copyFrom 9 = .ok (.aload_n 1, 1) := by decide +kernel
theorem dX3_copyFrom_10 : decode cX3_copyFrom 10 = .ok (.getfield 22, 3) := by decide +kernel
theorem dX3_copyFrom_13 : decode cX3_copyFrom 13 = .ok (.putfield 22, 3) := by decide +kernel
theorem dX3_copyFrom_16 : decode cX3_copyFrom 16 = .ok (.aload_n 0, 1) := by decide +kernel
theorem dX3_copyFrom_17 : decode cX3_copyFrom 17 = .ok (.aload_n 1, 1) := by decide +kernel
theorem dX3_copyFrom_18 : decode cX3_copyFrom 18 = .ok (.getfield 25, 3) := by decide +kernel
theorem dX3_copyFrom_21 : decode cX3_copyFrom 21 = .ok (.putfield 25, 3) := by decide +kernel
theorem dX3_copyFrom_24 : decode cX3_copyFrom 24 = .ok (.aload_n 0, 1) := by decide +kernel
theorem dX3_copyFrom_25 : decode cX3_copyFrom 25 = .ok (.aload_n 1, 1) := by decide +kernel
theorem dX3_copyFrom_26 : decode cX3_copyFrom 26 = .ok (.getfield 30, 3) := by decide +kernel
theorem dX3_copyFrom_29 : decode cX3_copyFrom 29 = .ok (.putfield 30, 3) := by decide +kernel
theorem dX3_copyFrom_32 : decode cX3_copyFrom 32 = .ok (.aload_n 0, 1) := by decide +kernel
theorem dX3_copyFrom_33 : decode cX3_copyFrom 33 = .ok (.aload_n 1, 1) := by decide +kernel
theorem dX3_copyFrom_34 : decode cX3_copyFrom 34 = .ok (.getfield 33, 3) := by decide +kernel
theorem dX3_copyFrom_37 : decode cX3_copyFrom 37 = .ok (.putfield 33, 3) := by decide +kernel
theorem dX3_copyFrom_40 : decode cX3_copyFrom 40 = .ok (.aload_n 0, 1) := by decide +kernel
theorem dX3_copyFrom_41 : decode cX3_copyFrom 41 = .ok (.aload_n 1, 1) := by decide +kernel
theorem dX3_copyFrom_42 : decode cX3_copyFrom 42 = .ok (.getfield 36, 3) := by decide +kernel
theorem dX3_copyFrom_45 : decode cX3_copyFrom 45 = .ok (.putfield 36, 3) := by decide +kernel
theorem dX3_copyFrom_48 : decode cX3_copyFrom 48 = .ok (.aload_n 0, 1) := by decide +kernel
theorem dX3_copyFrom_49 : decode cX3_copyFrom 49 = .ok (.getfield 12, 3) := by decide +kernel
theorem dX3_copyFrom_52 : decode cX3_copyFrom 52 = .ok (.aload_n 1, 1) := by decide +kernel
theorem dX3_copyFrom_53 : decode cX3_copyFrom 53 = .ok (.getfield 12, 3) := by decide +kernel
theorem dX3_copyFrom_56 : decode cX3_copyFrom 56 = .ok (.invokevirtual 43, 3) := by decide +kernel
theorem dX3_copyFrom_59 : decode cX3_copyFrom 59 = .ok (.return_, 1) := by decide +kernel
theorem dX3_seesNeighbourhood_0 : decode cX3_seesNeighbourhood 0 = .ok (.aload_n 0, 1) := by decide +kernel
theorem dX3_seesNeighbourhood_1 : decode cX3_seesNeighbourhood 1 = .ok (.getfield 18, 3) := by decide +kernel
theorem dX3_seesNeighbourhood_4 : decode cX3_seesNeighbourhood 4 = .ok (.bipush 6, 2) := by decide +kernel
theorem dX3_seesNeighbourhood_6 : decode cX3_seesNeighbourhood 6 = .ok (.bipush 10, 2) := by decide +kernel
theorem dX3_seesNeighbourhood_8 : decode cX3_seesNeighbourhood 8 = .ok (.invokestatic 47, 3) := by decide +kernel
theorem dX3_seesNeighbourhood_11 : decode cX3_seesNeighbourhood 11 = .ok (.ireturn, 1) := by decide +kernel
theorem dX3_reach_0 : decode cX3_reach 0 = .ok (.aload_n 0, 1) := by decide +kernel
theorem dX3_reach_1 : decode cX3_reach 1 = .ok (.invokevirtual 51, 3) := by decide +kernel
theorem dX3_reach_4 : decode cX3_reach 4 = .ok (.ifCond .eq 8, 3) := by decide +kernel
theorem dX3_reach_7 : decode cX3_reach 7 = .ok (.aload_n 0, 1) := by decide +kernel
theorem dX3_reach_8 : decode cX3_reach 8 = .ok (.getfield 22, 3) := by decide +kernel
theorem dX3_reach_11 : decode cX3_reach 11 = .ok (.ireturn, 1) := by decide +kernel
theorem dX3_reach_12 : decode cX3_reach 12 = .ok (.aload_n 0, 1) := by decide +kernel
theorem dX3_reach_13 : decode cX3_reach 13 = .ok (.getfield 18, 3) := by decide +kernel
theorem dX3_reach_16 : decode cX3_reach 16 = .ok (.bipush 11, 2) := by decide +kernel
theorem dX3_reach_18 : decode cX3_reach 18 = .ok (.if_icmp .ne 21, 3) := by decide +kernel
theorem dX3_reach_21 : decode cX3_reach 21 = .ok (.aload_n 0, 1) := by decide +kernel
theorem dX3_reach_22 : decode cX3_reach 22 = .ok (.getfield 22, 3) := by decide +kernel
theorem dX3_reach_25 : decode cX3_reach 25 = .ok (.invokestatic 55, 3) := by decide +kernel
theorem dX3_reach_28 : decode cX3_reach 28 = .ok (.aload_n 0, 1) := by decide +kernel
theorem dX3_reach_29 : decode cX3_reach 29 = .ok (.getfield 25, 3) := by decide +kernel
theorem dX3_reach_32 : decode cX3_reach 32 = .ok (.invokestatic 55, 3) := by decide +kernel
theorem dX3_reach_35 : decode cX3_reach 35 = .ok (.invokestatic 61, 3) := by decide +kernel
theorem dX3_reach_38 : decode cX3_reach 38 = .ok (.ireturn, 1) := by decide +kernel
theorem dX3_reach_39 : decode cX3_reach 39 = .ok (.aload_n 0, 1) := by decide +kernel
theorem dX3_reach_40 : decode cX3_reach 40 = .ok (.getfield 18, 3) := by decide +kernel
theorem dX3_reach_43 : decode cX3_reach 43 = .ok (.bipush 13, 2) := by decide +kernel
theorem dX3_reach_45 : decode cX3_reach 45 = .ok (.if_icmp .ne 8, 3) := by decide +kernel
theorem dX3_reach_48 : decode cX3_reach 48 = .ok (.bipush 16, 2) := by decide +kernel
theorem dX3_reach_50 : decode cX3_reach 50 = .ok (.goto 4, 3) := by decide +kernel
theorem dX3_reach_53 : decode cX3_reach 53 = .ok (.iconst 0, 1) := by decide +kernel
theorem dX3_reach_54 : decode cX3_reach 54 = .ok (.ireturn, 1) := by decide +kernel
theorem dX4_init_0 : decode cX4_init 0 = .ok (.aload_n 0, 1) := by decide +kernel
theorem dX4_init_1 : decode cX4_init 1 = .ok (.invokespecial 3, 3) := by decide +kernel
theorem dX4_init_4 : decode cX4_init 4 = .ok (.aload_n 0, 1) := by decide +kernel
theorem dX4_init_5 : decode cX4_init 5 = .ok (.bipush 18, 2) := by decide +kernel
theorem dX4_init_7 : decode cX4_init 7 = .ok (.newarray .int, 2) := by decide +kernel
theorem dX4_init_9 : decode cX4_init 9 = .ok (.putfield 11, 3) := by decide +kernel
theorem dX4_init_12 : decode cX4_init 12 = .ok (.return_, 1) := by decide +kernel
theorem dX4_allows_0 : decode cX4_allows 0 = .ok (.iload_n 0, 1) := by decide +kernel
theorem dX4_allows_1 : decode cX4_allows 1 = .ok (.tableswitch 142 0 4 #[35, 58, 105, 35, 35], 35) := by decide +kernel
theorem dX4_allows_36 : decode cX4_allows 36 = .ok (.iload_n 1, 1) := by decide +kernel
theorem dX4_allows_37 : decode cX4_allows 37 = .ok (.ifCond .ne 20, 3) := by decide +kernel
theorem dX4_allows_40 : decode cX4_allows 40 = .ok (.iload_n 2, 1) := by decide +kernel
theorem dX4_allows_41 : decode cX4_allows 41 = .ok (.ifCond .ne 16, 3) := by decide +kernel
theorem dX4_allows_44 : decode cX4_allows 44 = .ok (.iload_n 3, 1) := by decide +kernel
theorem dX4_allows_45 : decode cX4_allows 45 = .ok (.ifCond .ne 12, 3) := by decide +kernel
theorem dX4_allows_48 : decode cX4_allows 48 = .ok (.iload 4, 2) := by decide +kernel
theorem dX4_allows_50 : decode cX4_allows 50 = .ok (.ifCond .ne 7, 3) := by decide +kernel
theorem dX4_allows_53 : decode cX4_allows 53 = .ok (.iconst 1, 1) := by decide +kernel
theorem dX4_allows_54 : decode cX4_allows 54 = .ok (.goto 4, 3) := by decide +kernel
theorem dX4_allows_57 : decode cX4_allows 57 = .ok (.iconst 0, 1) := by decide +kernel
theorem dX4_allows_58 : decode cX4_allows 58 = .ok (.ireturn, 1) := by decide +kernel
theorem dX4_allows_59 : decode cX4_allows 59 = .ok (.iload_n 1, 1) := by decide +kernel
theorem dX4_allows_60 : decode cX4_allows 60 = .ok (.iconst 0, 1) := by decide +kernel
theorem dX4_allows_61 : decode cX4_allows 61 = .ok (.bipush 15, 2) := by decide +kernel
theorem dX4_allows_63 : decode cX4_allows 63 = .ok (.invokestatic 15, 3) := by decide +kernel
theorem dX4_allows_66 : decode cX4_allows 66 = .ok (.ifCond .eq 38, 3) := by decide +kernel
theorem dX4_allows_69 : decode cX4_allows 69 = .ok (.iload_n 3, 1) := by decide +kernel
theorem dX4_allows_70 : decode cX4_allows 70 = .ok (.iload_n 1, 1) := by decide +kernel
theorem dX4_allows_71 : decode cX4_allows 71 = .ok (.bipush 15, 2) := by decide +kernel
theorem dX4_allows_73 : decode cX4_allows 73 = .ok (.invokestatic 15, 3) := by decide +kernel
theorem dX4_allows_76 : decode cX4_allows 76 = .ok (.ifCond .eq 28, 3) := by decide +kernel
theorem dX4_allows_79 : decode cX4_allows 79 = .ok (.iload_n 2, 1) := by decide +kernel
theorem dX4_allows_80 : decode cX4_allows 80 = .ok (.iconst 0, 1) := by decide +kernel
theorem dX4_allows_81 : decode cX4_allows 81 = .ok (.bipush 15, 2) := by decide +kernel
theorem dX4_allows_83 : decode cX4_allows 83 = .ok (.invokestatic 15, 3) := by decide +kernel
theorem dX4_allows_86 : decode cX4_allows 86 = .ok (.ifCond .eq 18, 3) := by decide +kernel
theorem dX4_allows_89 : decode cX4_allows 89 = .ok (.iload 4, 2) := by decide +kernel
theorem dX4_allows_91 : decode cX4_allows 91 = .ok (.iload_n 2, 1) := by decide +kernel
theorem dX4_allows_92 : decode cX4_allows 92 = .ok (.bipush 15, 2) := by decide +kernel
theorem dX4_allows_94 : decode cX4_allows 94 = .ok (.invokestatic 15, 3) := by decide +kernel
theorem dX4_allows_97 : decode cX4_allows 97 = .ok (.ifCond .eq 7, 3) := by decide +kernel
theorem dX4_allows_100 : decode cX4_allows 100 = .ok (.iconst 1, 1) := by decide +kernel
theorem dX4_allows_101 : decode cX4_allows 101 = .ok (.goto 4, 3) := by decide +kernel
theorem dX4_allows_104 : decode cX4_allows 104 = .ok (.iconst 0, 1) := by decide +kernel
theorem dX4_allows_105 : decode cX4_allows 105 = .ok (.ireturn, 1) := by decide +kernel
theorem dX4_allows_106 : decode cX4_allows 106 = .ok (.iload_n 1, 1) := by decide +kernel
theorem dX4_allows_107 : decode cX4_allows 107 = .ok (.iconst 0, 1) := by decide +kernel
theorem dX4_allows_108 : decode cX4_allows 108 = .ok (.bipush 14, 2) := by decide +kernel
theorem dX4_allows_110 : decode cX4_allows 110 = .ok (.invokestatic 15, 3) := by decide +kernel
theorem dX4_allows_113 : decode cX4_allows 113 = .ok (.ifCond .eq 28, 3) := by decide +kernel
theorem dX4_allows_116 : decode cX4_allows 116 = .ok (.iload_n 3, 1) := by decide +kernel
theorem dX4_allows_117 : decode cX4_allows 117 = .ok (.iload_n 1, 1) := by decide +kernel
theorem dX4_allows_118 : decode cX4_allows 118 = .ok (.iconst 1, 1) := by decide +kernel
theorem dX4_allows_119 : decode cX4_allows 119 = .ok (.iadd, 1) := by decide +kernel
theorem dX4_allows_120 : decode cX4_allows 120 = .ok (.bipush 15, 2) := by decide +kernel
theorem dX4_allows_122 : decode cX4_allows 122 = .ok (.invokestatic 15, 3) := by decide +kernel
theorem dX4_allows_125 : decode cX4_allows 125 = .ok (.ifCond .eq 16, 3) := by decide +kernel
theorem dX4_allows_128 : decode cX4_allows 128 = .ok (.iload_n 2, 1) := by decide +kernel
theorem dX4_allows_129 : decode cX4_allows 129 = .ok (.ifCond .ne 12, 3) := by decide +kernel
theorem dX4_allows_132 : decode cX4_allows 132 = .ok (.iload 4, 2) := by decide +kernel
theorem dX4_allows_134 : decode cX4_allows 134 = .ok (.ifCond .ne 7, 3) := by decide +kernel
theorem dX4_allows_137 : decode cX4_allows 137 = .ok (.iconst 1, 1) := by decide +kernel
theorem dX4_allows_138 : decode cX4_allows 138 = .ok (.goto 4, 3) := by decide +kernel
theorem dX4_allows_141 : decode cX4_allows 141 = .ok (.iconst 0, 1) := by decide +kernel
theorem dX4_allows_142 : decode cX4_allows 142 = .ok (.ireturn, 1) := by decide +kernel
theorem dX4_allows_143 : decode cX4_allows 143 = .ok (.iconst 0, 1) := by decide +kernel
theorem dX4_allows_144 : decode cX4_allows 144 = .ok (.ireturn, 1) := by decide +kernel
theorem dX4_define_0 : decode cX4_define 0 = .ok (.aload_n 0, 1) := by decide +kernel
theorem dX4_define_1 : decode cX4_define 1 = .ok (.iload_n 1, 1) := by decide +kernel
theorem dX4_define_2 : decode cX4_define 2 = .ok (.putfield 19, 3) := by decide +kernel
theorem dX4_define_5 : decode cX4_define 5 = .ok (.aload_n 0, 1) := by decide +kernel
theorem dX4_define_6 : decode cX4_define 6 = .ok (.iload_n 2, 1) := by decide +kernel
theorem dX4_define_7 : decode cX4_define 7 = .ok (.putfield 23, 3) := by decide +kernel
theorem dX4_define_10 : decode cX4_define 10 = .ok (.aload_n 0, 1) := by decide +kernel
theorem dX4_define_11 : decode cX4_define 11 = .ok (.iload_n 3, 1) := by decide +kernel
theorem dX4_define_12 : decode cX4_define 12 = .ok (.putfield 26, 3) := by decide +kernel
theorem dX4_define_15 : decode cX4_define 15 = .ok (.aload_n 0, 1) := by decide +kernel
theorem dX4_define_16 : decode cX4_define 16 = .ok (.iload 4, 2) := by decide +kernel
theorem dX4_define_18 : decode cX4_define 18 = .ok (.putfield 29, 3) := by decide +kernel
theorem dX4_define_21 : decode cX4_define 21 = .ok (.aload_n 0, 1) := by decide +kernel
theorem dX4_define_22 : decode cX4_define 22 = .ok (.iload 5, 2) := by decide +kernel
theorem dX4_define_24 : decode cX4_define 24 = .ok (.putfield 32, 3) := by decide +kernel
theorem dX4_define_27 : decode cX4_define 27 = .ok (.return_, 1) := by decide +kernel
theorem dX4_startAnew_0 : decode cX4_startAnew 0 = .ok (.aload_n 0, 1) := by decide +kernel
theorem dX4_startAnew_1 : decode cX4_startAnew 1 = .ok (.iconst 0, 1) := by decide +kernel
theorem dX4_startAnew_2 : decode cX4_startAnew 2 = .ok (.iconst 0, 1) := by decide +kernel
theorem dX4_startAnew_3 : decode cX4_startAnew 3 = .ok (.iconst 0, 1) := by decide +kernel
theorem dX4_startAnew_4 : decode cX4_startAnew 4 = .ok (.iconst 0, 1) := by decide +kernel
theorem dX4_startAnew_5 : decode cX4_startAnew 5 = .ok (.iconst 0, 1) := by decide +kernel
theorem dX4_startAnew_6 : decode cX4_startAnew 6 = .ok (.invokevirtual 35, 3) := by decide +kernel
theorem dX4_startAnew_9 : decode cX4_startAnew 9 = .ok (.aload_n 0, 1) := by decide +kernel
theorem dX4_startAnew_10 : decode cX4_startAnew 10 = .ok (.iconst 0, 1) := by decide +kernel
theorem dX4_startAnew_11 : decode cX4_startAnew 11 = .ok (.putfield 39, 3) := by decide +kernel
theorem dX4_startAnew_14 : decode cX4_startAnew 14 = .ok (.aload_n 0, 1) := by decide +kernel
theorem dX4_startAnew_15 : decode cX4_startAnew 15 = .ok (.iconst 0, 1) := by decide +kernel
theorem dX4_startAnew_16 : decode cX4_startAnew 16 = .ok (.putfield 42, 3) := by decide +kernel
theorem dX4_startAnew_19 : decode cX4_startAnew 19 = .ok (.aload_n 0, 1) := by decide +kernel
theorem dX4_startAnew_20 : decode cX4_startAnew 20 = .ok (.iconst 0, 1) := by decide +kernel
theorem dX4_startAnew_21 : decode cX4_startAnew 21 = .ok (.putfield 46, 3) := by decide +kernel
theorem dX4_startAnew_24 : decode cX4_startAnew 24 = .ok (.return_, 1) := by decide +kernel
theorem dX4_copyFrom_0 : decode cX4_copyFrom 0 = .ok (.aload_n 0, 1) := by decide +kernel
theorem dX4_copyFrom_1 : decode cX4_copyFrom 1 = .ok (.aload_n 1, 1) := by decide +kernel
theorem dX4_copyFrom_2 : decode cX4_copyFrom 2 = .ok (.getfield 19, 3) := by decide +kernel
theorem dX4_copyFrom_5 : decode cX4_copyFrom 5 = .ok (.aload_n 1, 1) := by decide +kernel
theorem dX4_copyFrom_6 : decode cX4_copyFrom 6 = .ok (.getfield 23, 3) := by decide +kernel
theorem dX4_copyFrom_9 : decode cX4_copyFrom 9 = .ok (.aload_n 1, 1) := by decide +kernel
theorem dX4_copyFrom_10 : decode cX4_copyFrom 10 = .ok (.getfield 26, 3) := by decide +kernel
theorem dX4_copyFrom_13 : decode cX4_copyFrom 13 = .ok (.aload_n 1, 1) := by decide +kernel
theorem dX4_copyFrom_14 : decode cX4_copyFrom 14 = .ok (.getfield 29, 3) := by decide +kernel
theorem dX4_copyFrom_17 : decode cX4_copyFrom 17 = .ok (.aload_n 1, 1) := by decide +kernel
theorem dX4_copyFrom_18 : decode cX4_copyFrom 18 = .ok (.getfield 32, 3) := by decide +kernel
theorem dX4_copyFrom_21 : decode cX4_copyFrom 21 = .ok (.invokevirtual 35, 3) := by decide +kernel
theorem dX4_copyFrom_24 : decode cX4_copyFrom 24 = .ok (.aload_n 0, 1) := by decide +kernel
theorem dX4_copyFrom_25 : decode cX4_copyFrom 25 = .ok (.aload_n 1, 1) := by decide +kernel
theorem dX4_copyFrom_26 : decode cX4_copyFrom 26 = .ok (.getfield 39, 3) := by decide +kernel
theorem dX4_copyFrom_29 : decode cX4_copyFrom 29 = .ok (.putfield 39, 3) := by decide +kernel
theorem dX4_copyFrom_32 : decode cX4_copyFrom 32 = .ok (.aload_n 0, 1) := by decide +kernel
theorem dX4_copyFrom_33 : decode cX4_copyFrom 33 = .ok (.aload_n 1, 1) := by decide +kernel
theorem dX4_copyFrom_34 : decode cX4_copyFrom 34 = .ok (.getfield 42, 3) := by decide +kernel
theorem dX4_copyFrom_37 : decode cX4_copyFrom 37 = .ok (.putfield 42, 3) := by decide +kernel
theorem dX4_copyFrom_40 : decode cX4_copyFrom 40 = .ok (.aload_n 0, 1) := by decide +kernel
theorem dX4_copyFrom_41 : decode cX4_copyFrom 41 = .ok (.aload_n 1, 1) := by decide +kernel
theorem dX4_copyFrom_42 : decode cX4_copyFrom 42 = .ok (.getfield 46, 3) := by decide +kernel
theorem dX4_copyFrom_45 : decode cX4_copyFrom 45 = .ok (.putfield 46, 3) := by decide +kernel
theorem dX4_copyFrom_48 : decode cX4_copyFrom 48 = .ok (.iconst 0, 1) := by decide +kernel
theorem dX4_copyFrom_49 : decode cX4_copyFrom 49 = .ok (.istore_n 2, 1) := by decide +kernel
theorem dX4_copyFrom_50 : decode cX4_copyFrom 50 = .ok (.iload_n 2, 1) := by decide +kernel
theorem dX4_copyFrom_51 : decode cX4_copyFrom 51 = .ok (.aload_n 0, 1) := by decide +kernel
theorem dX4_copyFrom_52 : decode cX4_copyFrom 52 = .ok (.getfield 11, 3) := by decide +kernel
theorem dX4_copyFrom_55 : decode cX4_copyFrom 55 = .ok (.arraylength, 1) := by decide +kernel
theorem dX4_copyFrom_56 : decode cX4_copyFrom 56 = .ok (.if_icmp .ge 30, 3) := by decide +kernel
theorem dX4_copyFrom_59 : decode cX4_copyFrom 59 = .ok (.iload_n 2, 1) := by decide +kernel
theorem dX4_copyFrom_60 : decode cX4_copyFrom 60 = .ok (.aload_n 1, 1) := by decide +kernel
theorem dX4_copyFrom_61 : decode cX4_copyFrom 61 = .ok (.getfield 11, 3) := by decide +kernel
theorem dX4_copyFrom_64 : decode cX4_copyFrom 64 = .ok (.arraylength, 1) := by decide +kernel
theorem dX4_copyFrom_65 : decode cX4_copyFrom 65 = .ok (.if_icmp .ge 21, 3) := by decide +kernel
theorem dX4_copyFrom_68 : decode cX4_copyFrom 68 = .ok (.aload_n 0, 1) := by decide +kernel
theorem dX4_copyFrom_69 : decode cX4_copyFrom 69 = .ok (.getfield 11, 3) := by decide +kernel
theorem dX4_copyFrom_72 : decode cX4_copyFrom 72 = .ok (.iload_n 2, 1) := by decide +kernel
theorem dX4_copyFrom_73 : decode cX4_copyFrom 73 = .ok (.aload_n 1, 1) := by decide +kernel
theorem dX4_copyFrom_74 : decode cX4_copyFrom 74 = .ok (.getfield 11, 3) := by decide +kernel
theorem dX4_copyFrom_77 : decode cX4_copyFrom 77 = .ok (.iload_n 2, 1) := by decide +kernel
theorem dX4_copyFrom_78 : decode cX4_copyFrom 78 = .ok (.iaload, 1) := by decide +kernel
theorem dX4_copyFrom_79 : decode cX4_copyFrom 79 = .ok (.iastore, 1) := by decide +kernel
theorem dX4_copyFrom_80 : decode cX4_copyFrom 80 = .ok (.iinc 2 1, 3) := by decide +kernel
theorem dX4_copyFrom_83 : decode cX4_copyFrom 83 = .ok (.goto (-33), 3) := by decide +kernel
theorem dX4_copyFrom_86 : decode cX4_copyFrom 86 = .ok (.return_, 1) := by decide +kernel
theorem dX4_addDab_0 : decode cX4_addDab 0 = .ok (.iconst 3, 1) := by decide +kernel
theorem dX4_addDab_1 : decode cX4_addDab 1 = .ok (.aload_n 0, 1) := by decide +kernel
theorem dX4_addDab_2 : decode cX4_addDab 2 = .ok (.getfield 46, 3) := by decide +kernel
theorem dX4_addDab_5 : decode cX4_addDab 5 = .ok (.imul, 1) := by decide +kernel
theorem dX4_addDab_6 : decode cX4_addDab 6 = .ok (.istore 4, 2) := by decide +kernel
theorem dX4_addDab_8 : decode cX4_addDab 8 = .ok (.iload 4, 2) := by decide +kernel
theorem dX4_addDab_10 : decode cX4_addDab 10 = .ok (.ifCond .lt 15, 3) := by decide +kernel
theorem dX4_addDab_13 : decode cX4_addDab 13 = .ok (.iload 4, 2) := by decide +kernel
theorem dX4_addDab_15 : decode cX4_addDab 15 = .ok (.iconst 2, 1) := by decide +kernel
theorem dX4_addDab_16 : decode cX4_addDab 16 = .ok (.iadd, 1) := by decide +kernel
theorem dX4_addDab_17 : decode cX4_addDab 17 = .ok (.aload_n 0, 1) := by decide +kernel
theorem dX4_addDab_18 : decode cX4_addDab 18 = .ok (.getfield 11, 3) := by decide +kernel
theorem dX4_addDab_21 : decode cX4_addDab 21 = .ok (.arraylength, 1) := by decide +kernel
theorem dX4_addDab_22 : decode cX4_addDab 22 = .ok (.if_icmp .lt 4, 3) := by decide +kernel
theorem dX4_addDab_25 : decode cX4_addDab 25 = .ok (.return_, 1) := by decide +kernel
theorem dX4_addDab_26 : decode cX4_addDab 26 = .ok (.aload_n 0, 1) := by decide +kernel
theorem dX4_addDab_27 : decode cX4_addDab 27 = .ok (.getfield 11, 3) := by decide +kernel
theorem dX4_addDab_30 : decode cX4_addDab 30 = .ok (.iload 4, 2) := by decide +kernel
theorem dX4_addDab_32 : decode cX4_addDab 32 = .ok (.iload_n 1, 1) := by decide +kernel
theorem dX4_addDab_33 : decode cX4_addDab 33 = .ok (.iastore, 1) := by decide +kernel
theorem dX4_addDab_34 : decode cX4_addDab 34 = .ok (.aload_n 0, 1) := by decide +kernel
theorem dX4_addDab_35 : decode cX4_addDab 35 = .ok (.getfield 11, 3) := by decide +kernel
theorem dX4_addDab_38 : decode cX4_addDab 38 = .ok (.iload 4, 2) := by decide +kernel
theorem dX4_addDab_40 : decode cX4_addDab 40 = .ok (.iconst 1, 1) := by decide +kernel
theorem dX4_addDab_41 : decode cX4_addDab 41 = .ok (.iadd, 1) := by decide +kernel
theorem dX4_addDab_42 : decode cX4_addDab 42 = .ok (.iload_n 2, 1) := by decide +kernel
theorem dX4_addDab_43 : decode cX4_addDab 43 = .ok (.iastore, 1) := by decide +kernel
theorem dX4_addDab_44 : decode cX4_addDab 44 = .ok (.aload_n 0, 1) := by decide +kernel
theorem dX4_addDab_45 : decode cX4_addDab 45 = .ok (.getfield 11, 3) := by decide +kernel
theorem dX4_addDab_48 : decode cX4_addDab 48 = .ok (.iload 4, 2) := by decide +kernel
theorem dX4_addDab_50 : decode cX4_addDab 50 = .ok (.iconst 2, 1) := by decide +kernel
theorem dX4_addDab_51 : decode cX4_addDab 51 = .ok (.iadd, 1) := by decide +kernel
theorem dX4_addDab_52 : decode cX4_addDab 52 = .ok (.iload_n 3, 1) := by decide +kernel
theorem dX4_addDab_53 : decode cX4_addDab 53 = .ok (.iastore, 1) := by decide +kernel
theorem dX4_addDab_54 : decode cX4_addDab 54 = .ok (.aload_n 0, 1) := by decide +kernel
theorem dX4_addDab_55 : decode cX4_addDab 55 = .ok (.dup, 1) := by decide +kernel
theorem dX4_addDab_56 : decode cX4_addDab 56 = .ok (.getfield 46, 3) := by decide +kernel
theorem dX4_addDab_59 : decode cX4_addDab 59 = .ok (.iconst 1, 1) := by decide +kernel
theorem dX4_addDab_60 : decode cX4_addDab 60 = .ok (.iadd, 1) := by decide +kernel
theorem dX4_addDab_61 : decode cX4_addDab 61 = .ok (.putfield 46, 3) := by decide +kernel
theorem dX4_addDab_64 : decode cX4_addDab 64 = .ok (.return_, 1) := by decide +kernel
theorem dX4_weightAt_0 : decode cX4_weightAt 0 = .ok (.sipush 255, 3) := by decide +kernel
theorem dX4_weightAt_3 : decode cX4_weightAt 3 = .ok (.istore 4, 2) := by decide +kernel
theorem dX4_weightAt_5 : decode cX4_weightAt 5 = .ok (.aload_n 0, 1) := by decide +kernel
theorem dX4_weightAt_6 : decode cX4_weightAt 6 = .ok (.getfield 19, 3) := by decide +kernel
theorem dX4_weightAt_9 : decode cX4_weightAt 9 = .ok (.iconst 1, 1) := by decide +kernel
theorem dX4_weightAt_10 : decode cX4_weightAt 10 = .ok (.if_icmp .ne 14, 3) := by decide +kernel
theorem dX4_weightAt_13 : decode cX4_weightAt 13 = .ok (.aload_n 0, 1) := by decide +kernel
theorem dX4_weightAt_14 : decode cX4_weightAt 14 = .ok (.iload_n 1, 1) := by decide +kernel
theorem dX4_weightAt_15 : decode cX4_weightAt 15 = .ok (.iload_n 2, 1) := by decide +kernel
theorem dX4_weightAt_16 : decode cX4_weightAt 16 = .ok (.invokevirtual 49, 3) := by decide +kernel
theorem dX4_weightAt_19 : decode cX4_weightAt 19 = .ok (.istore 4, 2) := by decide +kernel
theorem dX4_weightAt_21 : decode cX4_weightAt 21 = .ok (.goto 61, 3) := by decide +kernel
theorem dX4_weightAt_24 : decode cX4_weightAt 24 = .ok (.aload_n 0, 1) := by decide +kernel
theorem dX4_weightAt_25 : decode cX4_weightAt 25 = .ok (.getfield 19, 3) := by decide +kernel
theorem dX4_weightAt_28 : decode cX4_weightAt 28 = .ok (.iconst 2, 1) := by decide +kernel
theorem dX4_weightAt_29 : decode cX4_weightAt 29 = .ok (.if_icmp .ne 13, 3) := by decide +kernel
theorem dX4_weightAt_32 : decode cX4_weightAt 32 = .ok (.aload_n 0, 1) := by decide +kernel
theorem dX4_weightAt_33 : decode cX4_weightAt 33 = .ok (.iload_n 1, 1) := by decide +kernel
theorem dX4_weightAt_34 : decode cX4_weightAt 34 = .ok (.invokevirtual 53, 3) := by decide +kernel
theorem dX4_weightAt_37 : decode cX4_weightAt 37 = .ok (.istore 4, 2) := by decide +kernel
theorem dX4_weightAt_39 : decode cX4_weightAt 39 = .ok (.goto 43, 3) := by decide +kernel
theorem dX4_weightAt_42 : decode cX4_weightAt 42 = .ok (.aload_n 0, 1) := by decide +kernel
theorem dX4_weightAt_43 : decode cX4_weightAt 43 = .ok (.getfield 19, 3) := by decide +kernel
theorem dX4_weightAt_46 : decode cX4_weightAt 46 = .ok (.iconst 3, 1) := by decide +kernel
theorem dX4_weightAt_47 : decode cX4_weightAt 47 = .ok (.if_icmp .ne 9, 3) := by decide +kernel
theorem dX4_weightAt_50 : decode cX4_weightAt 50 = .ok (.iload_n 3, 1) := by decide +kernel
theorem dX4_weightAt_51 : decode cX4_weightAt 51 = .ok (.istore 4, 2) := by decide +kernel
theorem dX4_weightAt_53 : decode cX4_weightAt 53 = .ok (.goto 29, 3) := by decide +kernel
theorem dX4_weightAt_56 : decode cX4_weightAt 56 = .ok (.aload_n 0, 1) := by decide +kernel
theorem dX4_weightAt_57 : decode cX4_weightAt 57 = .ok (.getfield 19, 3) := by decide +kernel
theorem dX4_weightAt_60 : decode cX4_weightAt 60 = .ok (.iconst 4, 1) := by decide +kernel
theorem dX4_weightAt_61 : decode cX4_weightAt 61 = .ok (.if_icmp .ne 21, 3) := by decide +kernel
theorem dX4_weightAt_64 : decode cX4_weightAt 64 = .ok (.aload_n 0, 1) := by decide +kernel
theorem dX4_weightAt_65 : decode cX4_weightAt 65 = .ok (.iload_n 1, 1) := by decide +kernel
theorem dX4_weightAt_66 : decode cX4_weightAt 66 = .ok (.iload_n 2, 1) := by decide +kernel
theorem dX4_weightAt_67 : decode cX4_weightAt 67 = .ok (.invokevirtual 57, 3) := by decide +kernel
theorem dX4_weightAt_70 : decode cX4_weightAt 70 = .ok (.ifCond .eq 9, 3) := by decide +kernel
theorem dX4_weightAt_73 : decode cX4_weightAt 73 = .ok (.sipush 255, 3) := by decide +kernel
theorem dX4_weightAt_76 : decode cX4_weightAt 76 = .ok (.goto 4, 3) := by decide +kernel
theorem dX4_weightAt_79 : decode cX4_weightAt 79 = .ok (.iconst 0, 1) := by decide +kernel
theorem dX4_weightAt_80 : decode cX4_weightAt 80 = .ok (.istore 4, 2) := by decide +kernel
theorem dX4_weightAt_82 : decode cX4_weightAt 82 = .ok (.aload_n 0, 1) := by decide +kernel
theorem dX4_weightAt_83 : decode cX4_weightAt 83 = .ok (.getfield 42, 3) := by decide +kernel
theorem dX4_weightAt_86 : decode cX4_weightAt 86 = .ok (.ifCond .eq 12, 3) := by decide +kernel
theorem dX4_weightAt_89 : decode cX4_weightAt 89 = .ok (.sipush 255, 3) := by decide +kernel
theorem dX4_weightAt_92 : decode cX4_weightAt 92 = .ok (.iload 4, 2) := by decide +kernel
theorem dX4_weightAt_94 : decode cX4_weightAt 94 = .ok (.isub, 1) := by decide +kernel
theorem dX4_weightAt_95 : decode cX4_weightAt 95 = .ok (.goto 5, 3) := by decide +kernel
theorem dX4_weightAt_98 : decode cX4_weightAt 98 = .ok (.iload 4, 2) := by decide +kernel
theorem dX4_weightAt_100 : decode cX4_weightAt 100 = .ok (.ireturn, 1) := by decide +kernel
theorem dX4_rectangleWeightAt_0 : decode cX4_rectangleWeightAt 0 = .ok (.aload_n 0, 1) := by decide +kernel
theorem dX4_rectangleWeightAt_1 : decode cX4_rectangleWeightAt 1 = .ok (.getfield 23, 3) := by decide +kernel
theorem dX4_rectangleWeightAt_4 : decode cX4_rectangleWeightAt 4 = .ok (.iload_n 1, 1) := by decide +kernel
theorem dX4_rectangleWeightAt_5 : decode cX4_rectangleWeightAt 5 = .ok (.isub, 1) := by decide +kernel
theorem dX4_rectangleWeightAt_6 : decode cX4_rectangleWeightAt 6 = .ok (.iload_n 1, 1) := by decide +kernel
theorem dX4_rectangleWeightAt_7 : decode cX4_rectangleWeightAt 7 = .ok (.aload_n 0, 1) := by decide +kernel
theorem dX4_rectangleWeightAt_8 : decode cX4_rectangleWeightAt 8 = .ok (.getfield 29, 3) := by decide +kernel
theorem dX4_rectangleWeightAt_11 : decode cX4_rectangleWeightAt 11 = .ok (.isub, 1) := by decide +kernel
theorem dX4_rectangleWeightAt_12 : decode cX4_rectangleWeightAt 12 = .ok (.invokestatic 61, 3) := by decide +kernel
theorem dX4_rectangleWeightAt_15 : decode cX4_rectangleWeightAt 15 = .ok (.istore_n 3, 1) := by decide +kernel
theorem dX4_rectangleWeightAt_16 : decode cX4_rectangleWeightAt 16 = .ok (.aload_n 0, 1) := by decide +kernel
theorem dX4_rectangleWeightAt_17 : decode cX4_rectangleWeightAt 17 = .ok (.getfield 26, 3) := by decide +kernel
theorem dX4_rectangleWeightAt_20 : decode cX4_rectangleWeightAt 20 = .ok (.iload_n 2, 1) := by decide +kernel
theorem dX4_rectangleWeightAt_21 : decode cX4_rectangleWeightAt 21 = .ok (.isub, 1) := by decide +kernel
theorem dX4_rectangleWeightAt_22 : decode cX4_rectangleWeightAt 22 = .ok (.iload_n 2, 1) := by decide +kernel
theorem dX4_rectangleWeightAt_23 : decode cX4_rectangleWeightAt 23 = .ok (.aload_n 0, 1) := by decide +kernel
theorem dX4_rectangleWeightAt_24 : decode cX4_rectangleWeightAt 24 = .ok (.getfield 32, 3) := by decide +kernel
theorem dX4_rectangleWeightAt_27 : decode cX4_rectangleWeightAt 27 = .ok (.isub, 1) := by decide +kernel
theorem dX4_rectangleWeightAt_28 : decode cX4_rectangleWeightAt 28 = .ok (.invokestatic 61, 3) := by decide +kernel
theorem dX4_rectangleWeightAt_31 : decode cX4_rectangleWeightAt 31 = .ok (.istore 4, 2) := by decide +kernel
theorem dX4_rectangleWeightAt_33 : decode cX4_rectangleWeightAt 33 = .ok (.iconst 0, 1) := by decide +kernel
theorem dX4_rectangleWeightAt_34 : decode cX4_rectangleWeightAt 34 = .ok (.iload_n 3, 1) := by decide +kernel
theorem dX4_rectangleWeightAt_35 : decode cX4_rectangleWeightAt 35 = .ok (.iload 4, 2) := by decide +kernel
theorem dX4_rectangleWeightAt_37 : decode cX4_rectangleWeightAt 37 = .ok (.invokestatic 61, 3) := by decide +kernel
theorem dX4_rectangleWeightAt_40 : decode cX4_rectangleWeightAt 40 = .ok (.invokestatic 61, 3) := by decide +kernel
theorem dX4_rectangleWeightAt_43 : decode cX4_rectangleWeightAt 43 = .ok (.istore 5, 2) := by decide +kernel
theorem dX4_rectangleWeightAt_45 : decode cX4_rectangleWeightAt 45 = .ok (.aload_n 0, 1) := by decide +kernel
theorem dX4_rectangleWeightAt_46 : decode cX4_rectangleWeightAt 46 = .ok (.getfield 39, 3) := by decide +kernel
theorem dX4_rectangleWeightAt_49 : decode cX4_rectangleWeightAt 49 = .ok (.iconst 1, 1) := by decide +kernel
theorem dX4_rectangleWeightAt_50 : decode cX4_rectangleWeightAt 50 = .ok (.iadd, 1) := by decide +kernel
theorem dX4_rectangleWeightAt_51 : decode cX4_rectangleWeightAt 51 = .ok (.istore 6, 2) := by decide +kernel
theorem dX4_rectangleWeightAt_53 : decode cX4_rectangleWeightAt 53 = .ok (.iload 6, 2) := by decide +kernel
theorem dX4_rectangleWeightAt_55 : decode cX4_rectangleWeightAt 55 = .ok (.ifCond .le 25, 3) := by decide +kernel
theorem dX4_rectangleWeightAt_58 : decode cX4_rectangleWeightAt 58 = .ok (.iload 5, 2) := by decide +kernel
theorem dX4_rectangleWeightAt_60 : decode cX4_rectangleWeightAt 60 = .ok (.iload 6, 2) := by decide +kernel
theorem dX4_rectangleWeightAt_62 : decode cX4_rectangleWeightAt 62 = .ok (.if_icmp .ge 18, 3) := by decide +kernel
theorem dX4_rectangleWeightAt_65 : decode cX4_rectangleWeightAt 65 = .ok (.sipush 255, 3) := by decide +kernel
theorem dX4_rectangleWeightAt_68 : decode cX4_rectangleWeightAt 68 = .ok (.iload 6, 2) := by decide +kernel
theorem dX4_rectangleWeightAt_70 : decode cX4_rectangleWeightAt 70 = .ok (.iload 5, 2) := by decide +kernel
theorem dX4_rectangleWeightAt_72 : decode cX4_rectangleWeightAt 72 = .ok (.isub, 1) := by decide +kernel
theorem dX4_rectangleWeightAt_73 : decode cX4_rectangleWeightAt 73 = .ok (.imul, 1) := by decide +kernel
theorem dX4_rectangleWeightAt_74 : decode cX4_rectangleWeightAt 74 = .ok (.iload 6, 2) := by decide +kernel
theorem dX4_rectangleWeightAt_76 : decode cX4_rectangleWeightAt 76 = .ok (.idiv, 1) := by decide +kernel
theorem dX4_rectangleWeightAt_77 : decode cX4_rectangleWeightAt 77 = .ok (.goto 4, 3) := by decide +kernel
theorem dX4_rectangleWeightAt_80 : decode cX4_rectangleWeightAt 80 = .ok (.iconst 0, 1) := by decide +kernel
theorem dX4_rectangleWeightAt_81 : decode cX4_rectangleWeightAt 81 = .ok (.ireturn, 1) := by decide +kernel
theorem dX4_gradientWeightAt_0 : decode cX4_gradientWeightAt 0 = .ok (.iload_n 1, 1) := by decide +kernel
theorem dX4_gradientWeightAt_1 : decode cX4_gradientWeightAt 1 = .ok (.aload_n 0, 1) := by decide +kernel
theorem dX4_gradientWeightAt_2 : decode cX4_gradientWeightAt 2 = .ok (.getfield 23, 3) := by decide +kernel
theorem dX4_gradientWeightAt_5 : decode cX4_gradientWeightAt 5 = .ok (.if_icmp .gt 5, 3) := by decide +kernel
theorem dX4_gradientWeightAt_8 : decode cX4_gradientWeightAt 8 = .ok (.iconst 0, 1) := by decide +kernel
theorem dX4_gradientWeightAt_9 : decode cX4_gradientWeightAt 9 = .ok (.ireturn, 1) := by decide +kernel
theorem dX4_gradientWeightAt_10 : decode cX4_gradientWeightAt 10 = .ok (.aload_n 0, 1) := by decide +kernel
theorem dX4_gradientWeightAt_11 : decode cX4_gradientWeightAt 11 = .ok (.getfield 29, 3) := by decide +kernel
theorem dX4_gradientWeightAt_14 : decode cX4_gradientWeightAt 14 = .ok (.aload_n 0, 1) := by decide +kernel
theorem dX4_gradientWeightAt_15 : decode cX4_gradientWeightAt 15 = .ok (.getfield 23, 3) := by decide +kernel
theorem dX4_gradientWeightAt_18 : decode cX4_gradientWeightAt 18 = .ok (.isub, 1) := by decide +kernel
theorem dX4_gradientWeightAt_19 : decode cX4_gradientWeightAt 19 = .ok (.istore_n 2, 1) := by decide +kernel
theorem dX4_gradientWeightAt_20 : decode cX4_gradientWeightAt 20 = .ok (.iload_n 1, 1) := by decide +kernel
theorem dX4_gradientWeightAt_21 : decode cX4_gradientWeightAt 21 = .ok (.aload_n 0, 1) := by decide +kernel
theorem dX4_gradientWeightAt_22 : decode cX4_gradientWeightAt 22 = .ok (.getfield 29, 3) := by decide +kernel
theorem dX4_gradientWeightAt_25 : decode cX4_gradientWeightAt 25 = .ok (.if_icmp .ge 7, 3) := by decide +kernel
theorem dX4_gradientWeightAt_28 : decode cX4_gradientWeightAt 28 = .ok (.iload_n 2, 1) := by decide +kernel
theorem dX4_gradientWeightAt_29 : decode cX4_gradientWeightAt 29 = .ok (.ifCond .gt 9, 3) := by decide +kernel
theorem dX4_gradientWeightAt_32 : decode cX4_gradientWeightAt 32 = .ok (.sipush 255, 3) := by decide +kernel
theorem dX4_gradientWeightAt_35 : decode cX4_gradientWeightAt 35 = .ok (.goto 15, 3) := by decide +kernel
theorem dX4_gradientWeightAt_38 : decode cX4_gradientWeightAt 38 = .ok (.sipush 255, 3) := by decide +kernel
theorem dX4_gradientWeightAt_41 : decode cX4_gradientWeightAt 41 = .ok (.iload_n 1, 1) := by decide +kernel
theorem dX4_gradientWeightAt_42 : decode cX4_gradientWeightAt 42 = .ok (.aload_n 0, 1) := by decide +kernel
theorem dX4_gradientWeightAt_43 : decode cX4_gradientWeightAt 43 = .ok (.getfield 23, 3) := by decide +kernel
theorem dX4_gradientWeightAt_46 : decode cX4_gradientWeightAt 46 = .ok (.isub, 1) := by decide +kernel
theorem dX4_gradientWeightAt_47 : decode cX4_gradientWeightAt 47 = .ok (.imul, 1) := by decide +kernel
theorem dX4_gradientWeightAt_48 : decode cX4_gradientWeightAt 48 = .ok (.iload_n 2, 1) := by decide +kernel
theorem dX4_gradientWeightAt_49 : decode cX4_gradientWeightAt 49 = .ok (.idiv, 1) := by decide +kernel
theorem dX4_gradientWeightAt_50 : decode cX4_gradientWeightAt 50 = .ok (.ireturn, 1) := by decide +kernel
theorem dX4_isDabbed_0 : decode cX4_isDabbed 0 = .ok (.iconst 3, 1) := by decide +kernel
theorem dX4_isDabbed_1 : decode cX4_isDabbed 1 = .ok (.aload_n 0, 1) := by decide +kernel
theorem dX4_isDabbed_2 : decode cX4_isDabbed 2 = .ok (.getfield 46, 3) := by decide +kernel
theorem dX4_isDabbed_5 : decode cX4_isDabbed 5 = .ok (.imul, 1) := by decide +kernel
theorem dX4_isDabbed_6 : decode cX4_isDabbed 6 = .ok (.istore_n 3, 1) := by decide +kernel
theorem dX4_isDabbed_7 : decode cX4_isDabbed 7 = .ok (.iconst 0, 1) := by decide +kernel
theorem dX4_isDabbed_8 : decode cX4_isDabbed 8 = .ok (.istore 4, 2) := by decide +kernel
theorem dX4_isDabbed_10 : decode cX4_isDabbed 10 = .ok (.iload 4, 2) := by decide +kernel
theorem dX4_isDabbed_12 : decode cX4_isDabbed 12 = .ok (.iconst 2, 1) := by decide +kernel
theorem dX4_isDabbed_13 : decode cX4_isDabbed 13 = .ok (.iadd, 1) := by decide +kernel
theorem dX4_isDabbed_14 : decode cX4_isDabbed 14 = .ok (.aload_n 0, 1) := by decide +kernel
theorem dX4_isDabbed_15 : decode cX4_isDabbed 15 = .ok (.getfield 11, 3) := by decide +kernel
theorem dX4_isDabbed_18 : decode cX4_isDabbed 18 = .ok (.arraylength, 1) := by decide +kernel
theorem dX4_isDabbed_19 : decode cX4_isDabbed 19 = .ok (.if_icmp .ge 71, 3) := by decide +kernel
theorem dX4_isDabbed_22 : decode cX4_isDabbed 22 = .ok (.iload 4, 2) := by decide +kernel
theorem dX4_isDabbed_24 : decode cX4_isDabbed 24 = .ok (.iload_n 3, 1) := by decide +kernel
theorem dX4_isDabbed_25 : decode cX4_isDabbed 25 = .ok (.if_icmp .ge 65, 3) := by decide +kernel
theorem dX4_isDabbed_28 : decode cX4_isDabbed 28 = .ok (.iload_n 1, 1) := by decide +kernel
theorem dX4_isDabbed_29 : decode cX4_isDabbed 29 = .ok (.aload_n 0, 1) := by decide +kernel
theorem dX4_isDabbed_30 : decode cX4_isDabbed 30 = .ok (.getfield 11, 3) := by decide +kernel
theorem dX4_isDabbed_33 : decode cX4_isDabbed 33 = .ok (.iload 4, 2) := by decide +kernel
theorem dX4_isDabbed_35 : decode cX4_isDabbed 35 = .ok (.iaload, 1) := by decide +kernel
theorem dX4_isDabbed_36 : decode cX4_isDabbed 36 = .ok (.isub, 1) := by decide +kernel
theorem dX4_isDabbed_37 : decode cX4_isDabbed 37 = .ok (.istore 5, 2) := by decide +kernel
theorem dX4_isDabbed_39 : decode cX4_isDabbed 39 = .ok (.iload_n 2, 1) := by decide +kernel
theorem dX4_isDabbed_40 : decode cX4_isDabbed 40 = .ok (.aload_n 0, 1) := by decide +kernel
theorem dX4_isDabbed_41 : decode cX4_isDabbed 41 = .ok (.getfield 11, 3) := by decide +kernel
theorem dX4_isDabbed_44 : decode cX4_isDabbed 44 = .ok (.iload 4, 2) := by decide +kernel
theorem dX4_isDabbed_46 : decode cX4_isDabbed 46 = .ok (.iconst 1, 1) := by decide +kernel
theorem dX4_isDabbed_47 : decode cX4_isDabbed 47 = .ok (.iadd, 1) := by decide +kernel
theorem dX4_isDabbed_48 : decode cX4_isDabbed 48 = .ok (.iaload, 1) := by decide +kernel
theorem dX4_isDabbed_49 : decode cX4_isDabbed 49 = .ok (.isub, 1) := by decide +kernel
theorem dX4_isDabbed_50 : decode cX4_isDabbed 50 = .ok (.istore 6, 2) := by decide +kernel
theorem dX4_isDabbed_52 : decode cX4_isDabbed 52 = .ok (.aload_n 0, 1) := by decide +kernel
theorem dX4_isDabbed_53 : decode cX4_isDabbed 53 = .ok (.getfield 11, 3) := by decide +kernel
theorem dX4_isDabbed_56 : decode cX4_isDabbed 56 = .ok (.iload 4, 2) := by decide +kernel
theorem dX4_isDabbed_58 : decode cX4_isDabbed 58 = .ok (.iconst 2, 1) := by decide +kernel
theorem dX4_isDabbed_59 : decode cX4_isDabbed 59 = .ok (.iadd, 1) := by decide +kernel
theorem dX4_isDabbed_60 : decode cX4_isDabbed 60 = .ok (.iaload, 1) := by decide +kernel
theorem dX4_isDabbed_61 : decode cX4_isDabbed 61 = .ok (.istore 7, 2) := by decide +kernel
theorem dX4_isDabbed_63 : decode cX4_isDabbed 63 = .ok (.iload 5, 2) := by decide +kernel
theorem dX4_isDabbed_65 : decode cX4_isDabbed 65 = .ok (.iload 5, 2) := by decide +kernel
theorem dX4_isDabbed_67 : decode cX4_isDabbed 67 = .ok (.imul, 1) := by decide +kernel
theorem dX4_isDabbed_68 : decode cX4_isDabbed 68 = .ok (.iload 6, 2) := by decide +kernel
theorem dX4_isDabbed_70 : decode cX4_isDabbed 70 = .ok (.iload 6, 2) := by decide +kernel
theorem dX4_isDabbed_72 : decode cX4_isDabbed 72 = .ok (.imul, 1) := by decide +kernel
theorem dX4_isDabbed_73 : decode cX4_isDabbed 73 = .ok (.iadd, 1) := by decide +kernel
theorem dX4_isDabbed_74 : decode cX4_isDabbed 74 = .ok (.iload 7, 2) := by decide +kernel
theorem dX4_isDabbed_76 : decode cX4_isDabbed 76 = .ok (.iload 7, 2) := by decide +kernel
theorem dX4_isDabbed_78 : decode cX4_isDabbed 78 = .ok (.imul, 1) := by decide +kernel
theorem dX4_isDabbed_79 : decode cX4_isDabbed 79 = .ok (.if_icmp .gt 5, 3) := by decide +kernel
theorem dX4_isDabbed_82 : decode cX4_isDabbed 82 = .ok (.iconst 1, 1) := by decide +kernel
theorem dX4_isDabbed_83 : decode cX4_isDabbed 83 = .ok (.ireturn, 1) := by decide +kernel
theorem dX4_isDabbed_84 : decode cX4_isDabbed 84 = .ok (.iinc 4 3, 3) := by decide +kernel
theorem dX4_isDabbed_87 : decode cX4_isDabbed 87 = .ok (.goto (-77), 3) := by decide +kernel
theorem dX4_isDabbed_90 : decode cX4_isDabbed 90 = .ok (.iconst 0, 1) := by decide +kernel
theorem dX4_isDabbed_91 : decode cX4_isDabbed 91 = .ok (.ireturn, 1) := by decide +kernel
theorem dX5_blended_0 : decode cX5_blended 0 = .ok (.iload_n 0, 1) := by decide +kernel
theorem dX5_blended_1 : decode cX5_blended 1 = .ok (.tableswitch 108 1 7 #[43, 53, 75, 81, 87, 94, 101], 43) := by decide +kernel
theorem dX5_blended_44 : decode cX5_blended 44 = .ok (.iload_n 1, 1) := by decide +kernel
theorem dX5_blended_45 : decode cX5_blended 45 = .ok (.iload_n 2, 1) := by decide +kernel
theorem dX5_blended_46 : decode cX5_blended 46 = .ok (.imul, 1) := by decide +kernel
theorem dX5_blended_47 : decode cX5_blended 47 = .ok (.sipush 255, 3) := by decide +kernel
theorem dX5_blended_50 : decode cX5_blended 50 = .ok (.invokestatic 9, 3) := by decide +kernel
theorem dX5_blended_53 : decode cX5_blended 53 = .ok (.ireturn, 1) := by decide +kernel
theorem dX5_blended_54 : decode cX5_blended 54 = .ok (.sipush 255, 3) := by decide +kernel
theorem dX5_blended_57 : decode cX5_blended 57 = .ok (.sipush 255, 3) := by decide +kernel
theorem dX5_blended_60 : decode cX5_blended 60 = .ok (.iload_n 1, 1) := by decide +kernel
theorem dX5_blended_61 : decode cX5_blended 61 = .ok (.isub, 1) := by decide +kernel
theorem dX5_blended_62 : decode cX5_blended 62 = .ok (.sipush 255, 3) := by decide +kernel
theorem dX5_blended_65 : decode cX5_blended 65 = .ok (.iload_n 2, 1) := by decide +kernel
theorem dX5_blended_66 : decode cX5_blended 66 = .ok (.isub, 1) := by decide +kernel
theorem dX5_blended_67 : decode cX5_blended 67 = .ok (.imul, 1) := by decide +kernel
theorem dX5_blended_68 : decode cX5_blended 68 = .ok (.sipush 255, 3) := by decide +kernel
theorem dX5_blended_71 : decode cX5_blended 71 = .ok (.invokestatic 9, 3) := by decide +kernel
theorem dX5_blended_74 : decode cX5_blended 74 = .ok (.isub, 1) := by decide +kernel
theorem dX5_blended_75 : decode cX5_blended 75 = .ok (.ireturn, 1) := by decide +kernel
theorem dX5_blended_76 : decode cX5_blended 76 = .ok (.iload_n 1, 1) := by decide +kernel
theorem dX5_blended_77 : decode cX5_blended 77 = .ok (.iload_n 2, 1) := by decide +kernel
theorem dX5_blended_78 : decode cX5_blended 78 = .ok (.invokestatic 13, 3) := by decide +kernel
theorem dX5_blended_81 : decode cX5_blended 81 = .ok (.ireturn, 1) := by decide +kernel
theorem dX5_blended_82 : decode cX5_blended 82 = .ok (.iload_n 1, 1) := by decide +kernel
theorem dX5_blended_83 : decode cX5_blended 83 = .ok (.iload_n 2, 1) := by decide +kernel
theorem dX5_blended_84 : decode cX5_blended 84 = .ok (.invokestatic 18, 3) := by decide +kernel
theorem dX5_blended_87 : decode cX5_blended 87 = .ok (.ireturn, 1) := by decide +kernel
theorem dX5_blended_88 : decode cX5_blended 88 = .ok (.iload_n 1, 1) := by decide +kernel
theorem dX5_blended_89 : decode cX5_blended 89 = .ok (.iload_n 2, 1) := by decide +kernel
theorem dX5_blended_90 : decode cX5_blended 90 = .ok (.isub, 1) := by decide +kernel
theorem dX5_blended_91 : decode cX5_blended 91 = .ok (.invokestatic 21, 3) := by decide +kernel
theorem dX5_blended_94 : decode cX5_blended 94 = .ok (.ireturn, 1) := by decide +kernel
theorem dX5_blended_95 : decode cX5_blended 95 = .ok (.iload_n 1, 1) := by decide +kernel
theorem dX5_blended_96 : decode cX5_blended 96 = .ok (.iload_n 2, 1) := by decide +kernel
theorem dX5_blended_97 : decode cX5_blended 97 = .ok (.iadd, 1) := by decide +kernel
theorem dX5_blended_98 : decode cX5_blended 98 = .ok (.invokestatic 25, 3) := by decide +kernel
theorem dX5_blended_101 : decode cX5_blended 101 = .ok (.ireturn, 1) := by decide +kernel
theorem dX5_blended_102 : decode cX5_blended 102 = .ok (.iload_n 1, 1) := by decide +kernel
theorem dX5_blended_103 : decode cX5_blended 103 = .ok (.iload_n 2, 1) := by decide +kernel
theorem dX5_blended_104 : decode cX5_blended 104 = .ok (.isub, 1) := by decide +kernel
theorem dX5_blended_105 : decode cX5_blended 105 = .ok (.invokestatic 25, 3) := by decide +kernel
theorem dX5_blended_108 : decode cX5_blended 108 = .ok (.ireturn, 1) := by decide +kernel
theorem dX5_blended_109 : decode cX5_blended 109 = .ok (.iload_n 2, 1) := by decide +kernel
theorem dX5_blended_110 : decode cX5_blended 110 = .ok (.ireturn, 1) := by decide +kernel
theorem dX5_nameOf_0 : decode cX5_nameOf 0 = .ok (.iload_n 0, 1) := by decide +kernel
theorem dX5_nameOf_1 : decode cX5_nameOf 1 = .ok (.tableswitch 71 0 7 #[47, 50, 53, 56, 59, 62, 65, 68], 47) := by decide +kernel
theorem dX5_nameOf_48 : decode cX5_nameOf 48 = .ok (.ldc 28, 2) := by decide +kernel
theorem dX5_nameOf_50 : decode cX5_nameOf 50 = .ok (.areturn, 1) := by decide +kernel
theorem dX5_nameOf_51 : decode cX5_nameOf 51 = .ok (.ldc 30, 2) := by decide +kernel
theorem dX5_nameOf_53 : decode cX5_nameOf 53 = .ok (.areturn, 1) := by decide +kernel
theorem dX5_nameOf_54 : decode cX5_nameOf 54 = .ok (.ldc 32, 2) := by decide +kernel
theorem dX5_nameOf_56 : decode cX5_nameOf 56 = .ok (.areturn, 1) := by decide +kernel
theorem dX5_nameOf_57 : decode cX5_nameOf 57 = .ok (.ldc 34, 2) := by decide +kernel
theorem dX5_nameOf_59 : decode cX5_nameOf 59 = .ok (.areturn, 1) := by decide +kernel
theorem dX5_nameOf_60 : decode cX5_nameOf 60 = .ok (.ldc 36, 2) := by decide +kernel
theorem dX5_nameOf_62 : decode cX5_nameOf 62 = .ok (.areturn, 1) := by decide +kernel
theorem dX5_nameOf_63 : decode cX5_nameOf 63 = .ok (.ldc 38, 2) := by decide +kernel
theorem dX5_nameOf_65 : decode cX5_nameOf 65 = .ok (.areturn, 1) := by decide +kernel
theorem dX5_nameOf_66 : decode cX5_nameOf 66 = .ok (.ldc 40, 2) := by decide +kernel
theorem dX5_nameOf_68 : decode cX5_nameOf 68 = .ok (.areturn, 1) := by decide +kernel
theorem dX5_nameOf_69 : decode cX5_nameOf 69 = .ok (.ldc 42, 2) := by decide +kernel
theorem dX5_nameOf_71 : decode cX5_nameOf 71 = .ok (.areturn, 1) := by decide +kernel
theorem dX5_nameOf_72 : decode cX5_nameOf 72 = .ok (.ldc 44, 2) := by decide +kernel
theorem dX5_nameOf_74 : decode cX5_nameOf 74 = .ok (.areturn, 1) := by decide +kernel
theorem dX6_init_0 : decode cX6_init 0 = .ok (.aload_n 0, 1) := by decide +kernel
theorem dX6_init_1 : decode cX6_init 1 = .ok (.invokespecial 3, 3) := by decide +kernel
theorem dX6_init_4 : decode cX6_init 4 = .ok (.aload_n 0, 1) := by decide +kernel
theorem dX6_init_5 : decode cX6_init 5 = .ok (.sipush 256, 3) := by decide +kernel
theorem dX6_init_8 : decode cX6_init 8 = .ok (.newarray .int, 2) := by decide +kernel
theorem dX6_init_10 : decode cX6_init 10 = .ok (.putfield 9, 3) := by decide +kernel
theorem dX6_init_13 : decode cX6_init 13 = .ok (.return_, 1) := by decide +kernel
theorem dX6_startAs_0 : decode cX6_startAs 0 = .ok (.aload_n 0, 1) := by decide +kernel
theorem dX6_startAs_1 : decode cX6_startAs 1 = .ok (.iload_n 1, 1) := by decide +kernel
theorem dX6_startAs_2 : decode cX6_startAs 2 = .ok (.putfield 15, 3) := by decide +kernel
theorem dX6_startAs_5 : decode cX6_startAs 5 = .ok (.aload_n 0, 1) := by decide +kernel
theorem dX6_startAs_6 : decode cX6_startAs 6 = .ok (.iload_n 2, 1) := by decide +kernel
theorem dX6_startAs_7 : decode cX6_startAs 7 = .ok (.putfield 19, 3) := by decide +kernel
theorem dX6_startAs_10 : decode cX6_startAs 10 = .ok (.iconst 0, 1) := by decide +kernel
theorem dX6_startAs_11 : decode cX6_startAs 11 = .ok (.istore_n 3, 1) := by decide +kernel
theorem dX6_startAs_12 : decode cX6_startAs 12 = .ok (.iload_n 3, 1) := by decide +kernel
theorem dX6_startAs_13 : decode cX6_startAs 13 = .ok (.aload_n 0, 1) := by decide +kernel
theorem dX6_startAs_14 : decode cX6_startAs 14 = .ok (.getfield 19, 3) := by decide +kernel
theorem dX6_startAs_17 : decode cX6_startAs 17 = .ok (.if_icmp .ge 48, 3) := by decide +kernel
theorem dX6_startAs_20 : decode cX6_startAs 20 = .ok (.iconst 0, 1) := by decide +kernel
theorem dX6_startAs_21 : decode cX6_startAs 21 = .ok (.istore 4, 2) := by decide +kernel
theorem dX6_startAs_23 : decode cX6_startAs 23 = .ok (.iload 4, 2) := by decide +kernel
theorem dX6_startAs_25 : decode cX6_startAs 25 = .ok (.aload_n 0, 1) := by decide +kernel
theorem dX6_startAs_26 : decode cX6_startAs 26 = .ok (.getfield 15, 3) := by decide +kernel
theorem dX6_startAs_29 : decode cX6_startAs 29 = .ok (.if_icmp .ge 30, 3) := by decide +kernel
theorem dX6_startAs_32 : decode cX6_startAs 32 = .ok (.aload_n 0, 1) := by decide +kernel
theorem dX6_startAs_33 : decode cX6_startAs 33 = .ok (.iload 4, 2) := by decide +kernel
theorem dX6_startAs_35 : decode cX6_startAs 35 = .ok (.iload_n 3, 1) := by decide +kernel
theorem dX6_startAs_36 : decode cX6_startAs 36 = .ok (.bipush 17, 2) := by decide +kernel
theorem dX6_startAs_38 : decode cX6_startAs 38 = .ok (.iload 4, 2) := by decide +kernel
theorem dX6_startAs_40 : decode cX6_startAs 40 = .ok (.imul, 1) := by decide +kernel
theorem dX6_startAs_41 : decode cX6_startAs 41 = .ok (.bipush 29, 2) := by decide +kernel
theorem dX6_startAs_43 : decode cX6_startAs 43 = .ok (.iload_n 3, 1) := by decide +kernel
theorem dX6_startAs_44 : decode cX6_startAs 44 = .ok (.imul, 1) := by decide +kernel
theorem dX6_startAs_45 : decode cX6_startAs 45 = .ok (.iadd, 1) := by decide +kernel
theorem dX6_startAs_46 : decode cX6_startAs 46 = .ok (.sipush 255, 3) := by decide +kernel
theorem dX6_startAs_49 : decode cX6_startAs 49 = .ok (.iand, 1) := by decide +kernel
theorem dX6_startAs_50 : decode cX6_startAs 50 = .ok (.invokevirtual 22, 3) := by decide +kernel
theorem dX6_startAs_53 : decode cX6_startAs 53 = .ok (.iinc 4 1, 3) := by decide +kernel
theorem dX6_startAs_56 : decode cX6_startAs 56 = .ok (.goto (-33), 3) := by decide +kernel
theorem dX6_startAs_59 : decode cX6_startAs 59 = .ok (.iinc 3 1, 3) := by decide +kernel
theorem dX6_startAs_62 : decode cX6_startAs 62 = .ok (.goto (-50), 3) := by decide +kernel
theorem dX6_startAs_65 : decode cX6_startAs 65 = .ok (.return_, 1) := by decide +kernel
theorem dX6_contains_0 : decode cX6_contains 0 = .ok (.iload_n 1, 1) := by decide +kernel
theorem dX6_contains_1 : decode cX6_contains 1 = .ok (.ifCond .lt 27, 3) := by decide +kernel
theorem dX6_contains_4 : decode cX6_contains 4 = .ok (.iload_n 1, 1) := by decide +kernel
theorem dX6_contains_5 : decode cX6_contains 5 = .ok (.aload_n 0, 1) := by decide +kernel
theorem dX6_contains_6 : decode cX6_contains 6 = .ok (.getfield 15, 3) := by decide +kernel
theorem dX6_contains_9 : decode cX6_contains 9 = .ok (.if_icmp .ge 19, 3) := by decide +kernel
theorem dX6_contains_12 : decode cX6_contains 12 = .ok (.iload_n 2, 1) := by decide +kernel
theorem dX6_contains_13 : decode cX6_contains 13 = .ok (.ifCond .lt 15, 3) := by decide +kernel
theorem dX6_contains_16 : decode cX6_contains 16 = .ok (.iload_n 2, 1) := by decide +kernel
theorem dX6_contains_17 : decode cX6_contains 17 = .ok (.aload_n 0, 1) := by decide +kernel
theorem dX6_contains_18 : decode cX6_contains 18 = .ok (.getfield 19, 3) := by decide +kernel
theorem dX6_contains_21 : decode cX6_contains 21 = .ok (.if_icmp .ge 7, 3) := by decide +kernel
theorem dX6_contains_24 : decode cX6_contains 24 = .ok (.iconst 1, 1) := by decide +kernel
theorem dX6_contains_25 : decode cX6_contains 25 = .ok (.goto 4, 3) := by decide +kernel
theorem dX6_contains_28 : decode cX6_contains 28 = .ok (.iconst 0, 1) := by decide +kernel
theorem dX6_contains_29 : decode cX6_contains 29 = .ok (.ireturn, 1) := by decide +kernel
theorem dX6_at_0 : decode cX6_at 0 = .ok (.iload_n 2, 1) := by decide +kernel
theorem dX6_at_1 : decode cX6_at 1 = .ok (.bipush 16, 2) := by decide +kernel
theorem dX6_at_3 : decode cX6_at 3 = .ok (.imul, 1) := by decide +kernel
theorem dX6_at_4 : decode cX6_at 4 = .ok (.iload_n 1, 1) := by decide +kernel
theorem dX6_at_5 : decode cX6_at 5 = .ok (.iadd, 1) := by decide +kernel
theorem dX6_at_6 : decode cX6_at 6 = .ok (.istore_n 3, 1) := by decide +kernel
theorem dX6_at_7 : decode cX6_at 7 = .ok (.iload_n 3, 1) := by decide +kernel
theorem dX6_at_8 : decode cX6_at 8 = .ok (.ifCond .lt 21, 3) := by decide +kernel
theorem dX6_at_11 : decode cX6_at 11 = .ok (.iload_n 3, 1) := by decide +kernel
theorem dX6_at_12 : decode cX6_at 12 = .ok (.aload_n 0, 1) := by decide +kernel
theorem dX6_at_13 : decode cX6_at 13 = .ok (.getfield 9, 3) := by decide +kernel
theorem dX6_at_16 : decode cX6_at 16 = .ok (.arraylength, 1) := by decide +kernel
theorem dX6_at_17 : decode cX6_at 17 = .ok (.if_icmp .ge 12, 3) := by decide +kernel
theorem dX6_at_20 : decode cX6_at 20 = .ok (.aload_n 0, 1) := by decide +kernel
theorem dX6_at_21 : decode cX6_at 21 = .ok (.getfield 9, 3) := by decide +kernel
theorem dX6_at_24 : decode cX6_at 24 = .ok (.iload_n 3, 1) := by decide +kernel
theorem dX6_at_25 : decode cX6_at 25 = .ok (.iaload, 1) := by decide +kernel
theorem dX6_at_26 : decode cX6_at 26 = .ok (.goto 4, 3) := by decide +kernel
theorem dX6_at_29 : decode cX6_at 29 = .ok (.iconst 0, 1) := by decide +kernel
theorem dX6_at_30 : decode cX6_at 30 = .ok (.ireturn, 1) := by decide +kernel
theorem dX6_atNearest_0 : decode cX6_atNearest 0 = .ok (.aload_n 0, 1) := by decide +kernel
theorem dX6_atNearest_1 : decode cX6_atNearest 1 = .ok (.iconst 0, 1) := by decide +kernel
theorem dX6_atNearest_2 : decode cX6_atNearest 2 = .ok (.iload_n 1, 1) := by decide +kernel
theorem dX6_atNearest_3 : decode cX6_atNearest 3 = .ok (.aload_n 0, 1) := by decide +kernel
theorem dX6_atNearest_4 : decode cX6_atNearest 4 = .ok (.getfield 15, 3) := by decide +kernel
theorem dX6_atNearest_7 : decode cX6_atNearest 7 = .ok (.iconst 1, 1) := by decide +kernel
theorem dX6_atNearest_8 : decode cX6_atNearest 8 = .ok (.isub, 1) := by decide +kernel
theorem dX6_atNearest_9 : decode cX6_atNearest 9 = .ok (.invokestatic 26, 3) := by decide +kernel
theorem dX6_atNearest_12 : decode cX6_atNearest 12 = .ok (.invokestatic 32, 3) := by decide +kernel
theorem dX6_atNearest_15 : decode cX6_atNearest 15 = .ok (.iconst 0, 1) := by decide +kernel
theorem dX6_atNearest_16 : decode cX6_atNearest 16 = .ok (.iload_n 2, 1) := by decide +kernel
theorem dX6_atNearest_17 : decode cX6_atNearest 17 = .ok (.aload_n 0, 1) := by decide +kernel
theorem dX6_atNearest_18 : decode cX6_atNearest 18 = .ok (.getfield 19, 3) := by decide +kernel
theorem dX6_atNearest_21 : decode cX6_atNearest 21 = .ok (.iconst 1, 1) := by decide +kernel
theorem dX6_atNearest_22 : decode cX6_atNearest 22 = .ok (.isub, 1) := by decide +kernel
theorem dX6_atNearest_23 : decode cX6_atNearest 23 = .ok (.invokestatic 26, 3) := by decide +kernel
theorem dX6_atNearest_26 : decode cX6_atNearest 26 = .ok (.invokestatic 32, 3) := by decide +kernel
theorem dX6_atNearest_29 : decode cX6_atNearest 29 = .ok (.invokevirtual 35, 3) := by decide +kernel
theorem dX6_atNearest_32 : decode cX6_atNearest 32 = .ok (.ireturn, 1) := by decide +kernel
theorem dX6_put_0 : decode cX6_put 0 = .ok (.iload_n 2, 1) := by decide +kernel
theorem dX6_put_1 : decode cX6_put 1 = .ok (.bipush 16, 2) := by decide +kernel
theorem dX6_put_3 : decode cX6_put 3 = .ok (.imul, 1) := by decide +kernel
theorem dX6_put_4 : decode cX6_put 4 = .ok (.iload_n 1, 1) := by decide +kernel
theorem dX6_put_5 : decode cX6_put 5 = .ok (.iadd, 1) := by decide +kernel
theorem dX6_put_6 : decode cX6_put 6 = .ok (.istore 4, 2) := by decide +kernel
theorem dX6_put_8 : decode cX6_put 8 = .ok (.iload 4, 2) := by decide +kernel
theorem dX6_put_10 : decode cX6_put 10 = .ok (.ifCond .lt 21, 3) := by decide +kernel
theorem dX6_put_13 : decode cX6_put 13 = .ok (.iload 4, 2) := by decide +kernel
theorem dX6_put_15 : decode cX6_put 15 = .ok (.aload_n 0, 1) := by decide +kernel
theorem dX6_put_16 : decode cX6_put 16 = .ok (.getfield 9, 3) := by decide +kernel
theorem dX6_put_19 : decode cX6_put 19 = .ok (.arraylength, 1) := by decide +kernel
theorem dX6_put_20 : decode cX6_put 20 = .ok (.if_icmp .ge 11, 3) := by decide +kernel
theorem dX6_put_23 : decode cX6_put 23 = .ok (.aload_n 0, 1) := by decide +kernel
theorem dX6_put_24 : decode cX6_put 24 = .ok (.getfield 9, 3) := by decide +kernel
theorem dX6_put_27 : decode cX6_put 27 = .ok (.iload 4, 2) := by decide +kernel
theorem dX6_put_29 : decode cX6_put 29 = .ok (.iload_n 3, 1) := by decide +kernel
theorem dX6_put_30 : decode cX6_put 30 = .ok (.iastore, 1) := by decide +kernel
theorem dX6_put_31 : decode cX6_put 31 = .ok (.return_, 1) := by decide +kernel
theorem dX6_copyFrom_0 : decode cX6_copyFrom 0 = .ok (.aload_n 0, 1) := by decide +kernel
theorem dX6_copyFrom_1 : decode cX6_copyFrom 1 = .ok (.aload_n 1, 1) := by decide +kernel
theorem dX6_copyFrom_2 : decode cX6_copyFrom 2 = .ok (.invokevirtual 38, 3) := by decide +kernel
theorem dX6_copyFrom_5 : decode cX6_copyFrom 5 = .ok (.iconst 0, 1) := by decide +kernel
theorem dX6_copyFrom_6 : decode cX6_copyFrom 6 = .ok (.istore_n 2, 1) := by decide +kernel
theorem dX6_copyFrom_7 : decode cX6_copyFrom 7 = .ok (.iload_n 2, 1) := by decide +kernel
theorem dX6_copyFrom_8 : decode cX6_copyFrom 8 = .ok (.aload_n 0, 1) := by decide +kernel
theorem dX6_copyFrom_9 : decode cX6_copyFrom 9 = .ok (.getfield 19, 3) := by decide +kernel
theorem dX6_copyFrom_12 : decode cX6_copyFrom 12 = .ok (.if_icmp .ge 37, 3) := by decide +kernel
theorem dX6_copyFrom_15 : decode cX6_copyFrom 15 = .ok (.iconst 0, 1) := by decide +kernel
theorem dX6_copyFrom_16 : decode cX6_copyFrom 16 = .ok (.istore_n 3, 1) := by decide +kernel
theorem dX6_copyFrom_17 : decode cX6_copyFrom 17 = .ok (.iload_n 3, 1) := by decide +kernel
theorem dX6_copyFrom_18 : decode cX6_copyFrom 18 = .ok (.aload_n 0, 1) := by decide +kernel
theorem dX6_copyFrom_19 : decode cX6_copyFrom 19 = .ok (.getfield 15, 3) := by decide +kernel
theorem dX6_copyFrom_22 : decode cX6_copyFrom 22 = .ok (.if_icmp .ge 21, 3) := by decide +kernel
theorem dX6_copyFrom_25 : decode cX6_copyFrom 25 = .ok (.aload_n 0, 1) := by decide +kernel
theorem dX6_copyFrom_26 : decode cX6_copyFrom 26 = .ok (.iload_n 3, 1) := by decide +kernel
theorem dX6_copyFrom_27 : decode cX6_copyFrom 27 = .ok (.iload_n 2, 1) := by decide +kernel
theorem dX6_copyFrom_28 : decode cX6_copyFrom 28 = .ok (.aload_n 1, 1) := by decide +kernel
theorem dX6_copyFrom_29 : decode cX6_copyFrom 29 = .ok (.iload_n 3, 1) := by decide +kernel
theorem dX6_copyFrom_30 : decode cX6_copyFrom 30 = .ok (.iload_n 2, 1) := by decide +kernel
theorem dX6_copyFrom_31 : decode cX6_copyFrom 31 = .ok (.invokevirtual 35, 3) := by decide +kernel
theorem dX6_copyFrom_34 : decode cX6_copyFrom 34 = .ok (.invokevirtual 22, 3) := by decide +kernel
theorem dX6_copyFrom_37 : decode cX6_copyFrom 37 = .ok (.iinc 3 1, 3) := by decide +kernel
theorem dX6_copyFrom_40 : decode cX6_copyFrom 40 = .ok (.goto (-23), 3) := by decide +kernel
theorem dX6_copyFrom_43 : decode cX6_copyFrom 43 = .ok (.iinc 2 1, 3) := by decide +kernel
theorem dX6_copyFrom_46 : decode cX6_copyFrom 46 = .ok (.goto (-39), 3) := by decide +kernel
theorem dX6_copyFrom_49 : decode cX6_copyFrom 49 = .ok (.return_, 1) := by decide +kernel
theorem dX6_takeSizeOf_0 : decode cX6_takeSizeOf 0 = .ok (.aload_n 0, 1) := by decide +kernel
theorem dX6_takeSizeOf_1 : decode cX6_takeSizeOf 1 = .ok (.aload_n 1, 1) := by decide +kernel
theorem dX6_takeSizeOf_2 : decode cX6_takeSizeOf 2 = .ok (.getfield 15, 3) := by decide +kernel
theorem dX6_takeSizeOf_5 : decode cX6_takeSizeOf 5 = .ok (.putfield 15, 3) := by decide +kernel
theorem dX6_takeSizeOf_8 : decode cX6_takeSizeOf 8 = .ok (.aload_n 0, 1) := by decide +kernel
theorem dX6_takeSizeOf_9 : decode cX6_takeSizeOf 9 = .ok (.aload_n 1, 1) := by decide +kernel
theorem dX6_takeSizeOf_10 : decode cX6_takeSizeOf 10 = .ok (.getfield 19, 3) := by decide +kernel
theorem dX6_takeSizeOf_13 : decode cX6_takeSizeOf 13 = .ok (.putfield 19, 3) := by decide +kernel
theorem dX6_takeSizeOf_16 : decode cX6_takeSizeOf 16 = .ok (.return_, 1) := by decide +kernel
theorem dX6_hasSizeOf_0 : decode cX6_hasSizeOf 0 = .ok (.aload_n 0, 1) := by decide +kernel
theorem dX6_hasSizeOf_1 : decode cX6_hasSizeOf 1 = .ok (.getfield 15, 3) := by decide +kernel
theorem dX6_hasSizeOf_4 : decode cX6_hasSizeOf 4 = .ok (.aload_n 1, 1) := by decide +kernel
theorem dX6_hasSizeOf_5 : decode cX6_hasSizeOf 5 = .ok (.getfield 15, 3) := by decide +kernel
theorem dX6_hasSizeOf_8 : decode cX6_hasSizeOf 8 = .ok (.if_icmp .ne 18, 3) := by decide +kernel
theorem dX6_hasSizeOf_11 : decode cX6_hasSizeOf 11 = .ok (.aload_n 0, 1) := by decide +kernel
theorem dX6_hasSizeOf_12 : decode cX6_hasSizeOf 12 = .ok (.getfield 19, 3) := by decide +kernel
theorem dX6_hasSizeOf_15 : decode cX6_hasSizeOf 15 = .ok (.aload_n 1, 1) := by decide +kernel
theorem dX6_hasSizeOf_16 : decode cX6_hasSizeOf 16 = .ok (.getfield 19, 3) := by decide +kernel
theorem dX6_hasSizeOf_19 : decode cX6_hasSizeOf 19 = .ok (.if_icmp .ne 7, 3) := by decide +kernel
theorem dX6_hasSizeOf_22 : decode cX6_hasSizeOf 22 = .ok (.iconst 1, 1) := by decide +kernel
theorem dX6_hasSizeOf_23 : decode cX6_hasSizeOf 23 = .ok (.goto 4, 3) := by decide +kernel
theorem dX6_hasSizeOf_26 : decode cX6_hasSizeOf 26 = .ok (.iconst 0, 1) := by decide +kernel
theorem dX6_hasSizeOf_27 : decode cX6_hasSizeOf 27 = .ok (.ireturn, 1) := by decide +kernel
theorem dX6_absoluteDifference_0 : decode cX6_absoluteDifference 0 = .ok (.iconst 0, 1) := by decide +kernel
theorem dX6_absoluteDifference_1 : decode cX6_absoluteDifference 1 = .ok (.istore_n 2, 1) := by decide +kernel
theorem dX6_absoluteDifference_2 : decode cX6_absoluteDifference 2 = .ok (.iconst 0, 1) := by decide +kernel
theorem dX6_absoluteDifference_3 : decode cX6_absoluteDifference 3 = .ok (.istore_n 3, 1) := by decide +kernel
theorem dX6_absoluteDifference_4 : decode cX6_absoluteDifference 4 = .ok (.iload_n 3, 1) := by decide +kernel
theorem dX6_absoluteDifference_5 : decode cX6_absoluteDifference 5 = .ok (.aload_n 0, 1) := by decide +kernel
theorem dX6_absoluteDifference_6 : decode cX6_absoluteDifference 6 = .ok (.getfield 19, 3) := by decide +kernel
theorem dX6_absoluteDifference_9 : decode cX6_absoluteDifference 9 = .ok (.if_icmp .ge 48, 3) := by decide +kernel
theorem dX6_absoluteDifference_12 : decode cX6_absoluteDifference 12 = .ok (.iconst 0, 1) := by decide +kernel
theorem dX6_absoluteDifference_13 : decode cX6_absoluteDifference 13 = .ok (.istore 4, 2) := by decide +kernel
theorem dX6_absoluteDifference_15 : decode cX6_absoluteDifference 15 = .ok (.iload 4, 2) := by decide +kernel
theorem dX6_absoluteDifference_17 : decode cX6_absoluteDifference 17 = .ok (.aload_n 0, 1) := by decide +kernel
theorem dX6_absoluteDifference_18 : decode cX6_absoluteDifference 18 = .ok (.getfield 15, 3) := by decide +kernel
theorem dX6_absoluteDifference_21 : decode cX6_absoluteDifference 21 = .ok (.if_icmp .ge 30, 3) := by decide +kernel
theorem dX6_absoluteDifference_24 : decode cX6_absoluteDifference 24 = .ok (.iload_n 2, 1) := by decide +kernel
theorem dX6_absoluteDifference_25 : decode cX6_absoluteDifference 25 = .ok (.aload_n 0, 1) := by decide +kernel
theorem dX6_absoluteDifference_26 : decode cX6_absoluteDifference 26 = .ok (.iload 4, 2) := by decide +kernel
theorem dX6_absoluteDifference_28 : decode cX6_absoluteDifference 28 = .ok (.iload_n 3, 1) := by decide +kernel
theorem dX6_absoluteDifference_29 : decode cX6_absoluteDifference 29 = .ok (.invokevirtual 35, 3) := by decide +kernel
theorem dX6_absoluteDifference_32 : decode cX6_absoluteDifference 32 = .ok (.aload_n 1, 1) := by decide +kernel
theorem dX6_absoluteDifference_33 : decode cX6_absoluteDifference 33 = .ok (.iload 4, 2) := by decide +kernel
theorem dX6_absoluteDifference_35 : decode cX6_absoluteDifference 35 = .ok (.iload_n 3, 1) := by decide +kernel
theorem dX6_absoluteDifference_36 : decode cX6_absoluteDifference 36 = .ok (.invokevirtual 35, 3) := by decide +kernel
theorem dX6_absoluteDifference_39 : decode cX6_absoluteDifference 39 = .ok (.isub, 1) := by decide +kernel
theorem dX6_absoluteDifference_40 : decode cX6_absoluteDifference 40 = .ok (.invokestatic 42, 3) := by decide +kernel
theorem dX6_absoluteDifference_43 : decode cX6_absoluteDifference 43 = .ok (.iadd, 1) := by decide +kernel
theorem dX6_absoluteDifference_44 : decode cX6_absoluteDifference 44 = .ok (.istore_n 2, 1) := by decide +kernel
theorem dX6_absoluteDifference_45 : decode cX6_absoluteDifference 45 = .ok (.iinc 4 1, 3) := by decide +kernel
theorem dX6_absoluteDifference_48 : decode cX6_absoluteDifference 48 = .ok (.goto (-33), 3) := by decide +kernel
theorem dX6_absoluteDifference_51 : decode cX6_absoluteDifference 51 = .ok (.iinc 3 1, 3) := by decide +kernel
theorem dX6_absoluteDifference_54 : decode cX6_absoluteDifference 54 = .ok (.goto (-50), 3) := by decide +kernel
theorem dX6_absoluteDifference_57 : decode cX6_absoluteDifference 57 = .ok (.iload_n 2, 1) := by decide +kernel
theorem dX6_absoluteDifference_58 : decode cX6_absoluteDifference 58 = .ok (.ireturn, 1) := by decide +kernel
theorem dX6_differingPixels_0 : decode cX6_differingPixels 0 = .ok (.iconst 0, 1) := by decide +kernel
theorem dX6_differingPixels_1 : decode cX6_differingPixels 1 = .ok (.istore_n 2, 1) := by decide +kernel
theorem dX6_differingPixels_2 : decode cX6_differingPixels 2 = .ok (.iconst 0, 1) := by decide +kernel
theorem dX6_differingPixels_3 : decode cX6_differingPixels 3 = .ok (.istore_n 3, 1) := by decide +kernel
theorem dX6_differingPixels_4 : decode cX6_differingPixels 4 = .ok (.iload_n 3, 1) := by decide +kernel
theorem dX6_differingPixels_5 : decode cX6_differingPixels 5 = .ok (.aload_n 0, 1) := by decide +kernel
theorem dX6_differingPixels_6 : decode cX6_differingPixels 6 = .ok (.getfield 19, 3) := by decide +kernel
theorem dX6_differingPixels_9 : decode cX6_differingPixels 9 = .ok (.if_icmp .ge 47, 3) := by decide +kernel
theorem dX6_differingPixels_12 : decode cX6_differingPixels 12 = .ok (.iconst 0, 1) := by decide +kernel
theorem dX6_differingPixels_13 : decode cX6_differingPixels 13 = .ok (.istore 4, 2) := by decide +kernel
theorem dX6_differingPixels_15 : decode cX6_differingPixels 15 = .ok (.iload 4, 2) := by decide +kernel
theorem dX6_differingPixels_17 : decode cX6_differingPixels 17 = .ok (.aload_n 0, 1) := by decide +kernel
theorem dX6_differingPixels_18 : decode cX6_differingPixels 18 = .ok (.getfield 15, 3) := by decide +kernel
theorem dX6_differingPixels_21 : decode cX6_differingPixels 21 = .ok (.if_icmp .ge 29, 3) := by decide +kernel
theorem dX6_differingPixels_24 : decode cX6_differingPixels 24 = .ok (.aload_n 0, 1) := by decide +kernel
theorem dX6_differingPixels_25 : decode cX6_differingPixels 25 = .ok (.iload 4, 2) := by decide +kernel
theorem dX6_differingPixels_27 : decode cX6_differingPixels 27 = .ok (.iload_n 3, 1) := by decide +kernel
theorem dX6_differingPixels_28 : decode cX6_differingPixels 28 = .ok (.invokevirtual 35, 3) := by decide +kernel
theorem dX6_differingPixels_31 : decode cX6_differingPixels 31 = .ok (.aload_n 1, 1) := by decide +kernel
theorem dX6_differingPixels_32 : decode cX6_differingPixels 32 = .ok (.iload 4, 2) := by decide +kernel
theorem dX6_differingPixels_34 : decode cX6_differingPixels 34 = .ok (.iload_n 3, 1) := by decide +kernel
theorem dX6_differingPixels_35 : decode cX6_differingPixels 35 = .ok (.invokevirtual 35, 3) := by decide +kernel
theorem dX6_differingPixels_38 : decode cX6_differingPixels 38 = .ok (.if_icmp .eq 6, 3) := by decide +kernel
theorem dX6_differingPixels_41 : decode cX6_differingPixels 41 = .ok (.iinc 2 1, 3) := by decide +kernel
theorem dX6_differingPixels_44 : decode cX6_differingPixels 44 = .ok (.iinc 4 1, 3) := by decide +kernel
theorem dX6_differingPixels_47 : decode cX6_differingPixels 47 = .ok (.goto (-32), 3) := by decide +kernel
theorem dX6_differingPixels_50 : decode cX6_differingPixels 50 = .ok (.iinc 3 1, 3) := by decide +kernel
theorem dX6_differingPixels_53 : decode cX6_differingPixels 53 = .ok (.goto (-49), 3) := by decide +kernel
theorem dX6_differingPixels_56 : decode cX6_differingPixels 56 = .ok (.iload_n 2, 1) := by decide +kernel
theorem dX6_differingPixels_57 : decode cX6_differingPixels 57 = .ok (.ireturn, 1) := by decide +kernel
theorem dX7_init_0 : decode cX7_init 0 = .ok (.aload_n 0, 1) := by decide +kernel
theorem dX7_init_1 : decode cX7_init 1 = .ok (.invokespecial 3, 3) := by decide +kernel
theorem dX7_init_4 : decode cX7_init 4 = .ok (.aload_n 0, 1) := by decide +kernel
theorem dX7_init_5 : decode cX7_init 5 = .ok (.new 9, 3) := by decide +kernel
theorem dX7_init_8 : decode cX7_init 8 = .ok (.dup, 1) := by decide +kernel
theorem dX7_init_9 : decode cX7_init 9 = .ok (.invokespecial 11, 3) := by decide +kernel
theorem dX7_init_12 : decode cX7_init 12 = .ok (.putfield 12, 3) := by decide +kernel
theorem dX7_init_15 : decode cX7_init 15 = .ok (.aload_n 0, 1) := by decide +kernel
theorem dX7_init_16 : decode cX7_init 16 = .ok (.bipush 49, 2) := by decide +kernel
theorem dX7_init_18 : decode cX7_init 18 = .ok (.newarray .int, 2) := by decide +kernel
theorem dX7_init_20 : decode cX7_init 20 = .ok (.putfield 18, 3) := by decide +kernel
theorem dX7_init_23 : decode cX7_init 23 = .ok (.return_, 1) := by decide +kernel
theorem dX7_renderStack_0 : decode cX7_renderStack 0 = .ok (.aload_n 3, 1) := by decide +kernel
theorem dX7_renderStack_1 : decode cX7_renderStack 1 = .ok (.aload_n 1, 1) := by decide +kernel
theorem dX7_renderStack_2 : decode cX7_renderStack 2 = .ok (.getfield 22, 3) := by decide +kernel
theorem dX7_renderStack_5 : decode cX7_renderStack 5 = .ok (.invokevirtual 27, 3) := by decide +kernel
theorem dX7_renderStack_8 : decode cX7_renderStack 8 = .ok (.iconst 0, 1) := by decide +kernel
theorem dX7_renderStack_9 : decode cX7_renderStack 9 = .ok (.istore 4, 2) := by decide +kernel
theorem dX7_renderStack_11 : decode cX7_renderStack 11 = .ok (.iload 4, 2) := by decide +kernel
theorem dX7_renderStack_13 : decode cX7_renderStack 13 = .ok (.iload_n 2, 1) := by decide +kernel
theorem dX7_renderStack_14 : decode cX7_renderStack 14 = .ok (.if_icmp .gt 62, 3) := by decide +kernel
theorem dX7_renderStack_17 : decode cX7_renderStack 17 = .ok (.iload 4, 2) := by decide +kernel
theorem dX7_renderStack_19 : decode cX7_renderStack 19 = .ok (.aload_n 1, 1) := by decide +kernel
theorem dX7_renderStack_20 : decode cX7_renderStack 20 = .ok (.invokevirtual 31, 3) := by decide +kernel
theorem dX7_renderStack_23 : decode cX7_renderStack 23 = .ok (.if_icmp .ge 53, 3) := by decide +kernel
theorem dX7_renderStack_26 : decode cX7_renderStack 26 = .ok (.aload_n 1, 1) := by decide +kernel
theorem dX7_renderStack_27 : decode cX7_renderStack 27 = .ok (.iload 4, 2) := by decide +kernel
theorem dX7_renderStack_29 : decode cX7_renderStack 29 = .ok (.invokevirtual 35, 3) := by decide +kernel
theorem dX7_renderStack_32 : decode cX7_renderStack 32 = .ok (.astore 5, 2) := by decide +kernel
theorem dX7_renderStack_34 : decode cX7_renderStack 34 = .ok (.aload 5, 2) := by decide +kernel
theorem dX7_renderStack_36 : decode cX7_renderStack 36 = .ok (.ifnull 34, 3) := by decide +kernel
theorem dX7_renderStack_39 : decode cX7_renderStack 39 = .ok (.aload 5, 2) := by decide +kernel
theorem dX7_renderStack_41 : decode cX7_renderStack 41 = .ok (.getfield 39, 3) := by decide +kernel
theorem dX7_renderStack_44 : decode cX7_renderStack 44 = .ok (.ifCond .eq 26, 3) := by decide +kernel
theorem dX7_renderStack_47 : decode cX7_renderStack 47 = .ok (.aload_n 0, 1) := by decide +kernel
theorem dX7_renderStack_48 : decode cX7_renderStack 48 = .ok (.aload 5, 2) := by decide +kernel
theorem dX7_renderStack_50 : decode cX7_renderStack 50 = .ok (.aload_n 3, 1) := by decide +kernel
theorem dX7_renderStack_51 : decode cX7_renderStack 51 = .ok (.aload_n 0, 1) := by decide +kernel
theorem dX7_renderStack_52 : decode cX7_renderStack 52 = .ok (.getfield 12, 3) := by decide +kernel
theorem dX7_renderStack_55 : decode cX7_renderStack 55 = .ok (.iconst 0, 1) := by decide +kernel
theorem dX7_renderStack_56 : decode cX7_renderStack 56 = .ok (.iconst 0, 1) := by decide +kernel
theorem dX7_renderStack_57 : decode cX7_renderStack 57 = .ok (.bipush 16, 2) := by decide +kernel
theorem dX7_renderStack_59 : decode cX7_renderStack 59 = .ok (.invokevirtual 45, 3) := by decide +kernel
theorem dX7_renderStack_62 : decode cX7_renderStack 62 = .ok (.aload_n 3, 1) := by decide +kernel
theorem dX7_renderStack_63 : decode cX7_renderStack 63 = .ok (.aload_n 0, 1) := by decide +kernel
theorem dX7_renderStack_64 : decode cX7_renderStack 64 = .ok (.getfield 12, 3) := by decide +kernel
theorem dX7_renderStack_67 : decode cX7_renderStack 67 = .ok (.invokevirtual 27, 3) := by decide +kernel
theorem dX7_renderStack_70 : decode cX7_renderStack 70 = .ok (.iinc 4 1, 3) := by decide +kernel
theorem dX7_renderStack_73 : decode cX7_renderStack 73 = .ok (.goto (-62), 3) := by decide +kernel
theorem dX7_renderStack_76 : decode cX7_renderStack 76 = .ok (.return_, 1) := by decide +kernel
theorem dX7_render_0 : decode cX7_render 0 = .ok (.aload_n 3, 1) := by decide +kernel
theorem dX7_render_1 : decode cX7_render 1 = .ok (.aload_n 2, 1) := by decide +kernel
theorem dX7_render_2 : decode cX7_render 2 = .ok (.invokevirtual 49, 3) := by decide +kernel
theorem dX7_render_5 : decode cX7_render 5 = .ok (.aload_n 1, 1) := by decide +kernel
theorem dX7_render_6 : decode cX7_render 6 = .ok (.getfield 52, 3) := by decide +kernel
theorem dX7_render_9 : decode cX7_render 9 = .ok (.bipush 13, 2) := by decide +kernel
theorem dX7_render_11 : decode cX7_render 11 = .ok (.if_icmp .ne 8, 3) := by decide +kernel
theorem dX7_render_14 : decode cX7_render 14 = .ok (.aload_n 0, 1) := by decide +kernel
theorem dX7_render_15 : decode cX7_render 15 = .ok (.aload_n 2, 1) := by decide +kernel
theorem dX7_render_16 : decode cX7_render 16 = .ok (.invokevirtual 56, 3) := by decide +kernel
theorem dX7_render_19 : decode cX7_render 19 = .ok (.iload 5, 2) := by decide +kernel
theorem dX7_render_21 : decode cX7_render 21 = .ok (.istore 7, 2) := by decide +kernel
theorem dX7_render_23 : decode cX7_render 23 = .ok (.iload 7, 2) := by decide +kernel
theorem dX7_render_25 : decode cX7_render 25 = .ok (.iload 5, 2) := by decide +kernel
theorem dX7_render_27 : decode cX7_render 27 = .ok (.iload 6, 2) := by decide +kernel
theorem dX7_render_29 : decode cX7_render 29 = .ok (.iadd, 1) := by decide +kernel
theorem dX7_render_30 : decode cX7_render 30 = .ok (.if_icmp .ge 123, 3) := by decide +kernel
theorem dX7_render_33 : decode cX7_render 33 = .ok (.iload 7, 2) := by decide +kernel
theorem dX7_render_35 : decode cX7_render 35 = .ok (.aload_n 2, 1) := by decide +kernel
theorem dX7_render_36 : decode cX7_render 36 = .ok (.getfield 59, 3) := by decide +kernel
theorem dX7_render_39 : decode cX7_render 39 = .ok (.if_icmp .ge 114, 3) := by decide +kernel
theorem dX7_render_42 : decode cX7_render 42 = .ok (.iload 4, 2) := by decide +kernel
theorem dX7_render_44 : decode cX7_render 44 = .ok (.istore 8, 2) := by decide +kernel
theorem dX7_render_46 : decode cX7_render 46 = .ok (.iload 8, 2) := by decide +kernel
theorem dX7_render_48 : decode cX7_render 48 = .ok (.iload 4, 2) := by decide +kernel
theorem dX7_render_50 : decode cX7_render 50 = .ok (.iload 6, 2) := by decide +kernel
theorem dX7_render_52 : decode cX7_render 52 = .ok (.iadd, 1) := by decide +kernel
theorem dX7_render_53 : decode cX7_render 53 = .ok (.if_icmp .ge 94, 3) := by decide +kernel
theorem dX7_render_56 : decode cX7_render 56 = .ok (.iload 8, 2) := by decide +kernel
theorem dX7_render_58 : decode cX7_render 58 = .ok (.aload_n 2, 1) := by decide +kernel
theorem dX7_render_59 : decode cX7_render 59 = .ok (.getfield 62, 3) := by decide +kernel
theorem dX7_render_62 : decode cX7_render 62 = .ok (.if_icmp .ge 85, 3) := by decide +kernel
theorem dX7_render_65 : decode cX7_render 65 = .ok (.aload_n 2, 1) := by decide +kernel
theorem dX7_render_66 : decode cX7_render 66 = .ok (.iload 8, 2) := by decide +kernel
theorem dX7_render_68 : decode cX7_render 68 = .ok (.iload 7, 2) := by decide +kernel
theorem dX7_render_70 : decode cX7_render 70 = .ok (.invokevirtual 65, 3) := by decide +kernel
theorem dX7_render_73 : decode cX7_render 73 = .ok (.istore 9, 2) := by decide +kernel
theorem dX7_render_75 : decode cX7_render 75 = .ok (.aload_n 1, 1) := by decide +kernel
theorem dX7_render_76 : decode cX7_render 76 = .ok (.getfield 69, 3) := by decide +kernel
theorem dX7_render_79 : decode cX7_render 79 = .ok (.iload 9, 2) := by decide +kernel
theorem dX7_render_81 : decode cX7_render 81 = .ok (.aload_n 0, 1) := by decide +kernel
theorem dX7_render_82 : decode cX7_render 82 = .ok (.aload_n 1, 1) := by decide +kernel
theorem dX7_render_83 : decode cX7_render 83 = .ok (.aload_n 2, 1) := by decide +kernel
theorem dX7_render_84 : decode cX7_render 84 = .ok (.iload 8, 2) := by decide +kernel
theorem dX7_render_86 : decode cX7_render 86 = .ok (.iload 7, 2) := by decide +kernel
theorem dX7_render_88 : decode cX7_render 88 = .ok (.invokevirtual 72, 3) := by decide +kernel
theorem dX7_render_91 : decode cX7_render 91 = .ok (.invokestatic 76, 3) := by decide +kernel
theorem dX7_render_94 : decode cX7_render 94 = .ok (.istore 10, 2) := by decide +kernel
theorem dX7_render_96 : decode cX7_render 96 = .ok (.aload_n 1, 1) := by decide +kernel
theorem dX7_render_97 : decode cX7_render 97 = .ok (.getfield 82, 3) := by decide +kernel
theorem dX7_render_100 : decode cX7_render 100 = .ok (.iload 8, 2) := by decide +kernel
theorem dX7_render_102 : decode cX7_render 102 = .ok (.iload 7, 2) := by decide +kernel
theorem dX7_render_104 : decode cX7_render 104 = .ok (.iload 9, 2) := by decide +kernel
theorem dX7_render_106 : decode cX7_render 106 = .ok (.invokevirtual 86, 3) := by decide +kernel
theorem dX7_render_109 : decode cX7_render 109 = .ok (.istore 11, 2) := by decide +kernel
theorem dX7_render_111 : decode cX7_render 111 = .ok (.aload_n 3, 1) := by decide +kernel
theorem dX7_render_112 : decode cX7_render 112 = .ok (.iload 8, 2) := by decide +kernel
theorem dX7_render_114 : decode cX7_render 114 = .ok (.iload 7, 2) := by decide +kernel
theorem dX7_render_116 : decode cX7_render 116 = .ok (.iload 9, 2) := by decide +kernel
theorem dX7_render_118 : decode cX7_render 118 = .ok (.iload 10, 2) := by decide +kernel
theorem dX7_render_120 : decode cX7_render 120 = .ok (.iload 9, 2) := by decide +kernel
theorem dX7_render_122 : decode cX7_render 122 = .ok (.isub, 1) := by decide +kernel
theorem dX7_render_123 : decode cX7_render 123 = .ok (.aload_n 1, 1) := by decide +kernel
theorem dX7_render_124 : decode cX7_render 124 = .ok (.getfield 91, 3) := by decide +kernel
theorem dX7_render_127 : decode cX7_render 127 = .ok (.imul, 1) := by decide +kernel
theorem dX7_render_128 : decode cX7_render 128 = .ok (.iload 11, 2) := by decide +kernel
theorem dX7_render_130 : decode cX7_render 130 = .ok (.imul, 1) := by decide +kernel
theorem dX7_render_131 : decode cX7_render 131 = .ok (.sipush 25500, 3) := by decide +kernel
theorem dX7_render_134 : decode cX7_render 134 = .ok (.invokestatic 94, 3) := by decide +kernel
theorem dX7_render_137 : decode cX7_render 137 = .ok (.iadd, 1) := by decide +kernel
theorem dX7_render_138 : decode cX7_render 138 = .ok (.invokevirtual 97, 3) := by decide +kernel
theorem dX7_render_141 : decode cX7_render 141 = .ok (.iinc 8 1, 3) := by decide +kernel
theorem dX7_render_144 : decode cX7_render 144 = .ok (.goto (-98), 3) := by decide +kernel
theorem dX7_render_147 : decode cX7_render 147 = .ok (.iinc 7 1, 3) := by decide +kernel
theorem dX7_render_150 : decode cX7_render 150 = .ok (.goto (-127), 3) := by decide +kernel
theorem dX7_render_153 : decode cX7_render 153 = .ok (.return_, 1) := by decide +kernel
theorem dX7_adjusted_0 : decode cX7_adjusted 0 = .ok (.aload_n 2, 1) := by decide +kernel
theorem dX7_adjusted_1 : decode cX7_adjusted 1 = .ok (.iload_n 3, 1) := by decide +kernel
theorem dX7_adjusted_2 : decode cX7_adjusted 2 = .ok (.iload 4, 2) := by decide +kernel
theorem dX7_adjusted_4 : decode cX7_adjusted 4 = .ok (.invokevirtual 65, 3) := by decide +kernel
theorem dX7_adjusted_7 : decode cX7_adjusted 7 = .ok (.istore 5, 2) := by decide +kernel
theorem dX7_adjusted_9 : decode cX7_adjusted 9 = .ok (.aload_n 1, 1) := by decide +kernel
theorem dX7_adjusted_10 : decode cX7_adjusted 10 = .ok (.getfield 101, 3) := by decide +kernel
theorem dX7_adjusted_13 : decode cX7_adjusted 13 = .ok (.istore 6, 2) := by decide +kernel
theorem dX7_adjusted_15 : decode cX7_adjusted 15 = .ok (.aload_n 1, 1) := by decide +kernel
theorem dX7_adjusted_16 : decode cX7_adjusted 16 = .ok (.getfield 104, 3) := by decide +kernel
theorem dX7_adjusted_19 : decode cX7_adjusted 19 = .ok (.istore 7, 2) := by decide +kernel
theorem dX7_adjusted_21 : decode cX7_adjusted 21 = .ok (.aload_n 1, 1) := by decide +kernel
theorem dX7_adjusted_22 : decode cX7_adjusted 22 = .ok (.invokevirtual 107, 3) := by decide +kernel
theorem dX7_adjusted_25 : decode cX7_adjusted 25 = .ok (.ifCond .eq 13, 3) := by decide +kernel
theorem dX7_adjusted_28 : decode cX7_adjusted 28 = .ok (.aload_n 0, 1) := by decide +kernel
theorem dX7_adjusted_29 : decode cX7_adjusted 29 = .ok (.aload_n 2, 1) := by decide +kernel
theorem dX7_adjusted_30 : decode cX7_adjusted 30 = .ok (.iload_n 3, 1) := by decide +kernel
theorem dX7_adjusted_31 : decode cX7_adjusted 31 = .ok (.iload 4, 2) := by decide +kernel
theorem dX7_adjusted_33 : decode cX7_adjusted 33 = .ok (.iload 6, 2) := by decide +kernel
theorem dX7_adjusted_35 : decode cX7_adjusted 35 = .ok (.invokevirtual 111, 3) := by decide +kernel
theorem dX7_adjusted_38 : decode cX7_adjusted 38 = .ok (.aload_n 1, 1) := by decide +kernel
theorem dX7_adjusted_39 : decode cX7_adjusted 39 = .ok (.getfield 52, 3) := by decide +kernel
theorem dX7_adjusted_42 : decode cX7_adjusted 42 = .ok (.tableswitch 287 0 13 #[70, 112, 121, 143, 166, 173, 188, 193, 198, 203, 208, 230, 244, 247], 70) := by decide +kernel
theorem dX7_adjusted_112 : decode cX7_adjusted 112 = .ok (.iload 5, 2) := by decide +kernel
theorem dX7_adjusted_114 : decode cX7_adjusted 114 = .ok (.iload 6, 2) := by decide +kernel
theorem dX7_adjusted_116 : decode cX7_adjusted 116 = .ok (.if_icmp .gt 7, 3) := by decide +kernel
theorem dX7_adjusted_119 : decode cX7_adjusted 119 = .ok (.iconst 0, 1) := by decide +kernel
theorem dX7_adjusted_120 : decode cX7_adjusted 120 = .ok (.goto 33, 3) := by decide +kernel
theorem dX7_adjusted_123 : decode cX7_adjusted 123 = .ok (.iload 5, 2) := by decide +kernel
theorem dX7_adjusted_125 : decode cX7_adjusted 125 = .ok (.iload 7, 2) := by decide +kernel
theorem dX7_adjusted_127 : decode cX7_adjusted 127 = .ok (.if_icmp .lt 9, 3) := by decide +kernel
theorem dX7_adjusted_130 : decode cX7_adjusted 130 = .ok (.sipush 255, 3) := by decide +kernel
theorem dX7_adjusted_133 : decode cX7_adjusted 133 = .ok (.goto 20, 3) := by decide +kernel
theorem dX7_adjusted_136 : decode cX7_adjusted 136 = .ok (.iload 5, 2) := by decide +kernel
theorem dX7_adjusted_138 : decode cX7_adjusted 138 = .ok (.iload 6, 2) := by decide +kernel
theorem dX7_adjusted_140 : decode cX7_adjusted 140 = .ok (.isub, 1) := by decide +kernel
theorem dX7_adjusted_141 : decode cX7_adjusted 141 = .ok (.sipush 255, 3) := by decide +kernel
theorem dX7_adjusted_144 : decode cX7_adjusted 144 = .ok (.imul, 1) := by decide +kernel
theorem dX7_adjusted_145 : decode cX7_adjusted 145 = .ok (.iload 7, 2) := by decide +kernel
theorem dX7_adjusted_147 : decode cX7_adjusted 147 = .ok (.iload 6, 2) := by decide +kernel
theorem dX7_adjusted_149 : decode cX7_adjusted 149 = .ok (.isub, 1) := by decide +kernel
theorem dX7_adjusted_150 : decode cX7_adjusted 150 = .ok (.invokestatic 94, 3) := by decide +kernel
theorem dX7_adjusted_153 : decode cX7_adjusted 153 = .ok (.ireturn, 1) := by decide +kernel
theorem dX7_adjusted_154 : decode cX7_adjusted 154 = .ok (.iload 5, 2) := by decide +kernel
theorem dX7_adjusted_156 : decode cX7_adjusted 156 = .ok (.iload 6, 2) := by decide +kernel
theorem dX7_adjusted_158 : decode cX7_adjusted 158 = .ok (.iadd, 1) := by decide +kernel
theorem dX7_adjusted_159 : decode cX7_adjusted 159 = .ok (.invokestatic 115, 3) := by decide +kernel
theorem dX7_adjusted_162 : decode cX7_adjusted 162 = .ok (.ireturn, 1) := by decide +kernel
theorem dX7_adjusted_163 : decode cX7_adjusted 163 = .ok (.sipush 128, 3) := by decide +kernel
theorem dX7_adjusted_166 : decode cX7_adjusted 166 = .ok (.iload 5, 2) := by decide +kernel
theorem dX7_adjusted_168 : decode cX7_adjusted 168 = .ok (.sipush 128, 3) := by decide +kernel
theorem dX7_adjusted_171 : decode cX7_adjusted 171 = .ok (.isub, 1) := by decide +kernel
theorem dX7_adjusted_172 : decode cX7_adjusted 172 = .ok (.iload 6, 2) := by decide +kernel
theorem dX7_adjusted_174 : decode cX7_adjusted 174 = .ok (.imul, 1) := by decide +kernel
theorem dX7_adjusted_175 : decode cX7_adjusted 175 = .ok (.bipush 100, 2) := by decide +kernel
theorem dX7_adjusted_177 : decode cX7_adjusted 177 = .ok (.invokestatic 94, 3) := by decide +kernel
theorem dX7_adjusted_180 : decode cX7_adjusted 180 = .ok (.iadd, 1) := by decide +kernel
theorem dX7_adjusted_181 : decode cX7_adjusted 181 = .ok (.invokestatic 115, 3) := by decide +kernel
theorem dX7_adjusted_184 : decode cX7_adjusted 184 = .ok (.ireturn, 1) := by decide +kernel
theorem dX7_adjusted_185 : decode cX7_adjusted 185 = .ok (.iload 5, 2) := by decide +kernel
theorem dX7_adjusted_187 : decode cX7_adjusted 187 = .ok (.iload 6, 2) := by decide +kernel
theorem dX7_adjusted_189 : decode cX7_adjusted 189 = .ok (.imul, 1) := by decide +kernel
theorem dX7_adjusted_190 : decode cX7_adjusted 190 = .ok (.sipush 256, 3) := by decide +kernel
theorem dX7_adjusted_193 : decode cX7_adjusted 193 = .ok (.invokestatic 94, 3) := by decide +kernel
theorem dX7_adjusted_196 : decode cX7_adjusted 196 = .ok (.sipush 255, 3) := by decide +kernel
theorem dX7_adjusted_199 : decode cX7_adjusted 199 = .ok (.imul, 1) := by decide +kernel
theorem dX7_adjusted_200 : decode cX7_adjusted 200 = .ok (.iload 6, 2) := by decide +kernel
theorem dX7_adjusted_202 : decode cX7_adjusted 202 = .ok (.iconst 1, 1) := by decide +kernel
theorem dX7_adjusted_203 : decode cX7_adjusted 203 = .ok (.isub, 1) := by decide +kernel
theorem dX7_adjusted_204 : decode cX7_adjusted 204 = .ok (.invokestatic 94, 3) := by decide +kernel
theorem dX7_adjusted_207 : decode cX7_adjusted 207 = .ok (.ireturn, 1) := by decide +kernel
theorem dX7_adjusted_208 : decode cX7_adjusted 208 = .ok (.sipush 255, 3) := by decide +kernel
theorem dX7_adjusted_211 : decode cX7_adjusted 211 = .ok (.iload 5, 2) := by decide +kernel
theorem dX7_adjusted_213 : decode cX7_adjusted 213 = .ok (.isub, 1) := by decide +kernel
theorem dX7_adjusted_214 : decode cX7_adjusted 214 = .ok (.ireturn, 1) := by decide +kernel
theorem dX7_adjusted_215 : decode cX7_adjusted 215 = .ok (.iload 5, 2) := by decide +kernel
theorem dX7_adjusted_217 : decode cX7_adjusted 217 = .ok (.iload 6, 2) := by decide +kernel
theorem dX7_adjusted_219 : decode cX7_adjusted 219 = .ok (.if_icmp .lt 9, 3) := by decide +kernel
theorem dX7_adjusted_222 : decode cX7_adjusted 222 = .ok (.sipush 255, 3) := by decide +kernel
theorem dX7_adjusted_225 : decode cX7_adjusted 225 = .ok (.goto 4, 3) := by decide +kernel
theorem dX7_adjusted_228 : decode cX7_adjusted 228 = .ok (.iconst 0, 1) := by decide +kernel
theorem dX7_adjusted_229 : decode cX7_adjusted 229 = .ok (.ireturn, 1) := by decide +kernel
theorem dX7_adjusted_230 : decode cX7_adjusted 230 = .ok (.aload_n 0, 1) := by decide +kernel
theorem dX7_adjusted_231 : decode cX7_adjusted 231 = .ok (.invokevirtual 119, 3) := by decide +kernel
theorem dX7_adjusted_234 : decode cX7_adjusted 234 = .ok (.ireturn, 1) := by decide +kernel
theorem dX7_adjusted_235 : decode cX7_adjusted 235 = .ok (.aload_n 0, 1) := by decide +kernel
theorem dX7_adjusted_236 : decode cX7_adjusted 236 = .ok (.invokevirtual 122, 3) := by decide +kernel
theorem dX7_adjusted_239 : decode cX7_adjusted 239 = .ok (.ireturn, 1) := by decide +kernel
theorem dX7_adjusted_240 : decode cX7_adjusted 240 = .ok (.aload_n 0, 1) := by decide +kernel
theorem dX7_adjusted_241 : decode cX7_adjusted 241 = .ok (.invokevirtual 125, 3) := by decide +kernel
theorem dX7_adjusted_244 : decode cX7_adjusted 244 = .ok (.ireturn, 1) := by decide +kernel
theorem dX7_adjusted_245 : decode cX7_adjusted 245 = .ok (.aload_n 0, 1) := by decide +kernel
theorem dX7_adjusted_246 : decode cX7_adjusted 246 = .ok (.invokevirtual 128, 3) := by decide +kernel
theorem dX7_adjusted_249 : decode cX7_adjusted 249 = .ok (.ireturn, 1) := by decide +kernel
theorem dX7_adjusted_250 : decode cX7_adjusted 250 = .ok (.iload 5, 2) := by decide +kernel
theorem dX7_adjusted_252 : decode cX7_adjusted 252 = .ok (.iload 5, 2) := by decide +kernel
theorem dX7_adjusted_254 : decode cX7_adjusted 254 = .ok (.aload_n 0, 1) := by decide +kernel
theorem dX7_adjusted_255 : decode cX7_adjusted 255 = .ok (.invokevirtual 119, 3) := by decide +kernel
theorem dX7_adjusted_258 : decode cX7_adjusted 258 = .ok (.isub, 1) := by decide +kernel
theorem dX7_adjusted_259 : decode cX7_adjusted 259 = .ok (.iload 7, 2) := by decide +kernel
theorem dX7_adjusted_261 : decode cX7_adjusted 261 = .ok (.imul, 1) := by decide +kernel
theorem dX7_adjusted_262 : decode cX7_adjusted 262 = .ok (.bipush 100, 2) := by decide +kernel
theorem dX7_adjusted_264 : decode cX7_adjusted 264 = .ok (.invokestatic 94, 3) := by decide +kernel
theorem dX7_adjusted_267 : decode cX7_adjusted 267 = .ok (.iadd, 1) := by decide +kernel
theorem dX7_adjusted_268 : decode cX7_adjusted 268 = .ok (.invokestatic 115, 3) := by decide +kernel
theorem dX7_adjusted_271 : decode cX7_adjusted 271 = .ok (.ireturn, 1) := by decide +kernel
theorem dX7_adjusted_272 : decode cX7_adjusted 272 = .ok (.aload_n 2, 1) := by decide +kernel
theorem dX7_adjusted_273 : decode cX7_adjusted 273 = .ok (.iload_n 3, 1) := by decide +kernel
theorem dX7_adjusted_274 : decode cX7_adjusted 274 = .ok (.iload 6, 2) := by decide +kernel
theorem dX7_adjusted_276 : decode cX7_adjusted 276 = .ok (.isub, 1) := by decide +kernel
theorem dX7_adjusted_277 : decode cX7_adjusted 277 = .ok (.iload 4, 2) := by decide +kernel
theorem dX7_adjusted_279 : decode cX7_adjusted 279 = .ok (.iload 7, 2) := by decide +kernel
theorem dX7_adjusted_281 : decode cX7_adjusted 281 = .ok (.isub, 1) := by decide +kernel
theorem dX7_adjusted_282 : decode cX7_adjusted 282 = .ok (.invokevirtual 131, 3) := by decide +kernel
theorem dX7_adjusted_285 : decode cX7_adjusted 285 = .ok (.ireturn, 1) := by decide +kernel
theorem dX7_adjusted_286 : decode cX7_adjusted 286 = .ok (.iload 6, 2) := by decide +kernel
theorem dX7_adjusted_288 : decode cX7_adjusted 288 = .ok (.ireturn, 1) := by decide +kernel
theorem dX7_adjusted_289 : decode cX7_adjusted 289 = .ok (.aload_n 0, 1) := by decide +kernel
theorem dX7_adjusted_290 : decode cX7_adjusted 290 = .ok (.getfield 134, 3) := by decide +kernel
theorem dX7_adjusted_293 : decode cX7_adjusted 293 = .ok (.aload_n 0, 1) := by decide +kernel
theorem dX7_adjusted_294 : decode cX7_adjusted 294 = .ok (.getfield 137, 3) := by decide +kernel
theorem dX7_adjusted_297 : decode cX7_adjusted 297 = .ok (.if_icmp .le 29, 3) := by decide +kernel
theorem dX7_adjusted_300 : decode cX7_adjusted 300 = .ok (.iload 5, 2) := by decide +kernel
theorem dX7_adjusted_302 : decode cX7_adjusted 302 = .ok (.aload_n 0, 1) := by decide +kernel
theorem dX7_adjusted_303 : decode cX7_adjusted 303 = .ok (.getfield 137, 3) := by decide +kernel
theorem dX7_adjusted_306 : decode cX7_adjusted 306 = .ok (.isub, 1) := by decide +kernel
theorem dX7_adjusted_307 : decode cX7_adjusted 307 = .ok (.sipush 255, 3) := by decide +kernel
theorem dX7_adjusted_310 : decode cX7_adjusted 310 = .ok (.imul, 1) := by decide +kernel
theorem dX7_adjusted_311 : decode cX7_adjusted 311 = .ok (.aload_n 0, 1) := by decide +kernel
theorem dX7_adjusted_312 : decode cX7_adjusted 312 = .ok (.getfield 134, 3) := by decide +kernel
theorem dX7_adjusted_315 : decode cX7_adjusted 315 = .ok (.aload_n 0, 1) := by decide +kernel
theorem dX7_adjusted_316 : decode cX7_adjusted 316 = .ok (.getfield 137, 3) := by decide +kernel
theorem dX7_adjusted_319 : decode cX7_adjusted 319 = .ok (.isub, 1) := by decide +kernel
theorem dX7_adjusted_320 : decode cX7_adjusted 320 = .ok (.invokestatic 94, 3) := by decide +kernel
theorem dX7_adjusted_323 : decode cX7_adjusted 323 = .ok (.goto 5, 3) := by decide +kernel
theorem dX7_adjusted_326 : decode cX7_adjusted 326 = .ok (.iload 5, 2) := by decide +kernel
theorem dX7_adjusted_328 : decode cX7_adjusted 328 = .ok (.ireturn, 1) := by decide +kernel
theorem dX7_adjusted_329 : decode cX7_adjusted 329 = .ok (.iload 5, 2) := by decide +kernel
theorem dX7_adjusted_331 : decode cX7_adjusted 331 = .ok (.ireturn, 1) := by decide +kernel
theorem dX7_findExtremes_0 : decode cX7_findExtremes 0 = .ok (.aload_n 0, 1) := by decide +kernel
theorem dX7_findExtremes_1 : decode cX7_findExtremes 1 = .ok (.sipush 255, 3) := by decide +kernel
theorem dX7_findExtremes_4 : decode cX7_findExtremes 4 = .ok (.putfield 137, 3) := by decide +kernel
theorem dX7_findExtremes_7 : decode cX7_findExtremes 7 = .ok (.aload_n 0, 1) := by decide +kernel
theorem dX7_findExtremes_8 : decode cX7_findExtremes 8 = .ok (.iconst 0, 1) := by decide +kernel
theorem dX7_findExtremes_9 : decode cX7_findExtremes 9 = .ok (.putfield 134, 3) := by decide +kernel
theorem dX7_findExtremes_12 : decode cX7_findExtremes 12 = .ok (.iconst 0, 1) := by decide +kernel
theorem dX7_findExtremes_13 : decode cX7_findExtremes 13 = .ok (.istore_n 2, 1) := by decide +kernel
theorem dX7_findExtremes_14 : decode cX7_findExtremes 14 = .ok (.iload_n 2, 1) := by decide +kernel
theorem dX7_findExtremes_15 : decode cX7_findExtremes 15 = .ok (.aload_n 1, 1) := by decide +kernel
theorem dX7_findExtremes_16 : decode cX7_findExtremes 16 = .ok (.getfield 59, 3) := by decide +kernel
theorem dX7_findExtremes_19 : decode cX7_findExtremes 19 = .ok (.if_icmp .ge 59, 3) := by decide +kernel
theorem dX7_findExtremes_22 : decode cX7_findExtremes 22 = .ok (.iconst 0, 1) := by decide +kernel
theorem dX7_findExtremes_23 : decode cX7_findExtremes 23 = .ok (.istore_n 3, 1) := by decide +kernel
theorem dX7_findExtremes_24 : decode cX7_findExtremes 24 = .ok (.iload_n 3, 1) := by decide +kernel
theorem dX7_findExtremes_25 : decode cX7_findExtremes 25 = .ok (.aload_n 1, 1) := by decide +kernel
theorem dX7_findExtremes_26 : decode cX7_findExtremes 26 = .ok (.getfield 62, 3) := by decide +kernel
theorem dX7_findExtremes_29 : decode cX7_findExtremes 29 = .ok (.if_icmp .ge 43, 3) := by decide +kernel
theorem dX7_findExtremes_32 : decode cX7_findExtremes 32 = .ok (.aload_n 1, 1) := by decide +kernel
theorem dX7_findExtremes_33 : decode cX7_findExtremes 33 = .ok (.iload_n 3, 1) := by decide +kernel
theorem dX7_findExtremes_34 : decode cX7_findExtremes 34 = .ok (.iload_n 2, 1) := by decide +kernel
theorem dX7_findExtremes_35 : decode cX7_findExtremes 35 = .ok (.invokevirtual 65, 3) := by decide +kernel
theorem dX7_findExtremes_38 : decode cX7_findExtremes 38 = .ok (.istore 4, 2) := by decide +kernel
theorem dX7_findExtremes_40 : decode cX7_findExtremes 40 = .ok (.aload_n 0, 1) := by decide +kernel
theorem dX7_findExtremes_41 : decode cX7_findExtremes 41 = .ok (.aload_n 0, 1) := by decide +kernel
theorem dX7_findExtremes_42 : decode cX7_findExtremes 42 = .ok (.getfield 137, 3) := by decide +kernel
theorem dX7_findExtremes_45 : decode cX7_findExtremes 45 = .ok (.iload 4, 2) := by decide +kernel
theorem dX7_findExtremes_47 : decode cX7_findExtremes 47 = .ok (.invokestatic 140, 3) := by decide +kernel
theorem dX7_findExtremes_50 : decode cX7_findExtremes 50 = .ok (.putfield 137, 3) := by decide +kernel
theorem dX7_findExtremes_53 : decode cX7_findExtremes 53 = .ok (.aload_n 0, 1) := by decide +kernel
theorem dX7_findExtremes_54 : decode cX7_findExtremes 54 = .ok (.aload_n 0, 1) := by decide +kernel
theorem dX7_findExtremes_55 : decode cX7_findExtremes 55 = .ok (.getfield 134, 3) := by decide +kernel
theorem dX7_findExtremes_58 : decode cX7_findExtremes 58 = .ok (.iload 4, 2) := by decide +kernel
theorem dX7_findExtremes_60 : decode cX7_findExtremes 60 = .ok (.invokestatic 145, 3) := by decide +kernel
theorem dX7_findExtremes_63 : decode cX7_findExtremes 63 = .ok (.putfield 134, 3) := by decide +kernel
theorem dX7_findExtremes_66 : decode cX7_findExtremes 66 = .ok (.iinc 3 1, 3) := by decide +kernel
theorem dX7_findExtremes_69 : decode cX7_findExtremes 69 = .ok (.goto (-45), 3) := by decide +kernel
theorem dX7_findExtremes_72 : decode cX7_findExtremes 72 = .ok (.iinc 2 1, 3) := by decide +kernel
theorem dX7_findExtremes_75 : decode cX7_findExtremes 75 = .ok (.goto (-61), 3) := by decide +kernel
theorem dX7_findExtremes_78 : decode cX7_findExtremes 78 = .ok (.return_, 1) := by decide +kernel
theorem dX7_gatherNeighbours_0 : decode cX7_gatherNeighbours 0 = .ok (.aload_n 0, 1) := by decide +kernel
theorem dX7_gatherNeighbours_1 : decode cX7_gatherNeighbours 1 = .ok (.iconst 0, 1) := by decide +kernel
theorem dX7_gatherNeighbours_2 : decode cX7_gatherNeighbours 2 = .ok (.putfield 148, 3) := by decide +kernel
theorem dX7_gatherNeighbours_5 : decode cX7_gatherNeighbours 5 = .ok (.iload_n 2, 1) := by decide +kernel
theorem dX7_gatherNeighbours_6 : decode cX7_gatherNeighbours 6 = .ok (.iload 4, 2) := by decide +kernel
theorem dX7_gatherNeighbours_8 : decode cX7_gatherNeighbours 8 = .ok (.iadd, 1) := by decide +kernel
theorem dX7_gatherNeighbours_9 : decode cX7_gatherNeighbours 9 = .ok (.aload_n 1, 1) := by decide +kernel
theorem dX7_gatherNeighbours_10 : decode cX7_gatherNeighbours 10 = .ok (.getfield 62, 3) := by decide +kernel
theorem dX7_gatherNeighbours_13 : decode cX7_gatherNeighbours 13 = .ok (.iconst 1, 1) := by decide +kernel
theorem dX7_gatherNeighbours_14 : decode cX7_gatherNeighbours 14 = .ok (.isub, 1) := by decide +kernel
theorem dX7_gatherNeighbours_15 : decode cX7_gatherNeighbours 15 = .ok (.invokestatic 140, 3) := by decide +kernel
theorem dX7_gatherNeighbours_18 : decode cX7_gatherNeighbours 18 = .ok (.istore 5, 2) := by decide +kernel
theorem dX7_gatherNeighbours_20 : decode cX7_gatherNeighbours 20 = .ok (.iload_n 3, 1) := by decide +kernel
theorem dX7_gatherNeighbours_21 : decode cX7_gatherNeighbours 21 = .ok (.iload 4, 2) := by decide +kernel
theorem dX7_gatherNeighbours_23 : decode cX7_gatherNeighbours 23 = .ok (.iadd, 1) := by decide +kernel
theorem dX7_gatherNeighbours_24 : decode cX7_gatherNeighbours 24 = .ok (.aload_n 1, 1) := by decide +kernel
theorem dX7_gatherNeighbours_25 : decode cX7_gatherNeighbours 25 = .ok (.getfield 59, 3) := by decide +kernel
theorem dX7_gatherNeighbours_28 : decode cX7_gatherNeighbours 28 = .ok (.iconst 1, 1) := by decide +kernel
theorem dX7_gatherNeighbours_29 : decode cX7_gatherNeighbours 29 = .ok (.isub, 1) := by decide +kernel
theorem dX7_gatherNeighbours_30 : decode cX7_gatherNeighbours 30 = .ok (.invokestatic 140, 3) := by decide +kernel
theorem dX7_gatherNeighbours_33 : decode cX7_gatherNeighbours 33 = .ok (.istore 6, 2) := by decide +kernel
theorem dX7_gatherNeighbours_35 : decode cX7_gatherNeighbours 35 = .ok (.iconst 0, 1) := by decide +kernel
theorem dX7_gatherNeighbours_36 : decode cX7_gatherNeighbours 36 = .ok (.iload_n 3, 1) := by decide +kernel
theorem dX7_gatherNeighbours_37 : decode cX7_gatherNeighbours 37 = .ok (.iload 4, 2) := by decide +kernel
theorem dX7_gatherNeighbours_39 : decode cX7_gatherNeighbours 39 = .ok (.isub, 1) := by decide +kernel
theorem dX7_gatherNeighbours_40 : decode cX7_gatherNeighbours 40 = .ok (.invokestatic 145, 3) := by decide +kernel
theorem dX7_gatherNeighbours_43 : decode cX7_gatherNeighbours 43 = .ok (.istore 7, 2) := by decide +kernel
theorem dX7_gatherNeighbours_45 : decode cX7_gatherNeighbours 45 = .ok (.iload 7, 2) := by decide +kernel
theorem dX7_gatherNeighbours_47 : decode cX7_gatherNeighbours 47 = .ok (.iload 6, 2) := by decide +kernel
theorem dX7_gatherNeighbours_49 : decode cX7_gatherNeighbours 49 = .ok (.if_icmp .gt 71, 3) := by decide +kernel
theorem dX7_gatherNeighbours_52 : decode cX7_gatherNeighbours 52 = .ok (.iconst 0, 1) := by decide +kernel
theorem dX7_gatherNeighbours_53 : decode cX7_gatherNeighbours 53 = .ok (.iload_n 2, 1) := by decide +kernel
theorem dX7_gatherNeighbours_54 : decode cX7_gatherNeighbours 54 = .ok (.iload 4, 2) := by decide +kernel
theorem dX7_gatherNeighbours_56 : decode cX7_gatherNeighbours 56 = .ok (.isub, 1) := by decide +kernel
theorem dX7_gatherNeighbours_57 : decode cX7_gatherNeighbours 57 = .ok (.invokestatic 145, 3) := by decide +kernel
theorem dX7_gatherNeighbours_60 : decode cX7_gatherNeighbours 60 = .ok (.istore 8, 2) := by decide +kernel
theorem dX7_gatherNeighbours_62 : decode cX7_gatherNeighbours 62 = .ok (.iload 8, 2) := by decide +kernel
theorem dX7_gatherNeighbours_64 : decode cX7_gatherNeighbours 64 = .ok (.iload 5, 2) := by decide +kernel
theorem dX7_gatherNeighbours_66 : decode cX7_gatherNeighbours 66 = .ok (.if_icmp .gt 48, 3) := by decide +kernel
theorem dX7_gatherNeighbours_69 : decode cX7_gatherNeighbours 69 = .ok (.aload_n 0, 1) := by decide +kernel
theorem dX7_gatherNeighbours_70 : decode cX7_gatherNeighbours 70 = .ok (.getfield 148, 3) := by decide +kernel
theorem dX7_gatherNeighbours_73 : decode cX7_gatherNeighbours 73 = .ok (.aload_n 0, 1) := by decide +kernel
theorem dX7_gatherNeighbours_74 : decode cX7_gatherNeighbours 74 = .ok (.getfield 18, 3) := by decide +kernel
theorem dX7_gatherNeighbours_77 : decode cX7_gatherNeighbours 77 = .ok (.arraylength, 1) := by decide +kernel
theorem dX7_gatherNeighbours_78 : decode cX7_gatherNeighbours 78 = .ok (.if_icmp .ge 30, 3) := by decide +kernel
theorem dX7_gatherNeighbours_81 : decode cX7_gatherNeighbours 81 = .ok (.aload_n 0, 1) := by decide +kernel
theorem dX7_gatherNeighbours_82 : decode cX7_gatherNeighbours 82 = .ok (.getfield 18, 3) := by decide +kernel
theorem dX7_gatherNeighbours_85 : decode cX7_gatherNeighbours 85 = .ok (.aload_n 0, 1) := by decide +kernel
theorem dX7_gatherNeighbours_86 : decode cX7_gatherNeighbours 86 = .ok (.getfield 148, 3) := by decide +kernel
theorem dX7_gatherNeighbours_89 : decode cX7_gatherNeighbours 89 = .ok (.aload_n 1, 1) := by decide +kernel
theorem dX7_gatherNeighbours_90 : decode cX7_gatherNeighbours 90 = .ok (.iload 8, 2) := by decide +kernel
theorem dX7_gatherNeighbours_92 : decode cX7_gatherNeighbours 92 = .ok (.iload 7, 2) := by decide +kernel
theorem dX7_gatherNeighbours_94 : decode cX7_gatherNeighbours 94 = .ok (.invokevirtual 65, 3) := by decide +kernel
theorem dX7_gatherNeighbours_97 : decode cX7_gatherNeighbours 97 = .ok (.iastore, 1) := by decide +kernel
theorem dX7_gatherNeighbours_98 : decode cX7_gatherNeighbours 98 = .ok (.aload_n 0, 1) := by decide +kernel
theorem dX7_gatherNeighbours_99 : decode cX7_gatherNeighbours 99 = .ok (.dup, 1) := by decide +kernel
theorem dX7_gatherNeighbours_100 : decode cX7_gatherNeighbours 100 = .ok (.getfield 148, 3) := by decide +kernel
theorem dX7_gatherNeighbours_103 : decode cX7_gatherNeighbours 103 = .ok (.iconst 1, 1) := by decide +kernel
theorem dX7_gatherNeighbours_104 : decode cX7_gatherNeighbours 104 = .ok (.iadd, 1) := by decide +kernel
theorem dX7_gatherNeighbours_105 : decode cX7_gatherNeighbours 105 = .ok (.putfield 148, 3) := by decide +kernel
theorem dX7_gatherNeighbours_108 : decode cX7_gatherNeighbours 108 = .ok (.iinc 8 1, 3) := by decide +kernel
theorem dX7_gatherNeighbours_111 : decode cX7_gatherNeighbours 111 = .ok (.goto (-49), 3) := by decide +kernel
theorem dX7_gatherNeighbours_114 : decode cX7_gatherNeighbours 114 = .ok (.iinc 7 1, 3) := by decide +kernel
theorem dX7_gatherNeighbours_117 : decode cX7_gatherNeighbours 117 = .ok (.goto (-72), 3) := by decide +kernel
theorem dX7_gatherNeighbours_120 : decode cX7_gatherNeighbours 120 = .ok (.return_, 1) := by decide +kernel
theorem dX7_average_0 : decode cX7_average 0 = .ok (.iconst 0, 1) := by decide +kernel
theorem dX7_average_1 : decode cX7_average 1 = .ok (.istore_n 1, 1) := by decide +kernel
theorem dX7_average_2 : decode cX7_average 2 = .ok (.iconst 0, 1) := by decide +kernel
theorem dX7_average_3 : decode cX7_average 3 = .ok (.istore_n 2, 1) := by decide +kernel
theorem dX7_average_4 : decode cX7_average 4 = .ok (.iload_n 2, 1) := by decide +kernel
theorem dX7_average_5 : decode cX7_average 5 = .ok (.aload_n 0, 1) := by decide +kernel
theorem dX7_average_6 : decode cX7_average 6 = .ok (.getfield 148, 3) := by decide +kernel
theorem dX7_average_9 : decode cX7_average 9 = .ok (.if_icmp .ge 27, 3) := by decide +kernel
theorem dX7_average_12 : decode cX7_average 12 = .ok (.iload_n 2, 1) := by decide +kernel
theorem dX7_average_13 : decode cX7_average 13 = .ok (.aload_n 0, 1) := by decide +kernel
theorem dX7_average_14 : decode cX7_average 14 = .ok (.getfield 18, 3) := by decide +kernel
theorem dX7_average_17 : decode cX7_average 17 = .ok (.arraylength, 1) := by decide +kernel
theorem dX7_average_18 : decode cX7_average 18 = .ok (.if_icmp .ge 18, 3) := by decide +kernel
theorem dX7_average_21 : decode cX7_average 21 = .ok (.iload_n 1, 1) := by decide +kernel
theorem dX7_average_22 : decode cX7_average 22 = .ok (.aload_n 0, 1) := by decide +kernel
theorem dX7_average_23 : decode cX7_average 23 = .ok (.getfield 18, 3) := by decide +kernel
theorem dX7_average_26 : decode cX7_average 26 = .ok (.iload_n 2, 1) := by decide +kernel
theorem dX7_average_27 : decode cX7_average 27 = .ok (.iaload, 1) := by decide +kernel
theorem dX7_average_28 : decode cX7_average 28 = .ok (.iadd, 1) := by decide +kernel
theorem dX7_average_29 : decode cX7_average 29 = .ok (.istore_n 1, 1) := by decide +kernel
theorem dX7_average_30 : decode cX7_average 30 = .ok (.iinc 2 1, 3) := by decide +kernel
theorem dX7_average_33 : decode cX7_average 33 = .ok (.goto (-29), 3) := by decide +kernel
theorem dX7_average_36 : decode cX7_average 36 = .ok (.aload_n 0, 1) := by decide +kernel
theorem dX7_average_37 : decode cX7_average 37 = .ok (.getfield 148, 3) := by decide +kernel
theorem dX7_average_40 : decode cX7_average 40 = .ok (.ifCond .le 12, 3) := by decide +kernel
theorem dX7_average_43 : decode cX7_average 43 = .ok (.iload_n 1, 1) := by decide +kernel
theorem dX7_average_44 : decode cX7_average 44 = .ok (.aload_n 0, 1) := by decide +kernel
theorem dX7_average_45 : decode cX7_average 45 = .ok (.getfield 148, 3) := by decide +kernel
theorem dX7_average_48 : decode cX7_average 48 = .ok (.idiv, 1) := by decide +kernel
theorem dX7_average_49 : decode cX7_average 49 = .ok (.goto 4, 3) := by decide +kernel
theorem dX7_average_52 : decode cX7_average 52 = .ok (.iconst 0, 1) := by decide +kernel
theorem dX7_average_53 : decode cX7_average 53 = .ok (.ireturn, 1) := by decide +kernel
theorem dX7_median_0 : decode cX7_median 0 = .ok (.aload_n 0, 1) := by decide +kernel
theorem dX7_median_1 : decode cX7_median 1 = .ok (.invokevirtual 151, 3) := by decide +kernel
theorem dX7_median_4 : decode cX7_median 4 = .ok (.aload_n 0, 1) := by decide +kernel
theorem dX7_median_5 : decode cX7_median 5 = .ok (.getfield 148, 3) := by decide +kernel
theorem dX7_median_8 : decode cX7_median 8 = .ok (.iconst 1, 1) := by decide +kernel
theorem dX7_median_9 : decode cX7_median 9 = .ok (.isub, 1) := by decide +kernel
theorem dX7_median_10 : decode cX7_median 10 = .ok (.iconst 2, 1) := by decide +kernel
theorem dX7_median_11 : decode cX7_median 11 = .ok (.idiv, 1) := by decide +kernel
theorem dX7_median_12 : decode cX7_median 12 = .ok (.istore_n 1, 1) := by decide +kernel
theorem dX7_median_13 : decode cX7_median 13 = .ok (.iload_n 1, 1) := by decide +kernel
theorem dX7_median_14 : decode cX7_median 14 = .ok (.ifCond .lt 21, 3) := by decide +kernel
theorem dX7_median_17 : decode cX7_median 17 = .ok (.iload_n 1, 1) := by decide +kernel
theorem dX7_median_18 : decode cX7_median 18 = .ok (.aload_n 0, 1) := by decide +kernel
theorem dX7_median_19 : decode cX7_median 19 = .ok (.getfield 18, 3) := by decide +kernel
theorem dX7_median_22 : decode cX7_median 22 = .ok (.arraylength, 1) := by decide +kernel
theorem dX7_median_23 : decode cX7_median 23 = .ok (.if_icmp .ge 12, 3) := by decide +kernel
theorem dX7_median_26 : decode cX7_median 26 = .ok (.aload_n 0, 1) := by decide +kernel
theorem dX7_median_27 : decode cX7_median 27 = .ok (.getfield 18, 3) := by decide +kernel
theorem dX7_median_30 : decode cX7_median 30 = .ok (.iload_n 1, 1) := by decide +kernel
theorem dX7_median_31 : decode cX7_median 31 = .ok (.iaload, 1) := by decide +kernel
theorem dX7_median_32 : decode cX7_median 32 = .ok (.goto 4, 3) := by decide +kernel
theorem dX7_median_35 : decode cX7_median 35 = .ok (.iconst 0, 1) := by decide +kernel
theorem dX7_median_36 : decode cX7_median 36 = .ok (.ireturn, 1) := by decide +kernel
theorem dX7_sortNeighbours_0 : decode cX7_sortNeighbours 0 = .ok (.iconst 1, 1) := by decide +kernel
theorem dX7_sortNeighbours_1 : decode cX7_sortNeighbours 1 = .ok (.istore_n 1, 1) := by decide +kernel
theorem dX7_sortNeighbours_2 : decode cX7_sortNeighbours 2 = .ok (.iload_n 1, 1) := by decide +kernel
theorem dX7_sortNeighbours_3 : decode cX7_sortNeighbours 3 = .ok (.aload_n 0, 1) := by decide +kernel
theorem dX7_sortNeighbours_4 : decode cX7_sortNeighbours 4 = .ok (.getfield 148, 3) := by decide +kernel
theorem dX7_sortNeighbours_7 : decode cX7_sortNeighbours 7 = .ok (.if_icmp .ge 70, 3) := by decide +kernel
theorem dX7_sortNeighbours_10 : decode cX7_sortNeighbours 10 = .ok (.iload_n 1, 1) := by decide +kernel
theorem dX7_sortNeighbours_11 : decode cX7_sortNeighbours 11 = .ok (.aload_n 0, 1) := by decide +kernel
theorem dX7_sortNeighbours_12 : decode cX7_sortNeighbours 12 = .ok (.getfield 18, 3) := by decide +kernel
theorem dX7_sortNeighbours_15 : decode cX7_sortNeighbours 15 = .ok (.arraylength, 1) := by decide +kernel
theorem dX7_sortNeighbours_16 : decode cX7_sortNeighbours 16 = .ok (.if_icmp .ge 61, 3) := by decide +kernel
theorem dX7_sortNeighbours_19 : decode cX7_sortNeighbours 19 = .ok (.aload_n 0, 1) := by decide +kernel
theorem dX7_sortNeighbours_20 : decode cX7_sortNeighbours 20 = .ok (.getfield 18, 3) := by decide +kernel
theorem dX7_sortNeighbours_23 : decode cX7_sortNeighbours 23 = .ok (.iload_n 1, 1) := by decide +kernel
theorem dX7_sortNeighbours_24 : decode cX7_sortNeighbours 24 = .ok (.iaload, 1) := by decide +kernel
theorem dX7_sortNeighbours_25 : decode cX7_sortNeighbours 25 = .ok (.istore_n 2, 1) := by decide +kernel
theorem dX7_sortNeighbours_26 : decode cX7_sortNeighbours 26 = .ok (.iload_n 1, 1) := by decide +kernel
theorem dX7_sortNeighbours_27 : decode cX7_sortNeighbours 27 = .ok (.istore_n 3, 1) := by decide +kernel
theorem dX7_sortNeighbours_28 : decode cX7_sortNeighbours 28 = .ok (.iload_n 3, 1) := by decide +kernel
theorem dX7_sortNeighbours_29 : decode cX7_sortNeighbours 29 = .ok (.ifCond .le 35, 3) := by decide +kernel
theorem dX7_sortNeighbours_32 : decode cX7_sortNeighbours 32 = .ok (.aload_n 0, 1) := by decide +kernel
theorem dX7_sortNeighbours_33 : decode cX7_sortNeighbours 33 = .ok (.getfield 18, 3) := by decide +kernel
theorem dX7_sortNeighbours_36 : decode cX7_sortNeighbours 36 = .ok (.iload_n 3, 1) := by decide +kernel
theorem dX7_sortNeighbours_37 : decode cX7_sortNeighbours 37 = .ok (.iconst 1, 1) := by decide +kernel
theorem dX7_sortNeighbours_38 : decode cX7_sortNeighbours 38 = .ok (.isub, 1) := by decide +kernel
theorem dX7_sortNeighbours_39 : decode cX7_sortNeighbours 39 = .ok (.iaload, 1) := by decide +kernel
theorem dX7_sortNeighbours_40 : decode cX7_sortNeighbours 40 = .ok (.iload_n 2, 1) := by decide +kernel
theorem dX7_sortNeighbours_41 : decode cX7_sortNeighbours 41 = .ok (.if_icmp .le 23, 3) := by decide +kernel
theorem dX7_sortNeighbours_44 : decode cX7_sortNeighbours 44 = .ok (.aload_n 0, 1) := by decide +kernel
theorem dX7_sortNeighbours_45 : decode cX7_sortNeighbours 45 = .ok (.getfield 18, 3) := by decide +kernel
theorem dX7_sortNeighbours_48 : decode cX7_sortNeighbours 48 = .ok (.iload_n 3, 1) := by decide +kernel
theorem dX7_sortNeighbours_49 : decode cX7_sortNeighbours 49 = .ok (.aload_n 0, 1) := by decide +kernel
theorem dX7_sortNeighbours_50 : decode cX7_sortNeighbours 50 = .ok (.getfield 18, 3) := by decide +kernel
theorem dX7_sortNeighbours_53 : decode cX7_sortNeighbours 53 = .ok (.iload_n 3, 1) := by decide +kernel
theorem dX7_sortNeighbours_54 : decode cX7_sortNeighbours 54 = .ok (.iconst 1, 1) := by decide +kernel
theorem dX7_sortNeighbours_55 : decode cX7_sortNeighbours 55 = .ok (.isub, 1) := by decide +kernel
theorem dX7_sortNeighbours_56 : decode cX7_sortNeighbours 56 = .ok (.iaload, 1) := by decide +kernel
theorem dX7_sortNeighbours_57 : decode cX7_sortNeighbours 57 = .ok (.iastore, 1) := by decide +kernel
theorem dX7_sortNeighbours_58 : decode cX7_sortNeighbours 58 = .ok (.iinc 3 (-1), 3) := by decide +kernel
theorem dX7_sortNeighbours_61 : decode cX7_sortNeighbours 61 = .ok (.goto (-33), 3) := by decide +kernel
theorem dX7_sortNeighbours_64 : decode cX7_sortNeighbours 64 = .ok (.aload_n 0, 1) := by decide +kernel
theorem dX7_sortNeighbours_65 : decode cX7_sortNeighbours 65 = .ok (.getfield 18, 3) := by decide +kernel
theorem dX7_sortNeighbours_68 : decode cX7_sortNeighbours 68 = .ok (.iload_n 3, 1) := by decide +kernel
theorem dX7_sortNeighbours_69 : decode cX7_sortNeighbours 69 = .ok (.iload_n 2, 1) := by decide +kernel
theorem dX7_sortNeighbours_70 : decode cX7_sortNeighbours 70 = .ok (.iastore, 1) := by decide +kernel
theorem dX7_sortNeighbours_71 : decode cX7_sortNeighbours 71 = .ok (.iinc 1 1, 3) := by decide +kernel
theorem dX7_sortNeighbours_74 : decode cX7_sortNeighbours 74 = .ok (.goto (-72), 3) := by decide +kernel
theorem dX7_sortNeighbours_77 : decode cX7_sortNeighbours 77 = .ok (.return_, 1) := by decide +kernel
theorem dX7_greatest_0 : decode cX7_greatest 0 = .ok (.iconst 0, 1) := by decide +kernel
theorem dX7_greatest_1 : decode cX7_greatest 1 = .ok (.istore_n 1, 1) := by decide +kernel
theorem dX7_greatest_2 : decode cX7_greatest 2 = .ok (.iconst 0, 1) := by decide +kernel
theorem dX7_greatest_3 : decode cX7_greatest 3 = .ok (.istore_n 2, 1) := by decide +kernel
theorem dX7_greatest_4 : decode cX7_greatest 4 = .ok (.iload_n 2, 1) := by decide +kernel
theorem dX7_greatest_5 : decode cX7_greatest 5 = .ok (.aload_n 0, 1) := by decide +kernel
theorem dX7_greatest_6 : decode cX7_greatest 6 = .ok (.getfield 148, 3) := by decide +kernel
theorem dX7_greatest_9 : decode cX7_greatest 9 = .ok (.if_icmp .ge 29, 3) := by decide +kernel
theorem dX7_greatest_12 : decode cX7_greatest 12 = .ok (.iload_n 2, 1) := by decide +kernel
theorem dX7_greatest_13 : decode cX7_greatest 13 = .ok (.aload_n 0, 1) := by decide +kernel
theorem dX7_greatest_14 : decode cX7_greatest 14 = .ok (.getfield 18, 3) := by decide +kernel
theorem dX7_greatest_17 : decode cX7_greatest 17 = .ok (.arraylength, 1) := by decide +kernel
theorem dX7_greatest_18 : decode cX7_greatest 18 = .ok (.if_icmp .ge 20, 3) := by decide +kernel
theorem dX7_greatest_21 : decode cX7_greatest 21 = .ok (.iload_n 1, 1) := by decide +kernel
theorem dX7_greatest_22 : decode cX7_greatest 22 = .ok (.aload_n 0, 1) := by decide +kernel
theorem dX7_greatest_23 : decode cX7_greatest 23 = .ok (.getfield 18, 3) := by decide +kernel
theorem dX7_greatest_26 : decode cX7_greatest 26 = .ok (.iload_n 2, 1) := by decide +kernel
theorem dX7_greatest_27 : decode cX7_greatest 27 = .ok (.iaload, 1) := by decide +kernel
theorem dX7_greatest_28 : decode cX7_greatest 28 = .ok (.invokestatic 145, 3) := by decide +kernel
theorem dX7_greatest_31 : decode cX7_greatest 31 = .ok (.istore_n 1, 1) := by decide +kernel
theorem dX7_greatest_32 : decode cX7_greatest 32 = .ok (.iinc 2 1, 3) := by decide +kernel
theorem dX7_greatest_35 : decode cX7_greatest 35 = .ok (.goto (-31), 3) := by decide +kernel
theorem dX7_greatest_38 : decode cX7_greatest 38 = .ok (.iload_n 1, 1) := by decide +kernel
theorem dX7_greatest_39 : decode cX7_greatest 39 = .ok (.ireturn, 1) := by decide +kernel
theorem dX7_smallest_0 : decode cX7_smallest 0 = .ok (.sipush 255, 3) := by decide +kernel
theorem dX7_smallest_3 : decode cX7_smallest 3 = .ok (.istore_n 1, 1) := by decide +kernel
theorem dX7_smallest_4 : decode cX7_smallest 4 = .ok (.iconst 0, 1) := by decide +kernel
theorem dX7_smallest_5 : decode cX7_smallest 5 = .ok (.istore_n 2, 1) := by decide +kernel
theorem dX7_smallest_6 : decode cX7_smallest 6 = .ok (.iload_n 2, 1) := by decide +kernel
theorem dX7_smallest_7 : decode cX7_smallest 7 = .ok (.aload_n 0, 1) := by decide +kernel
theorem dX7_smallest_8 : decode cX7_smallest 8 = .ok (.getfield 148, 3) := by decide +kernel
theorem dX7_smallest_11 : decode cX7_smallest 11 = .ok (.if_icmp .ge 29, 3) := by decide +kernel
theorem dX7_smallest_14 : decode cX7_smallest 14 = .ok (.iload_n 2, 1) := by decide +kernel
theorem dX7_smallest_15 : decode cX7_smallest 15 = .ok (.aload_n 0, 1) := by decide +kernel
theorem dX7_smallest_16 : decode cX7_smallest 16 = .ok (.getfield 18, 3) := by decide +kernel
theorem dX7_smallest_19 : decode cX7_smallest 19 = .ok (.arraylength, 1) := by decide +kernel
theorem dX7_smallest_20 : decode cX7_smallest 20 = .ok (.if_icmp .ge 20, 3) := by decide +kernel
theorem dX7_smallest_23 : decode cX7_smallest 23 = .ok (.iload_n 1, 1) := by decide +kernel
theorem dX7_smallest_24 : decode cX7_smallest 24 = .ok (.aload_n 0, 1) := by decide +kernel
theorem dX7_smallest_25 : decode cX7_smallest 25 = .ok (.getfield 18, 3) := by decide +kernel
theorem dX7_smallest_28 : decode cX7_smallest 28 = .ok (.iload_n 2, 1) := by decide +kernel
theorem dX7_smallest_29 : decode cX7_smallest 29 = .ok (.iaload, 1) := by decide +kernel
theorem dX7_smallest_30 : decode cX7_smallest 30 = .ok (.invokestatic 140, 3) := by decide +kernel
theorem dX7_smallest_33 : decode cX7_smallest 33 = .ok (.istore_n 1, 1) := by decide +kernel
theorem dX7_smallest_34 : decode cX7_smallest 34 = .ok (.iinc 2 1, 3) := by decide +kernel
theorem dX7_smallest_37 : decode cX7_smallest 37 = .ok (.goto (-31), 3) := by decide +kernel
theorem dX7_smallest_40 : decode cX7_smallest 40 = .ok (.iload_n 1, 1) := by decide +kernel
theorem dX7_smallest_41 : decode cX7_smallest 41 = .ok (.ireturn, 1) := by decide +kernel
theorem dX8_init_0 : decode cX8_init 0 = .ok (.aload_n 0, 1) := by decide +kernel
theorem dX8_init_1 : decode cX8_init 1 = .ok (.invokespecial 3, 3) := by decide +kernel
theorem dX8_init_4 : decode cX8_init 4 = .ok (.aload_n 0, 1) := by decide +kernel
theorem dX8_init_5 : decode cX8_init 5 = .ok (.sipush 160, 3) := by decide +kernel
theorem dX8_init_8 : decode cX8_init 8 = .ok (.newarray .char, 2) := by decide +kernel
theorem dX8_init_10 : decode cX8_init 10 = .ok (.putfield 9, 3) := by decide +kernel
theorem dX8_init_13 : decode cX8_init 13 = .ok (.return_, 1) := by decide +kernel
theorem dX8_add_0 : decode cX8_add 0 = .ok (.aload_n 0, 1) := by decide +kernel
theorem dX8_add_1 : decode cX8_add 1 = .ok (.getfield 15, 3) := by decide +kernel
theorem dX8_add_4 : decode cX8_add 4 = .ok (.ifCond .lt 36, 3) := by decide +kernel
theorem dX8_add_7 : decode cX8_add 7 = .ok (.aload_n 0, 1) := by decide +kernel
theorem dX8_add_8 : decode cX8_add 8 = .ok (.getfield 15, 3) := by decide +kernel
theorem dX8_add_11 : decode cX8_add 11 = .ok (.aload_n 0, 1) := by decide +kernel
theorem dX8_add_12 : decode cX8_add 12 = .ok (.getfield 9, 3) := by decide +kernel
theorem dX8_add_15 : decode cX8_add 15 = .ok (.arraylength, 1) := by decide +kernel
theorem dX8_add_16 : decode cX8_add 16 = .ok (.if_icmp .ge 24, 3) := by decide +kernel
theorem dX8_add_19 : decode cX8_add 19 = .ok (.aload_n 0, 1) := by decide +kernel
theorem dX8_add_20 : decode cX8_add 20 = .ok (.getfield 9, 3) := by decide +kernel
theorem dX8_add_23 : decode cX8_add 23 = .ok (.aload_n 0, 1) := by decide +kernel
theorem dX8_add_24 : decode cX8_add 24 = .ok (.getfield 15, 3) := by decide +kernel
theorem dX8_add_27 : decode cX8_add 27 = .ok (.iload_n 1, 1) := by decide +kernel
theorem dX8_add_28 : decode cX8_add 28 = .ok (.i2c, 1) := by decide +kernel
theorem dX8_add_29 : decode cX8_add 29 = .ok (.castore, 1) := by decide +kernel
theorem dX8_add_30 : decode cX8_add 30 = .ok (.aload_n 0, 1) := by decide +kernel
theorem dX8_add_31 : decode cX8_add 31 = .ok (.dup, 1) := by decide +kernel
theorem dX8_add_32 : decode cX8_add 32 = .ok (.getfield 15, 3) := by decide +kernel
theorem dX8_add_35 : decode cX8_add 35 = .ok (.iconst 1, 1) := by decide +kernel
theorem dX8_add_36 : decode cX8_add 36 = .ok (.iadd, 1) := by decide +kernel
theorem dX8_add_37 : decode cX8_add 37 = .ok (.putfield 15, 3) := by decide +kernel
theorem dX8_add_40 : decode cX8_add 40 = .ok (.return_, 1) := by decide +kernel
theorem dX8_readInto_0 : decode cX8_readInto 0 = .ok (.aload_n 1, 1) := by decide +kernel
theorem dX8_readInto_1 : decode cX8_readInto 1 = .ok (.invokevirtual 19, 3) := by decide +kernel
theorem dX8_readInto_4 : decode cX8_readInto 4 = .ok (.aload_n 0, 1) := by decide +kernel
theorem dX8_readInto_5 : decode cX8_readInto 5 = .ok (.iconst 0, 1) := by decide +kernel
theorem dX8_readInto_6 : decode cX8_readInto 6 = .ok (.putfield 24, 3) := by decide +kernel
theorem dX8_readInto_9 : decode cX8_readInto 9 = .ok (.aload_n 0, 1) := by decide +kernel
theorem dX8_readInto_10 : decode cX8_readInto 10 = .ok (.iconst 0, 1) := by decide +kernel
theorem dX8_readInto_11 : decode cX8_readInto 11 = .ok (.putfield 28, 3) := by decide +kernel
theorem dX8_readInto_14 : decode cX8_readInto 14 = .ok (.aload_n 0, 1) := by decide +kernel
theorem dX8_readInto_15 : decode cX8_readInto 15 = .ok (.invokevirtual 31, 3) := by decide +kernel
theorem dX8_readInto_18 : decode cX8_readInto 18 = .ok (.iconst 0, 1) := by decide +kernel
theorem dX8_readInto_19 : decode cX8_readInto 19 = .ok (.istore_n 2, 1) := by decide +kernel
theorem dX8_readInto_20 : decode cX8_readInto 20 = .ok (.iload_n 2, 1) := by decide +kernel
theorem dX8_readInto_21 : decode cX8_readInto 21 = .ok (.bipush 8, 2) := by decide +kernel
theorem dX8_readInto_23 : decode cX8_readInto 23 = .ok (.if_icmp .gt 28, 3) := by decide +kernel
theorem dX8_readInto_26 : decode cX8_readInto 26 = .ok (.aload_n 0, 1) := by decide +kernel
theorem dX8_readInto_27 : decode cX8_readInto 27 = .ok (.getfield 34, 3) := by decide +kernel
theorem dX8_readInto_30 : decode cX8_readInto 30 = .ok (.ifCond .eq 21, 3) := by decide +kernel
theorem dX8_readInto_33 : decode cX8_readInto 33 = .ok (.aload_n 0, 1) := by decide +kernel
theorem dX8_readInto_34 : decode cX8_readInto 34 = .ok (.getfield 24, 3) := by decide +kernel
theorem dX8_readInto_37 : decode cX8_readInto 37 = .ok (.ifCond .ne 14, 3) := by decide +kernel
theorem dX8_readInto_40 : decode cX8_readInto 40 = .ok (.aload_n 0, 1) := by decide +kernel
theorem dX8_readInto_41 : decode cX8_readInto 41 = .ok (.aload_n 1, 1) := by decide +kernel
theorem dX8_readInto_42 : decode cX8_readInto 42 = .ok (.invokevirtual 37, 3) := by decide +kernel
theorem dX8_readInto_45 : decode cX8_readInto 45 = .ok (.iinc 2 1, 3) := by decide +kernel
theorem dX8_readInto_48 : decode cX8_readInto 48 = .ok (.goto (-28), 3) := by decide +kernel
theorem dX8_readInto_51 : decode cX8_readInto 51 = .ok (.aload_n 0, 1) := by decide +kernel
theorem dX8_readInto_52 : decode cX8_readInto 52 = .ok (.getfield 24, 3) := by decide +kernel
theorem dX8_readInto_55 : decode cX8_readInto 55 = .ok (.ifCond .eq 10, 3) := by decide +kernel
theorem dX8_readInto_58 : decode cX8_readInto 58 = .ok (.aload_n 0, 1) := by decide +kernel
theorem dX8_readInto_59 : decode cX8_readInto 59 = .ok (.getfield 41, 3) := by decide +kernel
theorem dX8_readInto_62 : decode cX8_readInto 62 = .ok (.goto 4, 3) := by decide +kernel
theorem dX8_readInto_65 : decode cX8_readInto 65 = .ok (.iconst (-1), 1) := by decide +kernel
theorem dX8_readInto_66 : decode cX8_readInto 66 = .ok (.ireturn, 1) := by decide +kernel
theorem dX8_readLayer_0 : decode cX8_readLayer 0 = .ok (.aload_n 0, 1) := by decide +kernel
theorem dX8_readLayer_1 : decode cX8_readLayer 1 = .ok (.invokevirtual 44, 3) := by decide +kernel
theorem dX8_readLayer_4 : decode cX8_readLayer 4 = .ok (.istore_n 2, 1) := by decide +kernel
theorem dX8_readLayer_5 : decode cX8_readLayer 5 = .ok (.iload_n 2, 1) := by decide +kernel
theorem dX8_readLayer_6 : decode cX8_readLayer 6 = .ok (.ifCond .lt 10, 3) := by decide +kernel
theorem dX8_readLayer_9 : decode cX8_readLayer 9 = .ok (.aload_n 1, 1) := by decide +kernel
theorem dX8_readLayer_10 : decode cX8_readLayer 10 = .ok (.invokevirtual 48, 3) := by decide +kernel
theorem dX8_readLayer_13 : decode cX8_readLayer 13 = .ok (.ifCond .eq 9, 3) := by decide +kernel
theorem dX8_readLayer_16 : decode cX8_readLayer 16 = .ok (.aload_n 0, 1) := by decide +kernel
theorem dX8_readLayer_17 : decode cX8_readLayer 17 = .ok (.iconst 1, 1) := by decide +kernel
theorem dX8_readLayer_18 : decode cX8_readLayer 18 = .ok (.putfield 24, 3) := by decide +kernel
theorem dX8_readLayer_21 : decode cX8_readLayer 21 = .ok (.return_, 1) := by decide +kernel
theorem dX8_readLayer_22 : decode cX8_readLayer 22 = .ok (.aload_n 0, 1) := by decide +kernel
theorem dX8_readLayer_23 : decode cX8_readLayer 23 = .ok (.invokevirtual 31, 3) := by decide +kernel
theorem dX8_readLayer_26 : decode cX8_readLayer 26 = .ok (.iload_n 2, 1) := by decide +kernel
theorem dX8_readLayer_27 : decode cX8_readLayer 27 = .ok (.invokestatic 52, 3) := by decide +kernel
theorem dX8_readLayer_30 : decode cX8_readLayer 30 = .ok (.istore_n 3, 1) := by decide +kernel
theorem dX8_readLayer_31 : decode cX8_readLayer 31 = .ok (.iload_n 3, 1) := by decide +kernel
theorem dX8_readLayer_32 : decode cX8_readLayer 32 = .ok (.ifCond .le 18, 3) := by decide +kernel
theorem dX8_readLayer_35 : decode cX8_readLayer 35 = .ok (.aload_n 0, 1) := by decide +kernel
theorem dX8_readLayer_36 : decode cX8_readLayer 36 = .ok (.iload_n 2, 1) := by decide +kernel
theorem dX8_readLayer_37 : decode cX8_readLayer 37 = .ok (.invokestatic 58, 3) := by decide +kernel
theorem dX8_readLayer_40 : decode cX8_readLayer 40 = .ok (.iload_n 2, 1) := by decide +kernel
theorem dX8_readLayer_41 : decode cX8_readLayer 41 = .ok (.invokestatic 61, 3) := by decide +kernel
theorem dX8_readLayer_44 : decode cX8_readLayer 44 = .ok (.invokevirtual 64, 3) := by decide +kernel
theorem dX8_readLayer_47 : decode cX8_readLayer 47 = .ok (.goto 4, 3) := by decide +kernel
theorem dX8_readLayer_50 : decode cX8_readLayer 50 = .ok (.iconst 0, 1) := by decide +kernel
theorem dX8_readLayer_51 : decode cX8_readLayer 51 = .ok (.istore 4, 2) := by decide +kernel
theorem dX8_readLayer_53 : decode cX8_readLayer 53 = .ok (.iload_n 3, 1) := by decide +kernel
theorem dX8_readLayer_54 : decode cX8_readLayer 54 = .ok (.iconst 1, 1) := by decide +kernel
theorem dX8_readLayer_55 : decode cX8_readLayer 55 = .ok (.if_icmp .le 20, 3) := by decide +kernel
theorem dX8_readLayer_58 : decode cX8_readLayer 58 = .ok (.aload_n 0, 1) := by decide +kernel
theorem dX8_readLayer_59 : decode cX8_readLayer 59 = .ok (.iload_n 2, 1) := by decide +kernel
theorem dX8_readLayer_60 : decode cX8_readLayer 60 = .ok (.iload 4, 2) := by decide +kernel
theorem dX8_readLayer_62 : decode cX8_readLayer 62 = .ok (.invokestatic 68, 3) := by decide +kernel
theorem dX8_readLayer_65 : decode cX8_readLayer 65 = .ok (.iload_n 2, 1) := by decide +kernel
theorem dX8_readLayer_66 : decode cX8_readLayer 66 = .ok (.invokestatic 71, 3) := by decide +kernel
theorem dX8_readLayer_69 : decode cX8_readLayer 69 = .ok (.invokevirtual 64, 3) := by decide +kernel
theorem dX8_readLayer_72 : decode cX8_readLayer 72 = .ok (.goto 4, 3) := by decide +kernel
theorem dX8_readLayer_75 : decode cX8_readLayer 75 = .ok (.iconst 0, 1) := by decide +kernel
theorem dX8_readLayer_76 : decode cX8_readLayer 76 = .ok (.istore 5, 2) := by decide +kernel
theorem dX8_readLayer_78 : decode cX8_readLayer 78 = .ok (.aload_n 0, 1) := by decide +kernel
theorem dX8_readLayer_79 : decode cX8_readLayer 79 = .ok (.getfield 24, 3) := by decide +kernel
theorem dX8_readLayer_82 : decode cX8_readLayer 82 = .ok (.ifCond .eq 7, 3) := by decide +kernel
theorem dX8_readLayer_85 : decode cX8_readLayer 85 = .ok (.aconst_null, 1) := by decide +kernel
theorem dX8_readLayer_86 : decode cX8_readLayer 86 = .ok (.goto 12, 3) := by decide +kernel
theorem dX8_readLayer_89 : decode cX8_readLayer 89 = .ok (.aload_n 1, 1) := by decide +kernel
theorem dX8_readLayer_90 : decode cX8_readLayer 90 = .ok (.iload_n 2, 1) := by decide +kernel
theorem dX8_readLayer_91 : decode cX8_readLayer 91 = .ok (.iload 4, 2) := by decide +kernel
theorem dX8_readLayer_93 : decode cX8_readLayer 93 = .ok (.iload 5, 2) := by decide +kernel
theorem dX8_readLayer_95 : decode cX8_readLayer 95 = .ok (.invokevirtual 74, 3) := by decide +kernel
theorem dX8_readLayer_98 : decode cX8_readLayer 98 = .ok (.astore 6, 2) := by decide +kernel
theorem dX8_readLayer_100 : decode cX8_readLayer 100 = .ok (.aload 6, 2) := by decide +kernel
theorem dX8_readLayer_102 : decode cX8_readLayer 102 = .ok (.ifnonnull 4, 3) := by decide +kernel
theorem dX8_readLayer_105 : decode cX8_readLayer 105 = .ok (.return_, 1) := by decide +kernel
theorem dX8_readLayer_106 : decode cX8_readLayer 106 = .ok (.aload_n 0, 1) := by decide +kernel
theorem dX8_readLayer_107 : decode cX8_readLayer 107 = .ok (.aload 6, 2) := by decide +kernel
theorem dX8_readLayer_109 : decode cX8_readLayer 109 = .ok (.invokevirtual 78, 3) := by decide +kernel
theorem dX8_readLayer_112 : decode cX8_readLayer 112 = .ok (.aload_n 0, 1) := by decide +kernel
theorem dX8_readLayer_113 : decode cX8_readLayer 113 = .ok (.getfield 24, 3) := by decide +kernel
theorem dX8_readLayer_116 : decode cX8_readLayer 116 = .ok (.ifCond .ne 11, 3) := by decide +kernel
theorem dX8_readLayer_119 : decode cX8_readLayer 119 = .ok (.aload_n 0, 1) := by decide +kernel
theorem dX8_readLayer_120 : decode cX8_readLayer 120 = .ok (.getfield 34, 3) := by decide +kernel
theorem dX8_readLayer_123 : decode cX8_readLayer 123 = .ok (.iconst 4, 1) := by decide +kernel
theorem dX8_readLayer_124 : decode cX8_readLayer 124 = .ok (.if_icmp .eq 9, 3) := by decide +kernel
theorem dX8_readLayer_127 : decode cX8_readLayer 127 = .ok (.aload_n 0, 1) := by decide +kernel
theorem dX8_readLayer_128 : decode cX8_readLayer 128 = .ok (.iconst 1, 1) := by decide +kernel
theorem dX8_readLayer_129 : decode cX8_readLayer 129 = .ok (.putfield 24, 3) := by decide +kernel
theorem dX8_readLayer_132 : decode cX8_readLayer 132 = .ok (.return_, 1) := by decide +kernel
theorem dX8_readLayer_133 : decode cX8_readLayer 133 = .ok (.aload_n 0, 1) := by decide +kernel
theorem dX8_readLayer_134 : decode cX8_readLayer 134 = .ok (.invokevirtual 31, 3) := by decide +kernel
theorem dX8_readLayer_137 : decode cX8_readLayer 137 = .ok (.return_, 1) := by decide +kernel
theorem dX8_readNumber_0 : decode cX8_readNumber 0 = .ok (.aload_n 0, 1) := by decide +kernel
theorem dX8_readNumber_1 : decode cX8_readNumber 1 = .ok (.getfield 24, 3) := by decide +kernel
theorem dX8_readNumber_4 : decode cX8_readNumber 4 = .ok (.ifCond .eq 5, 3) := by decide +kernel
theorem dX8_readNumber_7 : decode cX8_readNumber 7 = .ok (.iconst 0, 1) := by decide +kernel
theorem dX8_readNumber_8 : decode cX8_readNumber 8 = .ok (.ireturn, 1) := by decide +kernel
theorem dX8_readNumber_9 : decode cX8_readNumber 9 = .ok (.iload_n 1, 1) := by decide +kernel
theorem dX8_readNumber_10 : decode cX8_readNumber 10 = .ok (.ifCond .ge 15, 3) := by decide +kernel
theorem dX8_readNumber_13 : decode cX8_readNumber 13 = .ok (.aload_n 0, 1) := by decide +kernel
theorem dX8_readNumber_14 : decode cX8_readNumber 14 = .ok (.getfield 34, 3) := by decide +kernel
theorem dX8_readNumber_17 : decode cX8_readNumber 17 = .ok (.iconst 3, 1) := by decide +kernel
theorem dX8_readNumber_18 : decode cX8_readNumber 18 = .ok (.if_icmp .ne 7, 3) := by decide +kernel
theorem dX8_readNumber_21 : decode cX8_readNumber 21 = .ok (.iconst 1, 1) := by decide +kernel
theorem dX8_readNumber_22 : decode cX8_readNumber 22 = .ok (.goto 4, 3) := by decide +kernel
theorem dX8_readNumber_25 : decode cX8_readNumber 25 = .ok (.iconst 0, 1) := by decide +kernel
theorem dX8_readNumber_26 : decode cX8_readNumber 26 = .ok (.istore_n 3, 1) := by decide +kernel
theorem dX8_readNumber_27 : decode cX8_readNumber 27 = .ok (.iload_n 3, 1) := by decide +kernel
theorem dX8_readNumber_28 : decode cX8_readNumber 28 = .ok (.ifCond .eq 7, 3) := by decide +kernel
theorem dX8_readNumber_31 : decode cX8_readNumber 31 = .ok (.aload_n 0, 1) := by decide +kernel
theorem dX8_readNumber_32 : decode cX8_readNumber 32 = .ok (.invokevirtual 31, 3) := by decide +kernel
theorem dX8_readNumber_35 : decode cX8_readNumber 35 = .ok (.iload_n 3, 1) := by decide +kernel
theorem dX8_readNumber_36 : decode cX8_readNumber 36 = .ok (.ifCond .eq 11, 3) := by decide +kernel
theorem dX8_readNumber_39 : decode cX8_readNumber 39 = .ok (.aload_n 0, 1) := by decide +kernel
theorem dX8_readNumber_40 : decode cX8_readNumber 40 = .ok (.getfield 82, 3) := by decide +kernel
theorem dX8_readNumber_43 : decode cX8_readNumber 43 = .ok (.ineg, 1) := by decide +kernel
theorem dX8_readNumber_44 : decode cX8_readNumber 44 = .ok (.goto 7, 3) := by decide +kernel
theorem dX8_readNumber_47 : decode cX8_readNumber 47 = .ok (.aload_n 0, 1) := by decide +kernel
theorem dX8_readNumber_48 : decode cX8_readNumber 48 = .ok (.getfield 82, 3) := by decide +kernel
theorem dX8_readNumber_51 : decode cX8_readNumber 51 = .ok (.istore 4, 2) := by decide +kernel
theorem dX8_readNumber_53 : decode cX8_readNumber 53 = .ok (.aload_n 0, 1) := by decide +kernel
theorem dX8_readNumber_54 : decode cX8_readNumber 54 = .ok (.getfield 34, 3) := by decide +kernel
theorem dX8_readNumber_57 : decode cX8_readNumber 57 = .ok (.iconst 2, 1) := by decide +kernel
theorem dX8_readNumber_58 : decode cX8_readNumber 58 = .ok (.if_icmp .ne 13, 3) := by decide +kernel
theorem dX8_readNumber_61 : decode cX8_readNumber 61 = .ok (.iload 4, 2) := by decide +kernel
theorem dX8_readNumber_63 : decode cX8_readNumber 63 = .ok (.iload_n 1, 1) := by decide +kernel
theorem dX8_readNumber_64 : decode cX8_readNumber 64 = .ok (.iload_n 2, 1) := by decide +kernel
theorem dX8_readNumber_65 : decode cX8_readNumber 65 = .ok (.invokestatic 85, 3) := by decide +kernel
theorem dX8_readNumber_68 : decode cX8_readNumber 68 = .ok (.ifCond .ne 10, 3) := by decide +kernel
theorem dX8_readNumber_71 : decode cX8_readNumber 71 = .ok (.aload_n 0, 1) := by decide +kernel
theorem dX8_readNumber_72 : decode cX8_readNumber 72 = .ok (.iconst 1, 1) := by decide +kernel
theorem dX8_readNumber_73 : decode cX8_readNumber 73 = .ok (.putfield 24, 3) := by decide +kernel
theorem dX8_readNumber_76 : decode cX8_readNumber 76 = .ok (.iconst 0, 1) := by decide +kernel
theorem dX8_readNumber_77 : decode cX8_readNumber 77 = .ok (.ireturn, 1) := by decide +kernel
theorem dX8_readNumber_78 : decode cX8_readNumber 78 = .ok (.aload_n 0, 1) := by decide +kernel
theorem dX8_readNumber_79 : decode cX8_readNumber 79 = .ok (.invokevirtual 31, 3) := by decide +kernel
theorem dX8_readNumber_82 : decode cX8_readNumber 82 = .ok (.iload 4, 2) := by decide +kernel
theorem dX8_readNumber_84 : decode cX8_readNumber 84 = .ok (.ireturn, 1) := by decide +kernel
theorem dX8_readOptions_0 : decode cX8_readOptions 0 = .ok (.iconst 0, 1) := by decide +kernel
theorem dX8_readOptions_1 : decode cX8_readOptions 1 = .ok (.istore_n 2, 1) := by decide +kernel
theorem dX8_readOptions_2 : decode cX8_readOptions 2 = .ok (.iconst 0, 1) := by decide +kernel
theorem dX8_readOptions_3 : decode cX8_readOptions 3 = .ok (.istore_n 3, 1) := by decide +kernel
theorem dX8_readOptions_4 : decode cX8_readOptions 4 = .ok (.iload_n 3, 1) := by decide +kernel
theorem dX8_readOptions_5 : decode cX8_readOptions 5 = .ok (.iconst 3, 1) := by decide +kernel
theorem dX8_readOptions_6 : decode cX8_readOptions 6 = .ok (.if_icmp .ge 100, 3) := by decide +kernel
theorem dX8_readOptions_9 : decode cX8_readOptions 9 = .ok (.aload_n 0, 1) := by decide +kernel
theorem dX8_readOptions_10 : decode cX8_readOptions 10 = .ok (.getfield 34, 3) := by decide +kernel
theorem dX8_readOptions_13 : decode cX8_readOptions 13 = .ok (.iconst 1, 1) := by decide +kernel
theorem dX8_readOptions_14 : decode cX8_readOptions 14 = .ok (.if_icmp .ne 92, 3) := by decide +kernel
theorem dX8_readOptions_17 : decode cX8_readOptions 17 = .ok (.aload_n 0, 1) := by decide +kernel
theorem dX8_readOptions_18 : decode cX8_readOptions 18 = .ok (.getfield 24, 3) := by decide +kernel
theorem dX8_readOptions_21 : decode cX8_readOptions 21 = .ok (.ifCond .ne 85, 3) := by decide +kernel
theorem dX8_readOptions_24 : decode cX8_readOptions 24 = .ok (.aload_n 0, 1) := by decide +kernel
theorem dX8_readOptions_25 : decode cX8_readOptions 25 = .ok (.invokevirtual 89, 3) := by decide +kernel
theorem dX8_readOptions_28 : decode cX8_readOptions 28 = .ok (.istore 4, 2) := by decide +kernel
theorem dX8_readOptions_30 : decode cX8_readOptions 30 = .ok (.iload 4, 2) := by decide +kernel
theorem dX8_readOptions_32 : decode cX8_readOptions 32 = .ok (.ifCond .lt 13, 3) := by decide +kernel
theorem dX8_readOptions_35 : decode cX8_readOptions 35 = .ok (.iload_n 2, 1) := by decide +kernel
theorem dX8_readOptions_36 : decode cX8_readOptions 36 = .ok (.iload 4, 2) := by decide +kernel
theorem dX8_readOptions_38 : decode cX8_readOptions 38 = .ok (.ishr, 1) := by decide +kernel
theorem dX8_readOptions_39 : decode cX8_readOptions 39 = .ok (.iconst 1, 1) := by decide +kernel
theorem dX8_readOptions_40 : decode cX8_readOptions 40 = .ok (.iand, 1) := by decide +kernel
theorem dX8_readOptions_41 : decode cX8_readOptions 41 = .ok (.iconst 1, 1) := by decide +kernel
theorem dX8_readOptions_42 : decode cX8_readOptions 42 = .ok (.if_icmp .ne 9, 3) := by decide +kernel
theorem dX8_readOptions_45 : decode cX8_readOptions 45 = .ok (.aload_n 0, 1) := by decide +kernel
theorem dX8_readOptions_46 : decode cX8_readOptions 46 = .ok (.iconst 1, 1) := by decide +kernel
theorem dX8_readOptions_47 : decode cX8_readOptions 47 = .ok (.putfield 24, 3) := by decide +kernel
theorem dX8_readOptions_50 : decode cX8_readOptions 50 = .ok (.return_, 1) := by decide +kernel
theorem dX8_readOptions_51 : decode cX8_readOptions 51 = .ok (.iload_n 2, 1) := by decide +kernel
theorem dX8_readOptions_52 : decode cX8_readOptions 52 = .ok (.iconst 1, 1) := by decide +kernel
theorem dX8_readOptions_53 : decode cX8_readOptions 53 = .ok (.iload 4, 2) := by decide +kernel
theorem dX8_readOptions_55 : decode cX8_readOptions 55 = .ok (.ishl, 1) := by decide +kernel
theorem dX8_readOptions_56 : decode cX8_readOptions 56 = .ok (.ior, 1) := by decide +kernel
theorem dX8_readOptions_57 : decode cX8_readOptions 57 = .ok (.istore_n 2, 1) := by decide +kernel
theorem dX8_readOptions_58 : decode cX8_readOptions 58 = .ok (.aload_n 0, 1) := by decide +kernel
theorem dX8_readOptions_59 : decode cX8_readOptions 59 = .ok (.invokevirtual 31, 3) := by decide +kernel
theorem dX8_readOptions_62 : decode cX8_readOptions 62 = .ok (.iload 4, 2) := by decide +kernel
theorem dX8_readOptions_64 : decode cX8_readOptions 64 = .ok (.iconst 2, 1) := by decide +kernel
theorem dX8_readOptions_65 : decode cX8_readOptions 65 = .ok (.if_icmp .ne 11, 3) := by decide +kernel
theorem dX8_readOptions_68 : decode cX8_readOptions 68 = .ok (.aload_n 1, 1) := by decide +kernel
theorem dX8_readOptions_69 : decode cX8_readOptions 69 = .ok (.iconst 0, 1) := by decide +kernel
theorem dX8_readOptions_70 : decode cX8_readOptions 70 = .ok (.putfield 92, 3) := by decide +kernel
theorem dX8_readOptions_73 : decode cX8_readOptions 73 = .ok (.goto 27, 3) := by decide +kernel
theorem dX8_readOptions_76 : decode cX8_readOptions 76 = .ok (.iload 4, 2) := by decide +kernel
theorem dX8_readOptions_78 : decode cX8_readOptions 78 = .ok (.ifCond .ne 17, 3) := by decide +kernel
theorem dX8_readOptions_81 : decode cX8_readOptions 81 = .ok (.aload_n 1, 1) := by decide +kernel
theorem dX8_readOptions_82 : decode cX8_readOptions 82 = .ok (.aload_n 0, 1) := by decide +kernel
theorem dX8_readOptions_83 : decode cX8_readOptions 83 = .ok (.iconst 0, 1) := by decide +kernel
theorem dX8_readOptions_84 : decode cX8_readOptions 84 = .ok (.bipush 100, 2) := by decide +kernel
theorem dX8_readOptions_86 : decode cX8_readOptions 86 = .ok (.invokevirtual 64, 3) := by decide +kernel
theorem dX8_readOptions_89 : decode cX8_readOptions 89 = .ok (.putfield 97, 3) := by decide +kernel
theorem dX8_readOptions_92 : decode cX8_readOptions 92 = .ok (.goto 8, 3) := by decide +kernel
theorem dX8_readOptions_95 : decode cX8_readOptions 95 = .ok (.aload_n 0, 1) := by decide +kernel
theorem dX8_readOptions_96 : decode cX8_readOptions 96 = .ok (.aload_n 1, 1) := by decide +kernel
theorem dX8_readOptions_97 : decode cX8_readOptions 97 = .ok (.invokevirtual 100, 3) := by decide +kernel
theorem dX8_readOptions_100 : decode cX8_readOptions 100 = .ok (.iinc 3 1, 3) := by decide +kernel
theorem dX8_readOptions_103 : decode cX8_readOptions 103 = .ok (.goto (-99), 3) := by decide +kernel
theorem dX8_readOptions_106 : decode cX8_readOptions 106 = .ok (.return_, 1) := by decide +kernel
theorem dX8_readMode_0 : decode cX8_readMode 0 = .ok (.aload_n 0, 1) := by decide +kernel
theorem dX8_readMode_1 : decode cX8_readMode 1 = .ok (.invokevirtual 103, 3) := by decide +kernel
theorem dX8_readMode_4 : decode cX8_readMode 4 = .ok (.istore_n 2, 1) := by decide +kernel
theorem dX8_readMode_5 : decode cX8_readMode 5 = .ok (.iload_n 2, 1) := by decide +kernel
theorem dX8_readMode_6 : decode cX8_readMode 6 = .ok (.ifCond .ge 9, 3) := by decide +kernel
theorem dX8_readMode_9 : decode cX8_readMode 9 = .ok (.aload_n 0, 1) := by decide +kernel
theorem dX8_readMode_10 : decode cX8_readMode 10 = .ok (.iconst 1, 1) := by decide +kernel
theorem dX8_readMode_11 : decode cX8_readMode 11 = .ok (.putfield 24, 3) := by decide +kernel
theorem dX8_readMode_14 : decode cX8_readMode 14 = .ok (.return_, 1) := by decide +kernel
theorem dX8_readMode_15 : decode cX8_readMode 15 = .ok (.aload_n 1, 1) := by decide +kernel
theorem dX8_readMode_16 : decode cX8_readMode 16 = .ok (.iload_n 2, 1) := by decide +kernel
theorem dX8_readMode_17 : decode cX8_readMode 17 = .ok (.putfield 106, 3) := by decide +kernel
theorem dX8_readMode_20 : decode cX8_readMode 20 = .ok (.aload_n 0, 1) := by decide +kernel
theorem dX8_readMode_21 : decode cX8_readMode 21 = .ok (.invokevirtual 31, 3) := by decide +kernel
theorem dX8_readMode_24 : decode cX8_readMode 24 = .ok (.return_, 1) := by decide +kernel
theorem dX8_kindOfWord_0 : decode cX8_kindOfWord 0 = .ok (.iconst 0, 1) := by decide +kernel
theorem dX8_kindOfWord_1 : decode cX8_kindOfWord 1 = .ok (.istore_n 1, 1) := by decide +kernel
theorem dX8_kindOfWord_2 : decode cX8_kindOfWord 2 = .ok (.iload_n 1, 1) := by decide +kernel
theorem dX8_kindOfWord_3 : decode cX8_kindOfWord 3 = .ok (.bipush 14, 2) := by decide +kernel
theorem dX8_kindOfWord_5 : decode cX8_kindOfWord 5 = .ok (.if_icmp .ge 22, 3) := by decide +kernel
theorem dX8_kindOfWord_8 : decode cX8_kindOfWord 8 = .ok (.aload_n 0, 1) := by decide +kernel
theorem dX8_kindOfWord_9 : decode cX8_kindOfWord 9 = .ok (.iload_n 1, 1) := by decide +kernel
theorem dX8_kindOfWord_10 : decode cX8_kindOfWord 10 = .ok (.invokestatic 109, 3) := by decide +kernel
theorem dX8_kindOfWord_13 : decode cX8_kindOfWord 13 = .ok (.invokevirtual 113, 3) := by decide +kernel
theorem dX8_kindOfWord_16 : decode cX8_kindOfWord 16 = .ok (.ifCond .eq 5, 3) := by decide +kernel
theorem dX8_kindOfWord_19 : decode cX8_kindOfWord 19 = .ok (.iload_n 1, 1) := by decide +kernel
theorem dX8_kindOfWord_20 : decode cX8_kindOfWord 20 = .ok (.ireturn, 1) := by decide +kernel
theorem dX8_kindOfWord_21 : decode cX8_kindOfWord 21 = .ok (.iinc 1 1, 3) := by decide +kernel
theorem dX8_kindOfWord_24 : decode cX8_kindOfWord 24 = .ok (.goto (-22), 3) := by decide +kernel
theorem dX8_kindOfWord_27 : decode cX8_kindOfWord 27 = .ok (.iconst (-1), 1) := by decide +kernel
theorem dX8_kindOfWord_28 : decode cX8_kindOfWord 28 = .ok (.ireturn, 1) := by decide +kernel
theorem dX8_modeOfWord_0 : decode cX8_modeOfWord 0 = .ok (.iconst 0, 1) := by decide +kernel
theorem dX8_modeOfWord_1 : decode cX8_modeOfWord 1 = .ok (.istore_n 1, 1) := by decide +kernel
theorem dX8_modeOfWord_2 : decode cX8_modeOfWord 2 = .ok (.iload_n 1, 1) := by decide +kernel
theorem dX8_modeOfWord_3 : decode cX8_modeOfWord 3 = .ok (.bipush 8, 2) := by decide +kernel
theorem dX8_modeOfWord_5 : decode cX8_modeOfWord 5 = .ok (.if_icmp .ge 22, 3) := by decide +kernel
theorem dX8_modeOfWord_8 : decode cX8_modeOfWord 8 = .ok (.aload_n 0, 1) := by decide +kernel
theorem dX8_modeOfWord_9 : decode cX8_modeOfWord 9 = .ok (.iload_n 1, 1) := by decide +kernel
theorem dX8_modeOfWord_10 : decode cX8_modeOfWord 10 = .ok (.invokestatic 119, 3) := by decide +kernel
theorem dX8_modeOfWord_13 : decode cX8_modeOfWord 13 = .ok (.invokevirtual 113, 3) := by decide +kernel
theorem dX8_modeOfWord_16 : decode cX8_modeOfWord 16 = .ok (.ifCond .eq 5, 3) := by decide +kernel
theorem dX8_modeOfWord_19 : decode cX8_modeOfWord 19 = .ok (.iload_n 1, 1) := by decide +kernel
theorem dX8_modeOfWord_20 : decode cX8_modeOfWord 20 = .ok (.ireturn, 1) := by decide +kernel
theorem dX8_modeOfWord_21 : decode cX8_modeOfWord 21 = .ok (.iinc 1 1, 3) := by decide +kernel
theorem dX8_modeOfWord_24 : decode cX8_modeOfWord 24 = .ok (.goto (-22), 3) := by decide +kernel
theorem dX8_modeOfWord_27 : decode cX8_modeOfWord 27 = .ok (.iconst (-1), 1) := by decide +kernel
theorem dX8_modeOfWord_28 : decode cX8_modeOfWord 28 = .ok (.ireturn, 1) := by decide +kernel
theorem dX8_optionOfWord_0 : decode cX8_optionOfWord 0 = .ok (.aload_n 0, 1) := by decide +kernel
theorem dX8_optionOfWord_1 : decode cX8_optionOfWord 1 = .ok (.ldc 120, 2) := by decide +kernel
theorem dX8_optionOfWord_3 : decode cX8_optionOfWord 3 = .ok (.invokevirtual 113, 3) := by decide +kernel
theorem dX8_optionOfWord_6 : decode cX8_optionOfWord 6 = .ok (.ifCond .eq 5, 3) := by decide +kernel
theorem dX8_optionOfWord_9 : decode cX8_optionOfWord 9 = .ok (.iconst 0, 1) := by decide +kernel
theorem dX8_optionOfWord_10 : decode cX8_optionOfWord 10 = .ok (.ireturn, 1) := by decide +kernel
theorem dX8_optionOfWord_11 : decode cX8_optionOfWord 11 = .ok (.aload_n 0, 1) := by decide +kernel
theorem dX8_optionOfWord_12 : decode cX8_optionOfWord 12 = .ok (.ldc 121, 2) := by decide +kernel
theorem dX8_optionOfWord_14 : decode cX8_optionOfWord 14 = .ok (.invokevirtual 113, 3) := by decide +kernel
theorem dX8_optionOfWord_17 : decode cX8_optionOfWord 17 = .ok (.ifCond .eq 5, 3) := by decide +kernel
theorem dX8_optionOfWord_20 : decode cX8_optionOfWord 20 = .ok (.iconst 1, 1) := by decide +kernel
theorem dX8_optionOfWord_21 : decode cX8_optionOfWord 21 = .ok (.ireturn, 1) := by decide +kernel
theorem dX8_optionOfWord_22 : decode cX8_optionOfWord 22 = .ok (.aload_n 0, 1) := by decide +kernel
theorem dX8_optionOfWord_23 : decode cX8_optionOfWord 23 = .ok (.ldc 122, 2) := by decide +kernel
theorem dX8_optionOfWord_25 : decode cX8_optionOfWord 25 = .ok (.invokevirtual 113, 3) := by decide +kernel
theorem dX8_optionOfWord_28 : decode cX8_optionOfWord 28 = .ok (.ifCond .eq 7, 3) := by decide +kernel
theorem dX8_optionOfWord_31 : decode cX8_optionOfWord 31 = .ok (.iconst 2, 1) := by decide +kernel
theorem dX8_optionOfWord_32 : decode cX8_optionOfWord 32 = .ok (.goto 4, 3) := by decide +kernel
theorem dX8_optionOfWord_35 : decode cX8_optionOfWord 35 = .ok (.iconst (-1), 1) := by decide +kernel
theorem dX8_optionOfWord_36 : decode cX8_optionOfWord 36 = .ok (.ireturn, 1) := by decide +kernel
theorem dX8_wordIs_0 : decode cX8_wordIs 0 = .ok (.aload_n 0, 1) := by decide +kernel
theorem dX8_wordIs_1 : decode cX8_wordIs 1 = .ok (.getfield 34, 3) := by decide +kernel
theorem dX8_wordIs_4 : decode cX8_wordIs 4 = .ok (.iconst 1, 1) := by decide +kernel
theorem dX8_wordIs_5 : decode cX8_wordIs 5 = .ok (.if_icmp .ne 19, 3) := by decide +kernel
theorem dX8_wordIs_8 : decode cX8_wordIs 8 = .ok (.aload_n 1, 1) := by decide +kernel
theorem dX8_wordIs_9 : decode cX8_wordIs 9 = .ok (.invokevirtual 124, 3) := by decide +kernel
theorem dX8_wordIs_12 : decode cX8_wordIs 12 = .ok (.aload_n 0, 1) := by decide +kernel
theorem dX8_wordIs_13 : decode cX8_wordIs 13 = .ok (.getfield 28, 3) := by decide +kernel
theorem dX8_wordIs_16 : decode cX8_wordIs 16 = .ok (.aload_n 0, 1) := by decide +kernel
theorem dX8_wordIs_17 : decode cX8_wordIs 17 = .ok (.getfield 41, 3) := by decide +kernel
theorem dX8_wordIs_20 : decode cX8_wordIs 20 = .ok (.isub, 1) := by decide +kernel
theorem dX8_wordIs_21 : decode cX8_wordIs 21 = .ok (.if_icmp .eq 5, 3) := by decide +kernel
theorem dX8_wordIs_24 : decode cX8_wordIs 24 = .ok (.iconst 0, 1) := by decide +kernel
theorem dX8_wordIs_25 : decode cX8_wordIs 25 = .ok (.ireturn, 1) := by decide +kernel
theorem dX8_wordIs_26 : decode cX8_wordIs 26 = .ok (.iconst 0, 1) := by decide +kernel
theorem dX8_wordIs_27 : decode cX8_wordIs 27 = .ok (.istore_n 2, 1) := by decide +kernel
theorem dX8_wordIs_28 : decode cX8_wordIs 28 = .ok (.iload_n 2, 1) := by decide +kernel
theorem dX8_wordIs_29 : decode cX8_wordIs 29 = .ok (.aload_n 1, 1) := by decide +kernel
theorem dX8_wordIs_30 : decode cX8_wordIs 30 = .ok (.invokevirtual 124, 3) := by decide +kernel
theorem dX8_wordIs_33 : decode cX8_wordIs 33 = .ok (.if_icmp .ge 29, 3) := by decide +kernel
theorem dX8_wordIs_36 : decode cX8_wordIs 36 = .ok (.aload_n 1, 1) := by decide +kernel
theorem dX8_wordIs_37 : decode cX8_wordIs 37 = .ok (.iload_n 2, 1) := by decide +kernel
theorem dX8_wordIs_38 : decode cX8_wordIs 38 = .ok (.invokevirtual 128, 3) := by decide +kernel
theorem dX8_wordIs_41 : decode cX8_wordIs 41 = .ok (.aload_n 0, 1) := by decide +kernel
theorem dX8_wordIs_42 : decode cX8_wordIs 42 = .ok (.aload_n 0, 1) := by decide +kernel
theorem dX8_wordIs_43 : decode cX8_wordIs 43 = .ok (.getfield 41, 3) := by decide +kernel
theorem dX8_wordIs_46 : decode cX8_wordIs 46 = .ok (.iload_n 2, 1) := by decide +kernel
theorem dX8_wordIs_47 : decode cX8_wordIs 47 = .ok (.iadd, 1) := by decide +kernel
theorem dX8_wordIs_48 : decode cX8_wordIs 48 = .ok (.invokevirtual 132, 3) := by decide +kernel
theorem dX8_wordIs_51 : decode cX8_wordIs 51 = .ok (.if_icmp .eq 5, 3) := by decide +kernel
theorem dX8_wordIs_54 : decode cX8_wordIs 54 = .ok (.iconst 0, 1) := by decide +kernel
theorem dX8_wordIs_55 : decode cX8_wordIs 55 = .ok (.ireturn, 1) := by decide +kernel
theorem dX8_wordIs_56 : decode cX8_wordIs 56 = .ok (.iinc 2 1, 3) := by decide +kernel
theorem dX8_wordIs_59 : decode cX8_wordIs 59 = .ok (.goto (-31), 3) := by decide +kernel
theorem dX8_wordIs_62 : decode cX8_wordIs 62 = .ok (.iconst 1, 1) := by decide +kernel
theorem dX8_wordIs_63 : decode cX8_wordIs 63 = .ok (.ireturn, 1) := by decide +kernel
theorem dX8_nextToken_0 : decode cX8_nextToken 0 = .ok (.aload_n 0, 1) := by decide +kernel
theorem dX8_nextToken_1 : decode cX8_nextToken 1 = .ok (.aload_n 0, 1) := by decide +kernel
theorem dX8_nextToken_2 : decode cX8_nextToken 2 = .ok (.aload_n 0, 1) := by decide +kernel
theorem dX8_nextToken_3 : decode cX8_nextToken 3 = .ok (.getfield 28, 3) := by decide +kernel
theorem dX8_nextToken_6 : decode cX8_nextToken 6 = .ok (.bipush 32, 2) := by decide +kernel
theorem dX8_nextToken_8 : decode cX8_nextToken 8 = .ok (.bipush 32, 2) := by decide +kernel
theorem dX8_nextToken_10 : decode cX8_nextToken 10 = .ok (.invokevirtual 135, 3) := by decide +kernel
theorem dX8_nextToken_13 : decode cX8_nextToken 13 = .ok (.putfield 41, 3) := by decide +kernel
theorem dX8_nextToken_16 : decode cX8_nextToken 16 = .ok (.aload_n 0, 1) := by decide +kernel
theorem dX8_nextToken_17 : decode cX8_nextToken 17 = .ok (.aload_n 0, 1) := by decide +kernel
theorem dX8_nextToken_18 : decode cX8_nextToken 18 = .ok (.getfield 41, 3) := by decide +kernel
theorem dX8_nextToken_21 : decode cX8_nextToken 21 = .ok (.invokevirtual 132, 3) := by decide +kernel
theorem dX8_nextToken_24 : decode cX8_nextToken 24 = .ok (.istore_n 1, 1) := by decide +kernel
theorem dX8_nextToken_25 : decode cX8_nextToken 25 = .ok (.aload_n 0, 1) := by decide +kernel
theorem dX8_nextToken_26 : decode cX8_nextToken 26 = .ok (.getfield 41, 3) := by decide +kernel
theorem dX8_nextToken_29 : decode cX8_nextToken 29 = .ok (.aload_n 0, 1) := by decide +kernel
theorem dX8_nextToken_30 : decode cX8_nextToken 30 = .ok (.getfield 15, 3) := by decide +kernel
theorem dX8_nextToken_33 : decode cX8_nextToken 33 = .ok (.if_icmp .lt 19, 3) := by decide +kernel
theorem dX8_nextToken_36 : decode cX8_nextToken 36 = .ok (.aload_n 0, 1) := by decide +kernel
theorem dX8_nextToken_37 : decode cX8_nextToken 37 = .ok (.iconst 0, 1) := by decide +kernel
theorem dX8_nextToken_38 : decode cX8_nextToken 38 = .ok (.putfield 34, 3) := by decide +kernel
theorem dX8_nextToken_41 : decode cX8_nextToken 41 = .ok (.aload_n 0, 1) := by decide +kernel
theorem dX8_nextToken_42 : decode cX8_nextToken 42 = .ok (.aload_n 0, 1) := by decide +kernel
theorem dX8_nextToken_43 : decode cX8_nextToken 43 = .ok (.getfield 41, 3) := by decide +kernel
theorem dX8_nextToken_46 : decode cX8_nextToken 46 = .ok (.putfield 28, 3) := by decide +kernel
theorem dX8_nextToken_49 : decode cX8_nextToken 49 = .ok (.goto 141, 3) := by decide +kernel
theorem dX8_nextToken_52 : decode cX8_nextToken 52 = .ok (.iload_n 1, 1) := by decide +kernel
theorem dX8_nextToken_53 : decode cX8_nextToken 53 = .ok (.bipush 97, 2) := by decide +kernel
theorem dX8_nextToken_55 : decode cX8_nextToken 55 = .ok (.if_icmp .lt 33, 3) := by decide +kernel
theorem dX8_nextToken_58 : decode cX8_nextToken 58 = .ok (.iload_n 1, 1) := by decide +kernel
theorem dX8_nextToken_59 : decode cX8_nextToken 59 = .ok (.bipush 122, 2) := by decide +kernel
theorem dX8_nextToken_61 : decode cX8_nextToken 61 = .ok (.if_icmp .gt 27, 3) := by decide +kernel
theorem dX8_nextToken_64 : decode cX8_nextToken 64 = .ok (.aload_n 0, 1) := by decide +kernel
theorem dX8_nextToken_65 : decode cX8_nextToken 65 = .ok (.iconst 1, 1) := by decide +kernel
theorem dX8_nextToken_66 : decode cX8_nextToken 66 = .ok (.putfield 34, 3) := by decide +kernel
theorem dX8_nextToken_69 : decode cX8_nextToken 69 = .ok (.aload_n 0, 1) := by decide +kernel
theorem dX8_nextToken_70 : decode cX8_nextToken 70 = .ok (.aload_n 0, 1) := by decide +kernel
theorem dX8_nextToken_71 : decode cX8_nextToken 71 = .ok (.aload_n 0, 1) := by decide +kernel
theorem dX8_nextToken_72 : decode cX8_nextToken 72 = .ok (.getfield 41, 3) := by decide +kernel
theorem dX8_nextToken_75 : decode cX8_nextToken 75 = .ok (.bipush 97, 2) := by decide +kernel
theorem dX8_nextToken_77 : decode cX8_nextToken 77 = .ok (.bipush 122, 2) := by decide +kernel
theorem dX8_nextToken_79 : decode cX8_nextToken 79 = .ok (.invokevirtual 135, 3) := by decide +kernel
theorem dX8_nextToken_82 : decode cX8_nextToken 82 = .ok (.putfield 28, 3) := by decide +kernel
theorem dX8_nextToken_85 : decode cX8_nextToken 85 = .ok (.goto 105, 3) := by decide +kernel
theorem dX8_nextToken_88 : decode cX8_nextToken 88 = .ok (.iload_n 1, 1) := by decide +kernel
theorem dX8_nextToken_89 : decode cX8_nextToken 89 = .ok (.bipush 48, 2) := by decide +kernel
theorem dX8_nextToken_91 : decode cX8_nextToken 91 = .ok (.if_icmp .lt 64, 3) := by decide +kernel
theorem dX8_nextToken_94 : decode cX8_nextToken 94 = .ok (.iload_n 1, 1) := by decide +kernel
theorem dX8_nextToken_95 : decode cX8_nextToken 95 = .ok (.bipush 57, 2) := by decide +kernel
theorem dX8_nextToken_97 : decode cX8_nextToken 97 = .ok (.if_icmp .gt 58, 3) := by decide +kernel
theorem dX8_nextToken_100 : decode cX8_nextToken 100 = .ok (.aload_n 0, 1) := by decide +kernel
theorem dX8_nextToken_101 : decode cX8_nextToken 101 = .ok (.aload_n 0, 1) := by decide +kernel
theorem dX8_nextToken_102 : decode cX8_nextToken 102 = .ok (.aload_n 0, 1) := by decide +kernel
theorem dX8_nextToken_103 : decode cX8_nextToken 103 = .ok (.getfield 41, 3) := by decide +kernel
theorem dX8_nextToken_106 : decode cX8_nextToken 106 = .ok (.bipush 48, 2) := by decide +kernel
theorem dX8_nextToken_108 : decode cX8_nextToken 108 = .ok (.bipush 57, 2) := by decide +kernel
theorem dX8_nextToken_110 : decode cX8_nextToken 110 = .ok (.invokevirtual 135, 3) := by decide +kernel
theorem dX8_nextToken_113 : decode cX8_nextToken 113 = .ok (.putfield 28, 3) := by decide +kernel
theorem dX8_nextToken_116 : decode cX8_nextToken 116 = .ok (.aload_n 0, 1) := by decide +kernel
theorem dX8_nextToken_117 : decode cX8_nextToken 117 = .ok (.aload_n 0, 1) := by decide +kernel
theorem dX8_nextToken_118 : decode cX8_nextToken 118 = .ok (.invokevirtual 139, 3) := by decide +kernel
theorem dX8_nextToken_121 : decode cX8_nextToken 121 = .ok (.ifCond .eq 7, 3) := by decide +kernel
theorem dX8_nextToken_124 : decode cX8_nextToken 124 = .ok (.iconst 2, 1) := by decide +kernel
theorem dX8_nextToken_125 : decode cX8_nextToken 125 = .ok (.goto 4, 3) := by decide +kernel
theorem dX8_nextToken_128 : decode cX8_nextToken 128 = .ok (.iconst 5, 1) := by decide +kernel
theorem dX8_nextToken_129 : decode cX8_nextToken 129 = .ok (.putfield 34, 3) := by decide +kernel
theorem dX8_nextToken_132 : decode cX8_nextToken 132 = .ok (.aload_n 0, 1) := by decide +kernel
theorem dX8_nextToken_133 : decode cX8_nextToken 133 = .ok (.aload_n 0, 1) := by decide +kernel
theorem dX8_nextToken_134 : decode cX8_nextToken 134 = .ok (.getfield 34, 3) := by decide +kernel
theorem dX8_nextToken_137 : decode cX8_nextToken 137 = .ok (.iconst 2, 1) := by decide +kernel
theorem dX8_nextToken_138 : decode cX8_nextToken 138 = .ok (.if_icmp .ne 10, 3) := by decide +kernel
theorem dX8_nextToken_141 : decode cX8_nextToken 141 = .ok (.aload_n 0, 1) := by decide +kernel
theorem dX8_nextToken_142 : decode cX8_nextToken 142 = .ok (.invokevirtual 142, 3) := by decide +kernel
theorem dX8_nextToken_145 : decode cX8_nextToken 145 = .ok (.goto 4, 3) := by decide +kernel
theorem dX8_nextToken_148 : decode cX8_nextToken 148 = .ok (.iconst 0, 1) := by decide +kernel
theorem dX8_nextToken_149 : decode cX8_nextToken 149 = .ok (.putfield 82, 3) := by decide +kernel
theorem dX8_nextToken_152 : decode cX8_nextToken 152 = .ok (.goto 38, 3) := by decide +kernel
theorem dX8_nextToken_155 : decode cX8_nextToken 155 = .ok (.aload_n 0, 1) := by decide +kernel
theorem dX8_nextToken_156 : decode cX8_nextToken 156 = .ok (.iload_n 1, 1) := by decide +kernel
theorem dX8_nextToken_157 : decode cX8_nextToken 157 = .ok (.bipush 45, 2) := by decide +kernel
theorem dX8_nextToken_159 : decode cX8_nextToken 159 = .ok (.if_icmp .ne 7, 3) := by decide +kernel
theorem dX8_nextToken_162 : decode cX8_nextToken 162 = .ok (.iconst 3, 1) := by decide +kernel
theorem dX8_nextToken_163 : decode cX8_nextToken 163 = .ok (.goto 14, 3) := by decide +kernel
theorem dX8_nextToken_166 : decode cX8_nextToken 166 = .ok (.iload_n 1, 1) := by decide +kernel
theorem dX8_nextToken_167 : decode cX8_nextToken 167 = .ok (.bipush 59, 2) := by decide +kernel
theorem dX8_nextToken_169 : decode cX8_nextToken 169 = .ok (.if_icmp .ne 7, 3) := by decide +kernel
theorem dX8_nextToken_172 : decode cX8_nextToken 172 = .ok (.iconst 4, 1) := by decide +kernel
theorem dX8_nextToken_173 : decode cX8_nextToken 173 = .ok (.goto 4, 3) := by decide +kernel
theorem dX8_nextToken_176 : decode cX8_nextToken 176 = .ok (.iconst 5, 1) := by decide +kernel
theorem dX8_nextToken_177 : decode cX8_nextToken 177 = .ok (.putfield 34, 3) := by decide +kernel
theorem dX8_nextToken_180 : decode cX8_nextToken 180 = .ok (.aload_n 0, 1) := by decide +kernel
theorem dX8_nextToken_181 : decode cX8_nextToken 181 = .ok (.aload_n 0, 1) := by decide +kernel
theorem dX8_nextToken_182 : decode cX8_nextToken 182 = .ok (.getfield 41, 3) := by decide +kernel
theorem dX8_nextToken_185 : decode cX8_nextToken 185 = .ok (.iconst 1, 1) := by decide +kernel
theorem dX8_nextToken_186 : decode cX8_nextToken 186 = .ok (.iadd, 1) := by decide +kernel
theorem dX8_nextToken_187 : decode cX8_nextToken 187 = .ok (.putfield 28, 3) := by decide +kernel
theorem dX8_nextToken_190 : decode cX8_nextToken 190 = .ok (.return_, 1) := by decide +kernel
theorem dX8_isNumber_0 : decode cX8_isNumber 0 = .ok (.aload_n 0, 1) := by decide +kernel
theorem dX8_isNumber_1 : decode cX8_isNumber 1 = .ok (.getfield 28, 3) := by decide +kernel
theorem dX8_isNumber_4 : decode cX8_isNumber 4 = .ok (.aload_n 0, 1) := by decide +kernel
theorem dX8_isNumber_5 : decode cX8_isNumber 5 = .ok (.getfield 41, 3) := by decide +kernel
theorem dX8_isNumber_8 : decode cX8_isNumber 8 = .ok (.isub, 1) := by decide +kernel
theorem dX8_isNumber_9 : decode cX8_isNumber 9 = .ok (.istore_n 1, 1) := by decide +kernel
theorem dX8_isNumber_10 : decode cX8_isNumber 10 = .ok (.iload_n 1, 1) := by decide +kernel
theorem dX8_isNumber_11 : decode cX8_isNumber 11 = .ok (.iconst 1, 1) := by decide +kernel
theorem dX8_isNumber_12 : decode cX8_isNumber 12 = .ok (.if_icmp .eq 21, 3) := by decide +kernel
theorem dX8_isNumber_15 : decode cX8_isNumber 15 = .ok (.iload_n 1, 1) := by decide +kernel
theorem dX8_isNumber_16 : decode cX8_isNumber 16 = .ok (.iconst 3, 1) := by decide +kernel
theorem dX8_isNumber_17 : decode cX8_isNumber 17 = .ok (.if_icmp .gt 20, 3) := by decide +kernel
theorem dX8_isNumber_20 : decode cX8_isNumber 20 = .ok (.aload_n 0, 1) := by decide +kernel
theorem dX8_isNumber_21 : decode cX8_isNumber 21 = .ok (.aload_n 0, 1) := by decide +kernel
theorem dX8_isNumber_22 : decode cX8_isNumber 22 = .ok (.getfield 41, 3) := by decide +kernel
theorem dX8_isNumber_25 : decode cX8_isNumber 25 = .ok (.invokevirtual 132, 3) := by decide +kernel
theorem dX8_isNumber_28 : decode cX8_isNumber 28 = .ok (.bipush 48, 2) := by decide +kernel
theorem dX8_isNumber_30 : decode cX8_isNumber 30 = .ok (.if_icmp .eq 7, 3) := by decide +kernel
theorem dX8_isNumber_33 : decode cX8_isNumber 33 = .ok (.iconst 1, 1) := by decide +kernel
theorem dX8_isNumber_34 : decode cX8_isNumber 34 = .ok (.goto 4, 3) := by decide +kernel
theorem dX8_isNumber_37 : decode cX8_isNumber 37 = .ok (.iconst 0, 1) := by decide +kernel
theorem dX8_isNumber_38 : decode cX8_isNumber 38 = .ok (.ireturn, 1) := by decide +kernel
theorem dX8_valueOfDigits_0 : decode cX8_valueOfDigits 0 = .ok (.iconst 0, 1) := by decide +kernel
theorem dX8_valueOfDigits_1 : decode cX8_valueOfDigits 1 = .ok (.istore_n 1, 1) := by decide +kernel
theorem dX8_valueOfDigits_2 : decode cX8_valueOfDigits 2 = .ok (.aload_n 0, 1) := by decide +kernel
theorem dX8_valueOfDigits_3 : decode cX8_valueOfDigits 3 = .ok (.getfield 41, 3) := by decide +kernel
theorem dX8_valueOfDigits_6 : decode cX8_valueOfDigits 6 = .ok (.istore_n 2, 1) := by decide +kernel
theorem dX8_valueOfDigits_7 : decode cX8_valueOfDigits 7 = .ok (.iload_n 2, 1) := by decide +kernel
theorem dX8_valueOfDigits_8 : decode cX8_valueOfDigits 8 = .ok (.aload_n 0, 1) := by decide +kernel
theorem dX8_valueOfDigits_9 : decode cX8_valueOfDigits 9 = .ok (.getfield 28, 3) := by decide +kernel
theorem dX8_valueOfDigits_12 : decode cX8_valueOfDigits 12 = .ok (.if_icmp .ge 23, 3) := by decide +kernel
theorem dX8_valueOfDigits_15 : decode cX8_valueOfDigits 15 = .ok (.bipush 10, 2) := by decide +kernel
theorem dX8_valueOfDigits_17 : decode cX8_valueOfDigits 17 = .ok (.iload_n 1, 1) := by decide +kernel
theorem dX8_valueOfDigits_18 : decode cX8_valueOfDigits 18 = .ok (.imul, 1) := by decide +kernel
theorem dX8_valueOfDigits_19 : decode cX8_valueOfDigits 19 = .ok (.aload_n 0, 1) := by decide +kernel
theorem dX8_valueOfDigits_20 : decode cX8_valueOfDigits 20 = .ok (.iload_n 2, 1) := by decide +kernel
theorem dX8_valueOfDigits_21 : decode cX8_valueOfDigits 21 = .ok (.invokevirtual 132, 3) := by decide +kernel
theorem dX8_valueOfDigits_24 : decode cX8_valueOfDigits 24 = .ok (.iadd, 1) := by decide +kernel
theorem dX8_valueOfDigits_25 : decode cX8_valueOfDigits 25 = .ok (.bipush 48, 2) := by decide +kernel
theorem dX8_valueOfDigits_27 : decode cX8_valueOfDigits 27 = .ok (.isub, 1) := by decide +kernel
theorem dX8_valueOfDigits_28 : decode cX8_valueOfDigits 28 = .ok (.istore_n 1, 1) := by decide +kernel
theorem dX8_valueOfDigits_29 : decode cX8_valueOfDigits 29 = .ok (.iinc 2 1, 3) := by decide +kernel
theorem dX8_valueOfDigits_32 : decode cX8_valueOfDigits 32 = .ok (.goto (-25), 3) := by decide +kernel
theorem dX8_valueOfDigits_35 : decode cX8_valueOfDigits 35 = .ok (.iload_n 1, 1) := by decide +kernel
theorem dX8_valueOfDigits_36 : decode cX8_valueOfDigits 36 = .ok (.ireturn, 1) := by decide +kernel
theorem dX8_endOfRun_0 : decode cX8_endOfRun 0 = .ok (.iload_n 1, 1) := by decide +kernel
theorem dX8_endOfRun_1 : decode cX8_endOfRun 1 = .ok (.istore 4, 2) := by decide +kernel
theorem dX8_endOfRun_3 : decode cX8_endOfRun 3 = .ok (.iload 4, 2) := by decide +kernel
theorem dX8_endOfRun_5 : decode cX8_endOfRun 5 = .ok (.aload_n 0, 1) := by decide +kernel
theorem dX8_endOfRun_6 : decode cX8_endOfRun 6 = .ok (.getfield 15, 3) := by decide +kernel
theorem dX8_endOfRun_9 : decode cX8_endOfRun 9 = .ok (.if_icmp .ge 29, 3) := by decide +kernel
theorem dX8_endOfRun_12 : decode cX8_endOfRun 12 = .ok (.aload_n 0, 1) := by decide +kernel
theorem dX8_endOfRun_13 : decode cX8_endOfRun 13 = .ok (.iload 4, 2) := by decide +kernel
theorem dX8_endOfRun_15 : decode cX8_endOfRun 15 = .ok (.invokevirtual 132, 3) := by decide +kernel
theorem dX8_endOfRun_18 : decode cX8_endOfRun 18 = .ok (.iload_n 2, 1) := by decide +kernel
theorem dX8_endOfRun_19 : decode cX8_endOfRun 19 = .ok (.if_icmp .lt 19, 3) := by decide +kernel
theorem dX8_endOfRun_22 : decode cX8_endOfRun 22 = .ok (.aload_n 0, 1) := by decide +kernel
theorem dX8_endOfRun_23 : decode cX8_endOfRun 23 = .ok (.iload 4, 2) := by decide +kernel
theorem dX8_endOfRun_25 : decode cX8_endOfRun 25 = .ok (.invokevirtual 132, 3) := by decide +kernel
theorem dX8_endOfRun_28 : decode cX8_endOfRun 28 = .ok (.iload_n 3, 1) := by decide +kernel
theorem dX8_endOfRun_29 : decode cX8_endOfRun 29 = .ok (.if_icmp .gt 9, 3) := by decide +kernel
theorem dX8_endOfRun_32 : decode cX8_endOfRun 32 = .ok (.iinc 4 1, 3) := by decide +kernel
theorem dX8_endOfRun_35 : decode cX8_endOfRun 35 = .ok (.goto (-32), 3) := by decide +kernel
theorem dX8_endOfRun_38 : decode cX8_endOfRun 38 = .ok (.iload 4, 2) := by decide +kernel
theorem dX8_endOfRun_40 : decode cX8_endOfRun 40 = .ok (.ireturn, 1) := by decide +kernel
theorem dX8_characterAt_0 : decode cX8_characterAt 0 = .ok (.iload_n 1, 1) := by decide +kernel
theorem dX8_characterAt_1 : decode cX8_characterAt 1 = .ok (.ifCond .lt 29, 3) := by decide +kernel
theorem dX8_characterAt_4 : decode cX8_characterAt 4 = .ok (.iload_n 1, 1) := by decide +kernel
theorem dX8_characterAt_5 : decode cX8_characterAt 5 = .ok (.aload_n 0, 1) := by decide +kernel
theorem dX8_characterAt_6 : decode cX8_characterAt 6 = .ok (.getfield 15, 3) := by decide +kernel
theorem dX8_characterAt_9 : decode cX8_characterAt 9 = .ok (.if_icmp .ge 21, 3) := by decide +kernel
theorem dX8_characterAt_12 : decode cX8_characterAt 12 = .ok (.iload_n 1, 1) := by decide +kernel
theorem dX8_characterAt_13 : decode cX8_characterAt 13 = .ok (.aload_n 0, 1) := by decide +kernel
theorem dX8_characterAt_14 : decode cX8_characterAt 14 = .ok (.getfield 9, 3) := by decide +kernel
theorem dX8_characterAt_17 : decode cX8_characterAt 17 = .ok (.arraylength, 1) := by decide +kernel
theorem dX8_characterAt_18 : decode cX8_characterAt 18 = .ok (.if_icmp .ge 12, 3) := by decide +kernel
theorem dX8_characterAt_21 : decode cX8_characterAt 21 = .ok (.aload_n 0, 1) := by decide +kernel
theorem dX8_characterAt_22 : decode cX8_characterAt 22 = .ok (.getfield 9, 3) := by decide +kernel
theorem dX8_characterAt_25 : decode cX8_characterAt 25 = .ok (.iload_n 1, 1) := by decide +kernel
theorem dX8_characterAt_26 : decode cX8_characterAt 26 = .ok (.caload, 1) := by decide +kernel
theorem dX8_characterAt_27 : decode cX8_characterAt 27 = .ok (.goto 4, 3) := by decide +kernel
theorem dX8_characterAt_30 : decode cX8_characterAt 30 = .ok (.iconst 0, 1) := by decide +kernel
theorem dX8_characterAt_31 : decode cX8_characterAt 31 = .ok (.ireturn, 1) := by decide +kernel
theorem dX9_init_0 : decode cX9_init 0 = .ok (.aload_n 0, 1) := by decide +kernel
theorem dX9_init_1 : decode cX9_init 1 = .ok (.invokespecial 5, 3) := by decide +kernel
theorem dX9_init_4 : decode cX9_init 4 = .ok (.aload_n 0, 1) := by decide +kernel
theorem dX9_init_5 : decode cX9_init 5 = .ok (.bipush 8, 2) := by decide +kernel
theorem dX9_init_7 : decode cX9_init 7 = .ok (.anewarray 11, 3) := by decide +kernel
theorem dX9_init_10 : decode cX9_init 10 = .ok (.putfield 13, 3) := by decide +kernel
theorem dX9_init_13 : decode cX9_init 13 = .ok (.aload_n 0, 1) := by decide +kernel
theorem dX9_init_14 : decode cX9_init 14 = .ok (.sipush 512, 3) := by decide +kernel
theorem dX9_init_17 : decode cX9_init 17 = .ok (.newarray .int, 2) := by decide +kernel
theorem dX9_init_19 : decode cX9_init 19 = .ok (.putfield 17, 3) := by decide +kernel
theorem dX9_init_22 : decode cX9_init 22 = .ok (.aload_n 0, 1) := by decide +kernel
theorem dX9_init_23 : decode cX9_init 23 = .ok (.iconst 4, 1) := by decide +kernel
theorem dX9_init_24 : decode cX9_init 24 = .ok (.putfield 21, 3) := by decide +kernel
theorem dX9_init_27 : decode cX9_init 27 = .ok (.aload_n 0, 1) := by decide +kernel
theorem dX9_init_28 : decode cX9_init 28 = .ok (.bipush 16, 2) := by decide +kernel
theorem dX9_init_30 : decode cX9_init 30 = .ok (.putfield 25, 3) := by decide +kernel
theorem dX9_init_33 : decode cX9_init 33 = .ok (.iconst 0, 1) := by decide +kernel
theorem dX9_init_34 : decode cX9_init 34 = .ok (.istore_n 1, 1) := by decide +kernel
theorem dX9_init_35 : decode cX9_init 35 = .ok (.iload_n 1, 1) := by decide +kernel
theorem dX9_init_36 : decode cX9_init 36 = .ok (.aload_n 0, 1) := by decide +kernel
theorem dX9_init_37 : decode cX9_init 37 = .ok (.getfield 13, 3) := by decide +kernel
theorem dX9_init_40 : decode cX9_init 40 = .ok (.arraylength, 1) := by decide +kernel
theorem dX9_init_41 : decode cX9_init 41 = .ok (.if_icmp .ge 22, 3) := by decide +kernel
theorem dX9_init_44 : decode cX9_init 44 = .ok (.aload_n 0, 1) := by decide +kernel
theorem dX9_init_45 : decode cX9_init 45 = .ok (.getfield 13, 3) := by decide +kernel
theorem dX9_init_48 : decode cX9_init 48 = .ok (.iload_n 1, 1) := by decide +kernel
theorem dX9_init_49 : decode cX9_init 49 = .ok (.new 11, 3) := by decide +kernel
theorem dX9_init_52 : decode cX9_init 52 = .ok (.dup, 1) := by decide +kernel
theorem dX9_init_53 : decode cX9_init 53 = .ok (.invokespecial 28, 3) := by decide +kernel
theorem dX9_init_56 : decode cX9_init 56 = .ok (.aastore, 1) := by decide +kernel
theorem dX9_init_57 : decode cX9_init 57 = .ok (.iinc 1 1, 3) := by decide +kernel
theorem dX9_init_60 : decode cX9_init 60 = .ok (.goto (-25), 3) := by decide +kernel
theorem dX9_init_63 : decode cX9_init 63 = .ok (.return_, 1) := by decide +kernel
theorem dX9_layerOf_0 : decode cX9_layerOf 0 = .ok (.iload_n 0, 1) := by decide +kernel
theorem dX9_layerOf_1 : decode cX9_layerOf 1 = .ok (.bipush 64, 2) := by decide +kernel
theorem dX9_layerOf_3 : decode cX9_layerOf 3 = .ok (.idiv, 1) := by decide +kernel
theorem dX9_layerOf_4 : decode cX9_layerOf 4 = .ok (.ireturn, 1) := by decide +kernel
theorem dX9_columnOf_0 : decode cX9_columnOf 0 = .ok (.iload_n 0, 1) := by decide +kernel
theorem dX9_columnOf_1 : decode cX9_columnOf 1 = .ok (.bipush 8, 2) := by decide +kernel
theorem dX9_columnOf_3 : decode cX9_columnOf 3 = .ok (.irem, 1) := by decide +kernel
theorem dX9_columnOf_4 : decode cX9_columnOf 4 = .ok (.ireturn, 1) := by decide +kernel
theorem dX9_rowOf_0 : decode cX9_rowOf 0 = .ok (.iload_n 0, 1) := by decide +kernel
theorem dX9_rowOf_1 : decode cX9_rowOf 1 = .ok (.bipush 64, 2) := by decide +kernel
theorem dX9_rowOf_3 : decode cX9_rowOf 3 = .ok (.irem, 1) := by decide +kernel
theorem dX9_rowOf_4 : decode cX9_rowOf 4 = .ok (.bipush 8, 2) := by decide +kernel
theorem dX9_rowOf_6 : decode cX9_rowOf 6 = .ok (.idiv, 1) := by decide +kernel
theorem dX9_rowOf_7 : decode cX9_rowOf 7 = .ok (.ireturn, 1) := by decide +kernel
theorem dX9_slotOf_0 : decode cX9_slotOf 0 = .ok (.iload_n 0, 1) := by decide +kernel
theorem dX9_slotOf_1 : decode cX9_slotOf 1 = .ok (.bipush 64, 2) := by decide +kernel
theorem dX9_slotOf_3 : decode cX9_slotOf 3 = .ok (.imul, 1) := by decide +kernel
theorem dX9_slotOf_4 : decode cX9_slotOf 4 = .ok (.iload_n 2, 1) := by decide +kernel
theorem dX9_slotOf_5 : decode cX9_slotOf 5 = .ok (.bipush 8, 2) := by decide +kernel
theorem dX9_slotOf_7 : decode cX9_slotOf 7 = .ok (.imul, 1) := by decide +kernel
theorem dX9_slotOf_8 : decode cX9_slotOf 8 = .ok (.iadd, 1) := by decide +kernel
theorem dX9_slotOf_9 : decode cX9_slotOf 9 = .ok (.iload_n 1, 1) := by decide +kernel
theorem dX9_slotOf_10 : decode cX9_slotOf 10 = .ok (.iadd, 1) := by decide +kernel
theorem dX9_slotOf_11 : decode cX9_slotOf 11 = .ok (.ireturn, 1) := by decide +kernel
theorem dX9_tileOf_0 : decode cX9_tileOf 0 = .ok (.iload_n 1, 1) := by decide +kernel
theorem dX9_tileOf_1 : decode cX9_tileOf 1 = .ok (.aload_n 0, 1) := by decide +kernel
theorem dX9_tileOf_2 : decode cX9_tileOf 2 = .ok (.getfield 21, 3) := by decide +kernel
theorem dX9_tileOf_5 : decode cX9_tileOf 5 = .ok (.invokestatic 29, 3) := by decide +kernel
theorem dX9_tileOf_8 : decode cX9_tileOf 8 = .ok (.ireturn, 1) := by decide +kernel
theorem dX9_outputAt_0 : decode cX9_outputAt 0 = .ok (.iload_n 1, 1) := by decide +kernel
theorem dX9_outputAt_1 : decode cX9_outputAt 1 = .ok (.ifCond .lt 21, 3) := by decide +kernel
theorem dX9_outputAt_4 : decode cX9_outputAt 4 = .ok (.iload_n 1, 1) := by decide +kernel
theorem dX9_outputAt_5 : decode cX9_outputAt 5 = .ok (.aload_n 0, 1) := by decide +kernel
theorem dX9_outputAt_6 : decode cX9_outputAt 6 = .ok (.getfield 13, 3) := by decide +kernel
theorem dX9_outputAt_9 : decode cX9_outputAt 9 = .ok (.arraylength, 1) := by decide +kernel
theorem dX9_outputAt_10 : decode cX9_outputAt 10 = .ok (.if_icmp .ge 12, 3) := by decide +kernel
theorem dX9_outputAt_13 : decode cX9_outputAt 13 = .ok (.aload_n 0, 1) := by decide +kernel
theorem dX9_outputAt_14 : decode cX9_outputAt 14 = .ok (.getfield 13, 3) := by decide +kernel
theorem dX9_outputAt_17 : decode cX9_outputAt 17 = .ok (.iload_n 1, 1) := by decide +kernel
theorem dX9_outputAt_18 : decode cX9_outputAt 18 = .ok (.aaload, 1) := by decide +kernel
theorem dX9_outputAt_19 : decode cX9_outputAt 19 = .ok (.goto 4, 3) := by decide +kernel
theorem dX9_outputAt_22 : decode cX9_outputAt 22 = .ok (.aconst_null, 1) := by decide +kernel
theorem dX9_outputAt_23 : decode cX9_outputAt 23 = .ok (.areturn, 1) := by decide +kernel
theorem dX9_holds_0 : decode cX9_holds 0 = .ok (.iload_n 1, 1) := by decide +kernel
theorem dX9_holds_1 : decode cX9_holds 1 = .ok (.iload_n 2, 1) := by decide +kernel
theorem dX9_holds_2 : decode cX9_holds 2 = .ok (.iload_n 3, 1) := by decide +kernel
theorem dX9_holds_3 : decode cX9_holds 3 = .ok (.invokestatic 33, 3) := by decide +kernel
theorem dX9_holds_6 : decode cX9_holds 6 = .ok (.istore 4, 2) := by decide +kernel
theorem dX9_holds_8 : decode cX9_holds 8 = .ok (.iload 4, 2) := by decide +kernel
theorem dX9_holds_10 : decode cX9_holds 10 = .ok (.ifCond .lt 27, 3) := by decide +kernel
theorem dX9_holds_13 : decode cX9_holds 13 = .ok (.iload 4, 2) := by decide +kernel
theorem dX9_holds_15 : decode cX9_holds 15 = .ok (.aload_n 0, 1) := by decide +kernel
theorem dX9_holds_16 : decode cX9_holds 16 = .ok (.getfield 17, 3) := by decide +kernel
theorem dX9_holds_19 : decode cX9_holds 19 = .ok (.arraylength, 1) := by decide +kernel
theorem dX9_holds_20 : decode cX9_holds 20 = .ok (.if_icmp .ge 17, 3) := by decide +kernel
theorem dX9_holds_23 : decode cX9_holds 23 = .ok (.aload_n 0, 1) := by decide +kernel
theorem dX9_holds_24 : decode cX9_holds 24 = .ok (.getfield 17, 3) := by decide +kernel
theorem dX9_holds_27 : decode cX9_holds 27 = .ok (.iload 4, 2) := by decide +kernel
theorem dX9_holds_29 : decode cX9_holds 29 = .ok (.iaload, 1) := by decide +kernel
theorem dX9_holds_30 : decode cX9_holds 30 = .ok (.ifCond .le 7, 3) := by decide +kernel
theorem dX9_holds_33 : decode cX9_holds 33 = .ok (.iconst 1, 1) := by decide +kernel
theorem dX9_holds_34 : decode cX9_holds 34 = .ok (.goto 4, 3) := by decide +kernel
theorem dX9_holds_37 : decode cX9_holds 37 = .ok (.iconst 0, 1) := by decide +kernel
theorem dX9_holds_38 : decode cX9_holds 38 = .ok (.ireturn, 1) := by decide +kernel
theorem dX9_noteFound_0 : decode cX9_noteFound 0 = .ok (.aload_n 0, 1) := by decide +kernel
theorem dX9_noteFound_1 : decode cX9_noteFound 1 = .ok (.dup, 1) := by decide +kernel
theorem dX9_noteFound_2 : decode cX9_noteFound 2 = .ok (.getfield 37, 3) := by decide +kernel
theorem dX9_noteFound_5 : decode cX9_noteFound 5 = .ok (.iconst 1, 1) := by decide +kernel
theorem dX9_noteFound_6 : decode cX9_noteFound 6 = .ok (.iadd, 1) := by decide +kernel
theorem dX9_noteFound_7 : decode cX9_noteFound 7 = .ok (.putfield 37, 3) := by decide +kernel
theorem dX9_noteFound_10 : decode cX9_noteFound 10 = .ok (.aload_n 0, 1) := by decide +kernel
theorem dX9_noteFound_11 : decode cX9_noteFound 11 = .ok (.iload_n 1, 1) := by decide +kernel
theorem dX9_noteFound_12 : decode cX9_noteFound 12 = .ok (.iload_n 2, 1) := by decide +kernel
theorem dX9_noteFound_13 : decode cX9_noteFound 13 = .ok (.iload_n 3, 1) := by decide +kernel
theorem dX9_noteFound_14 : decode cX9_noteFound 14 = .ok (.invokestatic 33, 3) := by decide +kernel
theorem dX9_noteFound_17 : decode cX9_noteFound 17 = .ok (.invokevirtual 40, 3) := by decide +kernel
theorem dX9_noteFound_20 : decode cX9_noteFound 20 = .ok (.return_, 1) := by decide +kernel
theorem dX9_noteComputed_0 : decode cX9_noteComputed 0 = .ok (.aload_n 0, 1) := by decide +kernel
theorem dX9_noteComputed_1 : decode cX9_noteComputed 1 = .ok (.dup, 1) := by decide +kernel
theorem dX9_noteComputed_2 : decode cX9_noteComputed 2 = .ok (.getfield 44, 3) := by decide +kernel
theorem dX9_noteComputed_5 : decode cX9_noteComputed 5 = .ok (.iconst 1, 1) := by decide +kernel
theorem dX9_noteComputed_6 : decode cX9_noteComputed 6 = .ok (.iadd, 1) := by decide +kernel
theorem dX9_noteComputed_7 : decode cX9_noteComputed 7 = .ok (.putfield 44, 3) := by decide +kernel
theorem dX9_noteComputed_10 : decode cX9_noteComputed 10 = .ok (.aload_n 0, 1) := by decide +kernel
theorem dX9_noteComputed_11 : decode cX9_noteComputed 11 = .ok (.dup, 1) := by decide +kernel
theorem dX9_noteComputed_12 : decode cX9_noteComputed 12 = .ok (.getfield 47, 3) := by decide +kernel
theorem dX9_noteComputed_15 : decode cX9_noteComputed 15 = .ok (.iconst 1, 1) := by decide +kernel
theorem dX9_noteComputed_16 : decode cX9_noteComputed 16 = .ok (.iadd, 1) := by decide +kernel
theorem dX9_noteComputed_17 : decode cX9_noteComputed 17 = .ok (.putfield 47, 3) := by decide +kernel
theorem dX9_noteComputed_20 : decode cX9_noteComputed 20 = .ok (.aload_n 0, 1) := by decide +kernel
theorem dX9_noteComputed_21 : decode cX9_noteComputed 21 = .ok (.iload_n 1, 1) := by decide +kernel
theorem dX9_noteComputed_22 : decode cX9_noteComputed 22 = .ok (.iload_n 2, 1) := by decide +kernel
theorem dX9_noteComputed_23 : decode cX9_noteComputed 23 = .ok (.iload_n 3, 1) := by decide +kernel
theorem dX9_noteComputed_24 : decode cX9_noteComputed 24 = .ok (.invokestatic 33, 3) := by decide +kernel
theorem dX9_noteComputed_27 : decode cX9_noteComputed 27 = .ok (.invokevirtual 40, 3) := by decide +kernel
theorem dX9_noteComputed_30 : decode cX9_noteComputed 30 = .ok (.return_, 1) := by decide +kernel
theorem dX9_use_0 : decode cX9_use 0 = .ok (.iload_n 1, 1) := by decide +kernel
theorem dX9_use_1 : decode cX9_use 1 = .ok (.ifCond .lt 32, 3) := by decide +kernel
theorem dX9_use_4 : decode cX9_use 4 = .ok (.iload_n 1, 1) := by decide +kernel
theorem dX9_use_5 : decode cX9_use 5 = .ok (.aload_n 0, 1) := by decide +kernel
theorem dX9_use_6 : decode cX9_use 6 = .ok (.getfield 17, 3) := by decide +kernel
theorem dX9_use_9 : decode cX9_use 9 = .ok (.arraylength, 1) := by decide +kernel
theorem dX9_use_10 : decode cX9_use 10 = .ok (.if_icmp .ge 23, 3) := by decide +kernel
theorem dX9_use_13 : decode cX9_use 13 = .ok (.aload_n 0, 1) := by decide +kernel
theorem dX9_use_14 : decode cX9_use 14 = .ok (.dup, 1) := by decide +kernel
theorem dX9_use_15 : decode cX9_use 15 = .ok (.getfield 50, 3) := by decide +kernel
theorem dX9_use_18 : decode cX9_use 18 = .ok (.iconst 1, 1) := by decide +kernel
theorem dX9_use_19 : decode cX9_use 19 = .ok (.iadd, 1) := by decide +kernel
theorem dX9_use_20 : decode cX9_use 20 = .ok (.putfield 50, 3) := by decide +kernel
theorem dX9_use_23 : decode cX9_use 23 = .ok (.aload_n 0, 1) := by decide +kernel
theorem dX9_use_24 : decode cX9_use 24 = .ok (.getfield 17, 3) := by decide +kernel
theorem dX9_use_27 : decode cX9_use 27 = .ok (.iload_n 1, 1) := by decide +kernel
theorem dX9_use_28 : decode cX9_use 28 = .ok (.aload_n 0, 1) := by decide +kernel
theorem dX9_use_29 : decode cX9_use 29 = .ok (.getfield 50, 3) := by decide +kernel
theorem dX9_use_32 : decode cX9_use 32 = .ok (.iastore, 1) := by decide +kernel
theorem dX9_use_33 : decode cX9_use 33 = .ok (.return_, 1) := by decide +kernel
theorem dX9_tilesOf_0 : decode cX9_tilesOf 0 = .ok (.iconst 0, 1) := by decide +kernel
theorem dX9_tilesOf_1 : decode cX9_tilesOf 1 = .ok (.istore_n 2, 1) := by decide +kernel
theorem dX9_tilesOf_2 : decode cX9_tilesOf 2 = .ok (.iload_n 1, 1) := by decide +kernel
theorem dX9_tilesOf_3 : decode cX9_tilesOf 3 = .ok (.iconst 1, 1) := by decide +kernel
theorem dX9_tilesOf_4 : decode cX9_tilesOf 4 = .ok (.iadd, 1) := by decide +kernel
theorem dX9_tilesOf_5 : decode cX9_tilesOf 5 = .ok (.bipush 64, 2) := by decide +kernel
theorem dX9_tilesOf_7 : decode cX9_tilesOf 7 = .ok (.imul, 1) := by decide +kernel
theorem dX9_tilesOf_8 : decode cX9_tilesOf 8 = .ok (.istore_n 3, 1) := by decide +kernel
theorem dX9_tilesOf_9 : decode cX9_tilesOf 9 = .ok (.iconst 0, 1) := by decide +kernel
theorem dX9_tilesOf_10 : decode cX9_tilesOf 10 = .ok (.iload_n 3, 1) := by decide +kernel
theorem dX9_tilesOf_11 : decode cX9_tilesOf 11 = .ok (.bipush 64, 2) := by decide +kernel
theorem dX9_tilesOf_13 : decode cX9_tilesOf 13 = .ok (.isub, 1) := by decide +kernel
theorem dX9_tilesOf_14 : decode cX9_tilesOf 14 = .ok (.invokestatic 53, 3) := by decide +kernel
theorem dX9_tilesOf_17 : decode cX9_tilesOf 17 = .ok (.istore 4, 2) := by decide +kernel
theorem dX9_tilesOf_19 : decode cX9_tilesOf 19 = .ok (.iload 4, 2) := by decide +kernel
theorem dX9_tilesOf_21 : decode cX9_tilesOf 21 = .ok (.iload_n 3, 1) := by decide +kernel
theorem dX9_tilesOf_22 : decode cX9_tilesOf 22 = .ok (.if_icmp .ge 32, 3) := by decide +kernel
theorem dX9_tilesOf_25 : decode cX9_tilesOf 25 = .ok (.iload 4, 2) := by decide +kernel
theorem dX9_tilesOf_27 : decode cX9_tilesOf 27 = .ok (.aload_n 0, 1) := by decide +kernel
theorem dX9_tilesOf_28 : decode cX9_tilesOf 28 = .ok (.getfield 17, 3) := by decide +kernel
theorem dX9_tilesOf_31 : decode cX9_tilesOf 31 = .ok (.arraylength, 1) := by decide +kernel
theorem dX9_tilesOf_32 : decode cX9_tilesOf 32 = .ok (.if_icmp .ge 22, 3) := by decide +kernel
theorem dX9_tilesOf_35 : decode cX9_tilesOf 35 = .ok (.aload_n 0, 1) := by decide +kernel
theorem dX9_tilesOf_36 : decode cX9_tilesOf 36 = .ok (.getfield 17, 3) := by decide +kernel
theorem dX9_tilesOf_39 : decode cX9_tilesOf 39 = .ok (.iload 4, 2) := by decide +kernel
theorem dX9_tilesOf_41 : decode cX9_tilesOf 41 = .ok (.iaload, 1) := by decide +kernel
theorem dX9_tilesOf_42 : decode cX9_tilesOf 42 = .ok (.ifCond .le 6, 3) := by decide +kernel
theorem dX9_tilesOf_45 : decode cX9_tilesOf 45 = .ok (.iinc 2 1, 3) := by decide +kernel
theorem dX9_tilesOf_48 : decode cX9_tilesOf 48 = .ok (.iinc 4 1, 3) := by decide +kernel
theorem dX9_tilesOf_51 : decode cX9_tilesOf 51 = .ok (.goto (-32), 3) := by decide +kernel
theorem dX9_tilesOf_54 : decode cX9_tilesOf 54 = .ok (.iload_n 2, 1) := by decide +kernel
theorem dX9_tilesOf_55 : decode cX9_tilesOf 55 = .ok (.ireturn, 1) := by decide +kernel
theorem dX9_oldestSlot_0 : decode cX9_oldestSlot 0 = .ok (.iconst (-1), 1) := by decide +kernel
theorem dX9_oldestSlot_1 : decode cX9_oldestSlot 1 = .ok (.istore_n 1, 1) := by decide +kernel
theorem dX9_oldestSlot_2 : decode cX9_oldestSlot 2 = .ok (.aload_n 0, 1) := by decide +kernel
theorem dX9_oldestSlot_3 : decode cX9_oldestSlot 3 = .ok (.getfield 50, 3) := by decide +kernel
theorem dX9_oldestSlot_6 : decode cX9_oldestSlot 6 = .ok (.iconst 1, 1) := by decide +kernel
theorem dX9_oldestSlot_7 : decode cX9_oldestSlot 7 = .ok (.iadd, 1) := by decide +kernel
theorem dX9_oldestSlot_8 : decode cX9_oldestSlot 8 = .ok (.istore_n 2, 1) := by decide +kernel
theorem dX9_oldestSlot_9 : decode cX9_oldestSlot 9 = .ok (.iconst 0, 1) := by decide +kernel
theorem dX9_oldestSlot_10 : decode cX9_oldestSlot 10 = .ok (.istore_n 3, 1) := by decide +kernel
theorem dX9_oldestSlot_11 : decode cX9_oldestSlot 11 = .ok (.iload_n 3, 1) := by decide +kernel
theorem dX9_oldestSlot_12 : decode cX9_oldestSlot 12 = .ok (.aload_n 0, 1) := by decide +kernel
theorem dX9_oldestSlot_13 : decode cX9_oldestSlot 13 = .ok (.getfield 17, 3) := by decide +kernel
theorem dX9_oldestSlot_16 : decode cX9_oldestSlot 16 = .ok (.arraylength, 1) := by decide +kernel
theorem dX9_oldestSlot_17 : decode cX9_oldestSlot 17 = .ok (.if_icmp .ge 37, 3) := by decide +kernel
theorem dX9_oldestSlot_20 : decode cX9_oldestSlot 20 = .ok (.aload_n 0, 1) := by decide +kernel
theorem dX9_oldestSlot_21 : decode cX9_oldestSlot 21 = .ok (.getfield 17, 3) := by decide +kernel
theorem dX9_oldestSlot_24 : decode cX9_oldestSlot 24 = .ok (.iload_n 3, 1) := by decide +kernel
theorem dX9_oldestSlot_25 : decode cX9_oldestSlot 25 = .ok (.iaload, 1) := by decide +kernel
theorem dX9_oldestSlot_26 : decode cX9_oldestSlot 26 = .ok (.ifCond .le 22, 3) := by decide +kernel
theorem dX9_oldestSlot_29 : decode cX9_oldestSlot 29 = .ok (.aload_n 0, 1) := by decide +kernel
theorem dX9_oldestSlot_30 : decode cX9_oldestSlot 30 = .ok (.getfield 17, 3) := by decide +kernel
theorem dX9_oldestSlot_33 : decode cX9_oldestSlot 33 = .ok (.iload_n 3, 1) := by decide +kernel
theorem dX9_oldestSlot_34 : decode cX9_oldestSlot 34 = .ok (.iaload, 1) := by decide +kernel
theorem dX9_oldestSlot_35 : decode cX9_oldestSlot 35 = .ok (.iload_n 2, 1) := by decide +kernel
theorem dX9_oldestSlot_36 : decode cX9_oldestSlot 36 = .ok (.if_icmp .ge 12, 3) := by decide +kernel
theorem dX9_oldestSlot_39 : decode cX9_oldestSlot 39 = .ok (.aload_n 0, 1) := by decide +kernel
theorem dX9_oldestSlot_40 : decode cX9_oldestSlot 40 = .ok (.getfield 17, 3) := by decide +kernel
theorem dX9_oldestSlot_43 : decode cX9_oldestSlot 43 = .ok (.iload_n 3, 1) := by decide +kernel
theorem dX9_oldestSlot_44 : decode cX9_oldestSlot 44 = .ok (.iaload, 1) := by decide +kernel
theorem dX9_oldestSlot_45 : decode cX9_oldestSlot 45 = .ok (.istore_n 2, 1) := by decide +kernel
theorem dX9_oldestSlot_46 : decode cX9_oldestSlot 46 = .ok (.iload_n 3, 1) := by decide +kernel
theorem dX9_oldestSlot_47 : decode cX9_oldestSlot 47 = .ok (.istore_n 1, 1) := by decide +kernel
theorem dX9_oldestSlot_48 : decode cX9_oldestSlot 48 = .ok (.iinc 3 1, 3) := by decide +kernel
theorem dX9_oldestSlot_51 : decode cX9_oldestSlot 51 = .ok (.goto (-40), 3) := by decide +kernel
theorem dX9_oldestSlot_54 : decode cX9_oldestSlot 54 = .ok (.iload_n 1, 1) := by decide +kernel
theorem dX9_oldestSlot_55 : decode cX9_oldestSlot 55 = .ok (.ireturn, 1) := by decide +kernel
theorem dX9_dropSurplus_0 : decode cX9_dropSurplus 0 = .ok (.iconst 0, 1) := by decide +kernel
theorem dX9_dropSurplus_1 : decode cX9_dropSurplus 1 = .ok (.aload_n 0, 1) := by decide +kernel
theorem dX9_dropSurplus_2 : decode cX9_dropSurplus 2 = .ok (.getfield 47, 3) := by decide +kernel
theorem dX9_dropSurplus_5 : decode cX9_dropSurplus 5 = .ok (.aload_n 0, 1) := by decide +kernel
theorem dX9_dropSurplus_6 : decode cX9_dropSurplus 6 = .ok (.getfield 25, 3) := by decide +kernel
theorem dX9_dropSurplus_9 : decode cX9_dropSurplus 9 = .ok (.isub, 1) := by decide +kernel
theorem dX9_dropSurplus_10 : decode cX9_dropSurplus 10 = .ok (.invokestatic 53, 3) := by decide +kernel
theorem dX9_dropSurplus_13 : decode cX9_dropSurplus 13 = .ok (.istore_n 1, 1) := by decide +kernel
theorem dX9_dropSurplus_14 : decode cX9_dropSurplus 14 = .ok (.iconst 0, 1) := by decide +kernel
theorem dX9_dropSurplus_15 : decode cX9_dropSurplus 15 = .ok (.istore_n 2, 1) := by decide +kernel
theorem dX9_dropSurplus_16 : decode cX9_dropSurplus 16 = .ok (.iload_n 2, 1) := by decide +kernel
theorem dX9_dropSurplus_17 : decode cX9_dropSurplus 17 = .ok (.iload_n 1, 1) := by decide +kernel
theorem dX9_dropSurplus_18 : decode cX9_dropSurplus 18 = .ok (.if_icmp .ge 18, 3) := by decide +kernel
theorem dX9_dropSurplus_21 : decode cX9_dropSurplus 21 = .ok (.aload_n 0, 1) := by decide +kernel
theorem dX9_dropSurplus_22 : decode cX9_dropSurplus 22 = .ok (.aload_n 0, 1) := by decide +kernel
theorem dX9_dropSurplus_23 : decode cX9_dropSurplus 23 = .ok (.invokevirtual 58, 3) := by decide +kernel
theorem dX9_dropSurplus_26 : decode cX9_dropSurplus 26 = .ok (.invokevirtual 62, 3) := by decide +kernel
theorem dX9_dropSurplus_29 : decode cX9_dropSurplus 29 = .ok (.pop, 1) := by decide +kernel
theorem dX9_dropSurplus_30 : decode cX9_dropSurplus 30 = .ok (.iinc 2 1, 3) := by decide +kernel
theorem dX9_dropSurplus_33 : decode cX9_dropSurplus 33 = .ok (.goto (-17), 3) := by decide +kernel
theorem dX9_dropSurplus_36 : decode cX9_dropSurplus 36 = .ok (.aload_n 0, 1) := by decide +kernel
theorem dX9_dropSurplus_37 : decode cX9_dropSurplus 37 = .ok (.dup, 1) := by decide +kernel
theorem dX9_dropSurplus_38 : decode cX9_dropSurplus 38 = .ok (.getfield 66, 3) := by decide +kernel
theorem dX9_dropSurplus_41 : decode cX9_dropSurplus 41 = .ok (.iload_n 1, 1) := by decide +kernel
theorem dX9_dropSurplus_42 : decode cX9_dropSurplus 42 = .ok (.iadd, 1) := by decide +kernel
theorem dX9_dropSurplus_43 : decode cX9_dropSurplus 43 = .ok (.putfield 66, 3) := by decide +kernel
theorem dX9_dropSurplus_46 : decode cX9_dropSurplus 46 = .ok (.iload_n 1, 1) := by decide +kernel
theorem dX9_dropSurplus_47 : decode cX9_dropSurplus 47 = .ok (.ireturn, 1) := by decide +kernel
theorem dX9_removeAll_0 : decode cX9_removeAll 0 = .ok (.aload_n 0, 1) := by decide +kernel
theorem dX9_removeAll_1 : decode cX9_removeAll 1 = .ok (.iconst 0, 1) := by decide +kernel
theorem dX9_removeAll_2 : decode cX9_removeAll 2 = .ok (.invokevirtual 69, 3) := by decide +kernel
theorem dX9_removeAll_5 : decode cX9_removeAll 5 = .ok (.ireturn, 1) := by decide +kernel
theorem dX9_removeFrom_0 : decode cX9_removeFrom 0 = .ok (.aload_n 0, 1) := by decide +kernel
theorem dX9_removeFrom_1 : decode cX9_removeFrom 1 = .ok (.iload_n 1, 1) := by decide +kernel
theorem dX9_removeFrom_2 : decode cX9_removeFrom 2 = .ok (.bipush 64, 2) := by decide +kernel
theorem dX9_removeFrom_4 : decode cX9_removeFrom 4 = .ok (.imul, 1) := by decide +kernel
theorem dX9_removeFrom_5 : decode cX9_removeFrom 5 = .ok (.aload_n 0, 1) := by decide +kernel
theorem dX9_removeFrom_6 : decode cX9_removeFrom 6 = .ok (.getfield 17, 3) := by decide +kernel
theorem dX9_removeFrom_9 : decode cX9_removeFrom 9 = .ok (.arraylength, 1) := by decide +kernel
theorem dX9_removeFrom_10 : decode cX9_removeFrom 10 = .ok (.invokevirtual 72, 3) := by decide +kernel
theorem dX9_removeFrom_13 : decode cX9_removeFrom 13 = .ok (.ireturn, 1) := by decide +kernel
theorem dX9_removeTouched_0 : decode cX9_removeTouched 0 = .ok (.iconst 0, 1) := by decide +kernel
theorem dX9_removeTouched_1 : decode cX9_removeTouched 1 = .ok (.istore 6, 2) := by decide +kernel
theorem dX9_removeTouched_3 : decode cX9_removeTouched 3 = .ok (.aload_n 0, 1) := by decide +kernel
theorem dX9_removeTouched_4 : decode cX9_removeTouched 4 = .ok (.iload_n 3, 1) := by decide +kernel
theorem dX9_removeTouched_5 : decode cX9_removeTouched 5 = .ok (.invokevirtual 75, 3) := by decide +kernel
theorem dX9_removeTouched_8 : decode cX9_removeTouched 8 = .ok (.istore 7, 2) := by decide +kernel
theorem dX9_removeTouched_10 : decode cX9_removeTouched 10 = .ok (.iload 7, 2) := by decide +kernel
theorem dX9_removeTouched_12 : decode cX9_removeTouched 12 = .ok (.aload_n 0, 1) := by decide +kernel
theorem dX9_removeTouched_13 : decode cX9_removeTouched 13 = .ok (.iload 5, 2) := by decide +kernel
theorem dX9_removeTouched_15 : decode cX9_removeTouched 15 = .ok (.invokevirtual 75, 3) := by decide +kernel
theorem dX9_removeTouched_18 : decode cX9_removeTouched 18 = .ok (.if_icmp .gt 50, 3) := by decide +kernel
theorem dX9_removeTouched_21 : decode cX9_removeTouched 21 = .ok (.aload_n 0, 1) := by decide +kernel
theorem dX9_removeTouched_22 : decode cX9_removeTouched 22 = .ok (.iload_n 2, 1) := by decide +kernel
theorem dX9_removeTouched_23 : decode cX9_removeTouched 23 = .ok (.invokevirtual 75, 3) := by decide +kernel
theorem dX9_removeTouched_26 : decode cX9_removeTouched 26 = .ok (.istore 8, 2) := by decide +kernel
theorem dX9_removeTouched_28 : decode cX9_removeTouched 28 = .ok (.iload 8, 2) := by decide +kernel
theorem dX9_removeTouched_30 : decode cX9_removeTouched 30 = .ok (.aload_n 0, 1) := by decide +kernel
theorem dX9_removeTouched_31 : decode cX9_removeTouched 31 = .ok (.iload 4, 2) := by decide +kernel
theorem dX9_removeTouched_33 : decode cX9_removeTouched 33 = .ok (.invokevirtual 75, 3) := by decide +kernel
theorem dX9_removeTouched_36 : decode cX9_removeTouched 36 = .ok (.if_icmp .gt 26, 3) := by decide +kernel
theorem dX9_removeTouched_39 : decode cX9_removeTouched 39 = .ok (.iload 6, 2) := by decide +kernel
theorem dX9_removeTouched_41 : decode cX9_removeTouched 41 = .ok (.aload_n 0, 1) := by decide +kernel
theorem dX9_removeTouched_42 : decode cX9_removeTouched 42 = .ok (.iload_n 1, 1) := by decide +kernel
theorem dX9_removeTouched_43 : decode cX9_removeTouched 43 = .ok (.iload 8, 2) := by decide +kernel
theorem dX9_removeTouched_45 : decode cX9_removeTouched 45 = .ok (.iload 7, 2) := by decide +kernel
theorem dX9_removeTouched_47 : decode cX9_removeTouched 47 = .ok (.invokestatic 33, 3) := by decide +kernel
theorem dX9_removeTouched_50 : decode cX9_removeTouched 50 = .ok (.invokevirtual 62, 3) := by decide +kernel
theorem dX9_removeTouched_53 : decode cX9_removeTouched 53 = .ok (.iadd, 1) := by decide +kernel
theorem dX9_removeTouched_54 : decode cX9_removeTouched 54 = .ok (.istore 6, 2) := by decide +kernel
theorem dX9_removeTouched_56 : decode cX9_removeTouched 56 = .ok (.iinc 8 1, 3) := by decide +kernel
theorem dX9_removeTouched_59 : decode cX9_removeTouched 59 = .ok (.goto (-31), 3) := by decide +kernel
theorem dX9_removeTouched_62 : decode cX9_removeTouched 62 = .ok (.iinc 7 1, 3) := by decide +kernel
theorem dX9_removeTouched_65 : decode cX9_removeTouched 65 = .ok (.goto (-55), 3) := by decide +kernel
theorem dX9_removeTouched_68 : decode cX9_removeTouched 68 = .ok (.iload 6, 2) := by decide +kernel
theorem dX9_removeTouched_70 : decode cX9_removeTouched 70 = .ok (.ireturn, 1) := by decide +kernel
theorem dX9_removeLowest_0 : decode cX9_removeLowest 0 = .ok (.iload_n 1, 1) := by decide +kernel
theorem dX9_removeLowest_1 : decode cX9_removeLowest 1 = .ok (.iconst 1, 1) := by decide +kernel
theorem dX9_removeLowest_2 : decode cX9_removeLowest 2 = .ok (.if_icmp .ge 4, 3) := by decide +kernel
theorem dX9_removeLowest_5 : decode cX9_removeLowest 5 = .ok (.return_, 1) := by decide +kernel
theorem dX9_removeLowest_6 : decode cX9_removeLowest 6 = .ok (.iload_n 1, 1) := by decide +kernel
theorem dX9_removeLowest_7 : decode cX9_removeLowest 7 = .ok (.bipush 64, 2) := by decide +kernel
theorem dX9_removeLowest_9 : decode cX9_removeLowest 9 = .ok (.imul, 1) := by decide +kernel
theorem dX9_removeLowest_10 : decode cX9_removeLowest 10 = .ok (.istore_n 2, 1) := by decide +kernel
theorem dX9_removeLowest_11 : decode cX9_removeLowest 11 = .ok (.aload_n 0, 1) := by decide +kernel
theorem dX9_removeLowest_12 : decode cX9_removeLowest 12 = .ok (.iconst 0, 1) := by decide +kernel
theorem dX9_removeLowest_13 : decode cX9_removeLowest 13 = .ok (.iload_n 2, 1) := by decide +kernel
theorem dX9_removeLowest_14 : decode cX9_removeLowest 14 = .ok (.invokevirtual 72, 3) := by decide +kernel
theorem dX9_removeLowest_17 : decode cX9_removeLowest 17 = .ok (.pop, 1) := by decide +kernel
theorem dX9_removeLowest_18 : decode cX9_removeLowest 18 = .ok (.iload_n 2, 1) := by decide +kernel
theorem dX9_removeLowest_19 : decode cX9_removeLowest 19 = .ok (.istore_n 3, 1) := by decide +kernel
theorem dX9_removeLowest_20 : decode cX9_removeLowest 20 = .ok (.iload_n 3, 1) := by decide +kernel
theorem dX9_removeLowest_21 : decode cX9_removeLowest 21 = .ok (.aload_n 0, 1) := by decide +kernel
theorem dX9_removeLowest_22 : decode cX9_removeLowest 22 = .ok (.getfield 17, 3) := by decide +kernel
theorem dX9_removeLowest_25 : decode cX9_removeLowest 25 = .ok (.arraylength, 1) := by decide +kernel
theorem dX9_removeLowest_26 : decode cX9_removeLowest 26 = .ok (.if_icmp .ge 30, 3) := by decide +kernel
theorem dX9_removeLowest_29 : decode cX9_removeLowest 29 = .ok (.aload_n 0, 1) := by decide +kernel
theorem dX9_removeLowest_30 : decode cX9_removeLowest 30 = .ok (.getfield 17, 3) := by decide +kernel
theorem dX9_removeLowest_33 : decode cX9_removeLowest 33 = .ok (.iload_n 3, 1) := by decide +kernel
theorem dX9_removeLowest_34 : decode cX9_removeLowest 34 = .ok (.iload_n 2, 1) := by decide +kernel
theorem dX9_removeLowest_35 : decode cX9_removeLowest 35 = .ok (.isub, 1) := by decide +kernel
theorem dX9_removeLowest_36 : decode cX9_removeLowest 36 = .ok (.aload_n 0, 1) := by decide +kernel
theorem dX9_removeLowest_37 : decode cX9_removeLowest 37 = .ok (.getfield 17, 3) := by decide +kernel
theorem dX9_removeLowest_40 : decode cX9_removeLowest 40 = .ok (.iload_n 3, 1) := by decide +kernel
theorem dX9_removeLowest_41 : decode cX9_removeLowest 41 = .ok (.iaload, 1) := by decide +kernel
theorem dX9_removeLowest_42 : decode cX9_removeLowest 42 = .ok (.iastore, 1) := by decide +kernel
theorem dX9_removeLowest_43 : decode cX9_removeLowest 43 = .ok (.aload_n 0, 1) := by decide +kernel
theorem dX9_removeLowest_44 : decode cX9_removeLowest 44 = .ok (.getfield 17, 3) := by decide +kernel
theorem dX9_removeLowest_47 : decode cX9_removeLowest 47 = .ok (.iload_n 3, 1) := by decide +kernel
theorem dX9_removeLowest_48 : decode cX9_removeLowest 48 = .ok (.iconst 0, 1) := by decide +kernel
theorem dX9_removeLowest_49 : decode cX9_removeLowest 49 = .ok (.iastore, 1) := by decide +kernel
theorem dX9_removeLowest_50 : decode cX9_removeLowest 50 = .ok (.iinc 3 1, 3) := by decide +kernel
theorem dX9_removeLowest_53 : decode cX9_removeLowest 53 = .ok (.goto (-33), 3) := by decide +kernel
theorem dX9_removeLowest_56 : decode cX9_removeLowest 56 = .ok (.iload_n 1, 1) := by decide +kernel
theorem dX9_removeLowest_57 : decode cX9_removeLowest 57 = .ok (.istore_n 3, 1) := by decide +kernel
theorem dX9_removeLowest_58 : decode cX9_removeLowest 58 = .ok (.iload_n 3, 1) := by decide +kernel
theorem dX9_removeLowest_59 : decode cX9_removeLowest 59 = .ok (.aload_n 0, 1) := by decide +kernel
theorem dX9_removeLowest_60 : decode cX9_removeLowest 60 = .ok (.getfield 13, 3) := by decide +kernel
theorem dX9_removeLowest_63 : decode cX9_removeLowest 63 = .ok (.arraylength, 1) := by decide +kernel
theorem dX9_removeLowest_64 : decode cX9_removeLowest 64 = .ok (.if_icmp .ge 44, 3) := by decide +kernel
theorem dX9_removeLowest_67 : decode cX9_removeLowest 67 = .ok (.aload_n 0, 1) := by decide +kernel
theorem dX9_removeLowest_68 : decode cX9_removeLowest 68 = .ok (.getfield 13, 3) := by decide +kernel
theorem dX9_removeLowest_71 : decode cX9_removeLowest 71 = .ok (.iload_n 3, 1) := by decide +kernel
theorem dX9_removeLowest_72 : decode cX9_removeLowest 72 = .ok (.aaload, 1) := by decide +kernel
theorem dX9_removeLowest_73 : decode cX9_removeLowest 73 = .ok (.astore 4, 2) := by decide +kernel
theorem dX9_removeLowest_75 : decode cX9_removeLowest 75 = .ok (.aload_n 0, 1) := by decide +kernel
theorem dX9_removeLowest_76 : decode cX9_removeLowest 76 = .ok (.getfield 13, 3) := by decide +kernel
theorem dX9_removeLowest_79 : decode cX9_removeLowest 79 = .ok (.iload_n 3, 1) := by decide +kernel
theorem dX9_removeLowest_80 : decode cX9_removeLowest 80 = .ok (.iload_n 1, 1) := by decide +kernel
theorem dX9_removeLowest_81 : decode cX9_removeLowest 81 = .ok (.isub, 1) := by decide +kernel
theorem dX9_removeLowest_82 : decode cX9_removeLowest 82 = .ok (.aaload, 1) := by decide +kernel
theorem dX9_removeLowest_83 : decode cX9_removeLowest 83 = .ok (.astore 5, 2) := by decide +kernel
theorem dX9_removeLowest_85 : decode cX9_removeLowest 85 = .ok (.aload 4, 2) := by decide +kernel
theorem dX9_removeLowest_87 : decode cX9_removeLowest 87 = .ok (.ifnull 15, 3) := by decide +kernel
theorem dX9_removeLowest_90 : decode cX9_removeLowest 90 = .ok (.aload 5, 2) := by decide +kernel
theorem dX9_removeLowest_92 : decode cX9_removeLowest 92 = .ok (.ifnull 10, 3) := by decide +kernel
theorem dX9_removeLowest_95 : decode cX9_removeLowest 95 = .ok (.aload 5, 2) := by decide +kernel
theorem dX9_removeLowest_97 : decode cX9_removeLowest 97 = .ok (.aload 4, 2) := by decide +kernel
theorem dX9_removeLowest_99 : decode cX9_removeLowest 99 = .ok (.invokevirtual 78, 3) := by decide +kernel
theorem dX9_removeLowest_102 : decode cX9_removeLowest 102 = .ok (.iinc 3 1, 3) := by decide +kernel
theorem dX9_removeLowest_105 : decode cX9_removeLowest 105 = .ok (.goto (-47), 3) := by decide +kernel
theorem dX9_removeLowest_108 : decode cX9_removeLowest 108 = .ok (.return_, 1) := by decide +kernel
theorem dX9_removeSlots_0 : decode cX9_removeSlots 0 = .ok (.iconst 0, 1) := by decide +kernel
theorem dX9_removeSlots_1 : decode cX9_removeSlots 1 = .ok (.istore_n 3, 1) := by decide +kernel
theorem dX9_removeSlots_2 : decode cX9_removeSlots 2 = .ok (.iconst 0, 1) := by decide +kernel
theorem dX9_removeSlots_3 : decode cX9_removeSlots 3 = .ok (.iload_n 1, 1) := by decide +kernel
theorem dX9_removeSlots_4 : decode cX9_removeSlots 4 = .ok (.invokestatic 53, 3) := by decide +kernel
theorem dX9_removeSlots_7 : decode cX9_removeSlots 7 = .ok (.istore 4, 2) := by decide +kernel
theorem dX9_removeSlots_9 : decode cX9_removeSlots 9 = .ok (.iload 4, 2) := by decide +kernel
theorem dX9_removeSlots_11 : decode cX9_removeSlots 11 = .ok (.iload_n 2, 1) := by decide +kernel
theorem dX9_removeSlots_12 : decode cX9_removeSlots 12 = .ok (.if_icmp .ge 28, 3) := by decide +kernel
theorem dX9_removeSlots_15 : decode cX9_removeSlots 15 = .ok (.iload 4, 2) := by decide +kernel
theorem dX9_removeSlots_17 : decode cX9_removeSlots 17 = .ok (.aload_n 0, 1) := by decide +kernel
theorem dX9_removeSlots_18 : decode cX9_removeSlots 18 = .ok (.getfield 17, 3) := by decide +kernel
theorem dX9_removeSlots_21 : decode cX9_removeSlots 21 = .ok (.arraylength, 1) := by decide +kernel
theorem dX9_removeSlots_22 : decode cX9_removeSlots 22 = .ok (.if_icmp .ge 18, 3) := by decide +kernel
theorem dX9_removeSlots_25 : decode cX9_removeSlots 25 = .ok (.iload_n 3, 1) := by decide +kernel
theorem dX9_removeSlots_26 : decode cX9_removeSlots 26 = .ok (.aload_n 0, 1) := by decide +kernel
theorem dX9_removeSlots_27 : decode cX9_removeSlots 27 = .ok (.iload 4, 2) := by decide +kernel
theorem dX9_removeSlots_29 : decode cX9_removeSlots 29 = .ok (.invokevirtual 62, 3) := by decide +kernel
theorem dX9_removeSlots_32 : decode cX9_removeSlots 32 = .ok (.iadd, 1) := by decide +kernel
theorem dX9_removeSlots_33 : decode cX9_removeSlots 33 = .ok (.istore_n 3, 1) := by decide +kernel
theorem dX9_removeSlots_34 : decode cX9_removeSlots 34 = .ok (.iinc 4 1, 3) := by decide +kernel
theorem dX9_removeSlots_37 : decode cX9_removeSlots 37 = .ok (.goto (-28), 3) := by decide +kernel
theorem dX9_removeSlots_40 : decode cX9_removeSlots 40 = .ok (.iload_n 3, 1) := by decide +kernel
theorem dX9_removeSlots_41 : decode cX9_removeSlots 41 = .ok (.ireturn, 1) := by decide +kernel
theorem dX9_remove_0 : decode cX9_remove 0 = .ok (.iload_n 1, 1) := by decide +kernel
theorem dX9_remove_1 : decode cX9_remove 1 = .ok (.ifCond .lt 21, 3) := by decide +kernel
theorem dX9_remove_4 : decode cX9_remove 4 = .ok (.iload_n 1, 1) := by decide +kernel
theorem dX9_remove_5 : decode cX9_remove 5 = .ok (.aload_n 0, 1) := by decide +kernel
theorem dX9_remove_6 : decode cX9_remove 6 = .ok (.getfield 17, 3) := by decide +kernel
theorem dX9_remove_9 : decode cX9_remove 9 = .ok (.arraylength, 1) := by decide +kernel
theorem dX9_remove_10 : decode cX9_remove 10 = .ok (.if_icmp .ge 12, 3) := by decide +kernel
theorem dX9_remove_13 : decode cX9_remove 13 = .ok (.aload_n 0, 1) := by decide +kernel
theorem dX9_remove_14 : decode cX9_remove 14 = .ok (.getfield 17, 3) := by decide +kernel
theorem dX9_remove_17 : decode cX9_remove 17 = .ok (.iload_n 1, 1) := by decide +kernel
theorem dX9_remove_18 : decode cX9_remove 18 = .ok (.iaload, 1) := by decide +kernel
theorem dX9_remove_19 : decode cX9_remove 19 = .ok (.ifCond .ne 5, 3) := by decide +kernel
theorem dX9_remove_22 : decode cX9_remove 22 = .ok (.iconst 0, 1) := by decide +kernel
theorem dX9_remove_23 : decode cX9_remove 23 = .ok (.ireturn, 1) := by decide +kernel
theorem dX9_remove_24 : decode cX9_remove 24 = .ok (.aload_n 0, 1) := by decide +kernel
theorem dX9_remove_25 : decode cX9_remove 25 = .ok (.getfield 17, 3) := by decide +kernel
theorem dX9_remove_28 : decode cX9_remove 28 = .ok (.iload_n 1, 1) := by decide +kernel
theorem dX9_remove_29 : decode cX9_remove 29 = .ok (.iconst 0, 1) := by decide +kernel
theorem dX9_remove_30 : decode cX9_remove 30 = .ok (.iastore, 1) := by decide +kernel
theorem dX9_remove_31 : decode cX9_remove 31 = .ok (.aload_n 0, 1) := by decide +kernel
theorem dX9_remove_32 : decode cX9_remove 32 = .ok (.dup, 1) := by decide +kernel
theorem dX9_remove_33 : decode cX9_remove 33 = .ok (.getfield 47, 3) := by decide +kernel
theorem dX9_remove_36 : decode cX9_remove 36 = .ok (.iconst 1, 1) := by decide +kernel
theorem dX9_remove_37 : decode cX9_remove 37 = .ok (.isub, 1) := by decide +kernel
theorem dX9_remove_38 : decode cX9_remove 38 = .ok (.putfield 47, 3) := by decide +kernel
theorem dX9_remove_41 : decode cX9_remove 41 = .ok (.iconst 1, 1) := by decide +kernel
theorem dX9_remove_42 : decode cX9_remove 42 = .ok (.ireturn, 1) := by decide +kernel
theorem dX10_init_0 : decode cX10_init 0 = .ok (.aload_n 0, 1) := by decide +kernel
theorem dX10_init_1 : decode cX10_init 1 = .ok (.invokespecial 1, 3) := by decide +kernel
theorem dX10_init_4 : decode cX10_init 4 = .ok (.aload_n 0, 1) := by decide +kernel
theorem dX10_init_5 : decode cX10_init 5 = .ok (.new 7, 3) := by decide +kernel
theorem dX10_init_8 : decode cX10_init 8 = .ok (.dup, 1) := by decide +kernel
theorem dX10_init_9 : decode cX10_init 9 = .ok (.invokespecial 9, 3) := by decide +kernel
theorem dX10_init_12 : decode cX10_init 12 = .ok (.putfield 10, 3) := by decide +kernel
theorem dX10_init_15 : decode cX10_init 15 = .ok (.aload_n 0, 1) := by decide +kernel
theorem dX10_init_16 : decode cX10_init 16 = .ok (.new 7, 3) := by decide +kernel
theorem dX10_init_19 : decode cX10_init 19 = .ok (.dup, 1) := by decide +kernel
theorem dX10_init_20 : decode cX10_init 20 = .ok (.invokespecial 9, 3) := by decide +kernel
theorem dX10_init_23 : decode cX10_init 23 = .ok (.putfield 16, 3) := by decide +kernel
theorem dX10_init_26 : decode cX10_init 26 = .ok (.aload_n 0, 1) := by decide +kernel
theorem dX10_init_27 : decode cX10_init 27 = .ok (.new 19, 3) := by decide +kernel
theorem dX10_init_30 : decode cX10_init 30 = .ok (.dup, 1) := by decide +kernel
theorem dX10_init_31 : decode cX10_init 31 = .ok (.invokespecial 21, 3) := by decide +kernel
theorem dX10_init_34 : decode cX10_init 34 = .ok (.putfield 22, 3) := by decide +kernel
theorem dX10_init_37 : decode cX10_init 37 = .ok (.aload_n 0, 1) := by decide +kernel
theorem dX10_init_38 : decode cX10_init 38 = .ok (.iconst 2, 1) := by decide +kernel
theorem dX10_init_39 : decode cX10_init 39 = .ok (.anewarray 7, 3) := by decide +kernel
theorem dX10_init_42 : decode cX10_init 42 = .ok (.putfield 26, 3) := by decide +kernel
theorem dX10_init_45 : decode cX10_init 45 = .ok (.aload_n 0, 1) := by decide +kernel
theorem dX10_init_46 : decode cX10_init 46 = .ok (.new 30, 3) := by decide +kernel
theorem dX10_init_49 : decode cX10_init 49 = .ok (.dup, 1) := by decide +kernel
theorem dX10_init_50 : decode cX10_init 50 = .ok (.invokespecial 32, 3) := by decide +kernel
theorem dX10_init_53 : decode cX10_init 53 = .ok (.putfield 33, 3) := by decide +kernel
theorem dX10_init_56 : decode cX10_init 56 = .ok (.aload_n 0, 1) := by decide +kernel
theorem dX10_init_57 : decode cX10_init 57 = .ok (.new 37, 3) := by decide +kernel
theorem dX10_init_60 : decode cX10_init 60 = .ok (.dup, 1) := by decide +kernel
theorem dX10_init_61 : decode cX10_init 61 = .ok (.invokespecial 39, 3) := by decide +kernel
theorem dX10_init_64 : decode cX10_init 64 = .ok (.putfield 40, 3) := by decide +kernel
theorem dX10_init_67 : decode cX10_init 67 = .ok (.aload_n 0, 1) := by decide +kernel
theorem dX10_init_68 : decode cX10_init 68 = .ok (.new 44, 3) := by decide +kernel
theorem dX10_init_71 : decode cX10_init 71 = .ok (.dup, 1) := by decide +kernel
theorem dX10_init_72 : decode cX10_init 72 = .ok (.invokespecial 46, 3) := by decide +kernel
theorem dX10_init_75 : decode cX10_init 75 = .ok (.putfield 47, 3) := by decide +kernel
theorem dX10_init_78 : decode cX10_init 78 = .ok (.aload_n 0, 1) := by decide +kernel
theorem dX10_init_79 : decode cX10_init 79 = .ok (.new 51, 3) := by decide +kernel
theorem dX10_init_82 : decode cX10_init 82 = .ok (.dup, 1) := by decide +kernel
theorem dX10_init_83 : decode cX10_init 83 = .ok (.invokespecial 53, 3) := by decide +kernel
theorem dX10_init_86 : decode cX10_init 86 = .ok (.putfield 54, 3) := by decide +kernel
theorem dX10_init_89 : decode cX10_init 89 = .ok (.aload_n 0, 1) := by decide +kernel
theorem dX10_init_90 : decode cX10_init 90 = .ok (.new 51, 3) := by decide +kernel
theorem dX10_init_93 : decode cX10_init 93 = .ok (.dup, 1) := by decide +kernel
theorem dX10_init_94 : decode cX10_init 94 = .ok (.invokespecial 53, 3) := by decide +kernel
theorem dX10_init_97 : decode cX10_init 97 = .ok (.putfield 58, 3) := by decide +kernel
theorem dX10_init_100 : decode cX10_init 100 = .ok (.aload_n 0, 1) := by decide +kernel
theorem dX10_init_101 : decode cX10_init 101 = .ok (.getfield 10, 3) := by decide +kernel
theorem dX10_init_104 : decode cX10_init 104 = .ok (.getfield 61, 3) := by decide +kernel
theorem dX10_init_107 : decode cX10_init 107 = .ok (.bipush 8, 2) := by decide +kernel
theorem dX10_init_109 : decode cX10_init 109 = .ok (.bipush 8, 2) := by decide +kernel
theorem dX10_init_111 : decode cX10_init 111 = .ok (.invokevirtual 64, 3) := by decide +kernel
theorem dX10_init_114 : decode cX10_init 114 = .ok (.return_, 1) := by decide +kernel
theorem dX10_newImage_0 : decode cX10_newImage 0 = .ok (.iload_n 1, 1) := by decide +kernel
theorem dX10_newImage_1 : decode cX10_newImage 1 = .ok (.iconst 4, 1) := by decide +kernel
theorem dX10_newImage_2 : decode cX10_newImage 2 = .ok (.bipush 16, 2) := by decide +kernel
theorem dX10_newImage_4 : decode cX10_newImage 4 = .ok (.invokestatic 68, 3) := by decide +kernel
theorem dX10_newImage_7 : decode cX10_newImage 7 = .ok (.ifCond .eq 13, 3) := by decide +kernel
theorem dX10_newImage_10 : decode cX10_newImage 10 = .ok (.iload_n 2, 1) := by decide +kernel
theorem dX10_newImage_11 : decode cX10_newImage 11 = .ok (.iconst 4, 1) := by decide +kernel
theorem dX10_newImage_12 : decode cX10_newImage 12 = .ok (.bipush 16, 2) := by decide +kernel
theorem dX10_newImage_14 : decode cX10_newImage 14 = .ok (.invokestatic 68, 3) := by decide +kernel
theorem dX10_newImage_17 : decode cX10_newImage 17 = .ok (.ifCond .ne 7, 3) := by decide +kernel
theorem dX10_newImage_20 : decode cX10_newImage 20 = .ok (.sipush (-1001), 3) := by decide +kernel
theorem dX10_newImage_23 : decode cX10_newImage 23 = .ok (.ireturn, 1) := by decide +kernel
theorem dX10_newImage_24 : decode cX10_newImage 24 = .ok (.aload_n 0, 1) := by decide +kernel
theorem dX10_newImage_25 : decode cX10_newImage 25 = .ok (.getfield 22, 3) := by decide +kernel
theorem dX10_newImage_28 : decode cX10_newImage 28 = .ok (.aload_n 0, 1) := by decide +kernel
theorem dX10_newImage_29 : decode cX10_newImage 29 = .ok (.getfield 10, 3) := by decide +kernel
theorem dX10_newImage_32 : decode cX10_newImage 32 = .ok (.invokevirtual 72, 3) := by decide +kernel
theorem dX10_newImage_35 : decode cX10_newImage 35 = .ok (.aload_n 0, 1) := by decide +kernel
theorem dX10_newImage_36 : decode cX10_newImage 36 = .ok (.getfield 10, 3) := by decide +kernel
theorem dX10_newImage_39 : decode cX10_newImage 39 = .ok (.getfield 61, 3) := by decide +kernel
theorem dX10_newImage_42 : decode cX10_newImage 42 = .ok (.iload_n 1, 1) := by decide +kernel
theorem dX10_newImage_43 : decode cX10_newImage 43 = .ok (.iload_n 2, 1) := by decide +kernel
theorem dX10_newImage_44 : decode cX10_newImage 44 = .ok (.invokevirtual 64, 3) := by decide +kernel
theorem dX10_newImage_47 : decode cX10_newImage 47 = .ok (.aload_n 0, 1) := by decide +kernel
theorem dX10_newImage_48 : decode cX10_newImage 48 = .ok (.getfield 40, 3) := by decide +kernel
theorem dX10_newImage_51 : decode cX10_newImage 51 = .ok (.invokevirtual 76, 3) := by decide +kernel
theorem dX10_newImage_54 : decode cX10_newImage 54 = .ok (.pop, 1) := by decide +kernel
theorem dX10_newImage_55 : decode cX10_newImage 55 = .ok (.iload_n 1, 1) := by decide +kernel
theorem dX10_newImage_56 : decode cX10_newImage 56 = .ok (.iload_n 2, 1) := by decide +kernel
theorem dX10_newImage_57 : decode cX10_newImage 57 = .ok (.imul, 1) := by decide +kernel
theorem dX10_newImage_58 : decode cX10_newImage 58 = .ok (.ireturn, 1) := by decide +kernel
theorem dX10_setPixel_0 : decode cX10_setPixel 0 = .ok (.aload_n 0, 1) := by decide +kernel
theorem dX10_setPixel_1 : decode cX10_setPixel 1 = .ok (.getfield 10, 3) := by decide +kernel
theorem dX10_setPixel_4 : decode cX10_setPixel 4 = .ok (.getfield 61, 3) := by decide +kernel
theorem dX10_setPixel_7 : decode cX10_setPixel 7 = .ok (.iload_n 1, 1) := by decide +kernel
theorem dX10_setPixel_8 : decode cX10_setPixel 8 = .ok (.iload_n 2, 1) := by decide +kernel
theorem dX10_setPixel_9 : decode cX10_setPixel 9 = .ok (.invokevirtual 80, 3) := by decide +kernel
theorem dX10_setPixel_12 : decode cX10_setPixel 12 = .ok (.ifCond .eq 14, 3) := by decide +kernel
theorem dX10_setPixel_15 : decode cX10_setPixel 15 = .ok (.iload_n 3, 1) := by decide +kernel
theorem dX10_setPixel_16 : decode cX10_setPixel 16 = .ok (.iconst 0, 1) := by decide +kernel
theorem dX10_setPixel_17 : decode cX10_setPixel 17 = .ok (.sipush 255, 3) := by decide +kernel
theorem dX10_setPixel_20 : decode cX10_setPixel 20 = .ok (.invokestatic 68, 3) := by decide +kernel
theorem dX10_setPixel_23 : decode cX10_setPixel 23 = .ok (.ifCond .ne 7, 3) := by decide +kernel
theorem dX10_setPixel_26 : decode cX10_setPixel 26 = .ok (.sipush (-1001), 3) := by decide +kernel
theorem dX10_setPixel_29 : decode cX10_setPixel 29 = .ok (.ireturn, 1) := by decide +kernel
theorem dX10_setPixel_30 : decode cX10_setPixel 30 = .ok (.aload_n 0, 1) := by decide +kernel
theorem dX10_setPixel_31 : decode cX10_setPixel 31 = .ok (.iload_n 1, 1) := by decide +kernel
theorem dX10_setPixel_32 : decode cX10_setPixel 32 = .ok (.iload_n 2, 1) := by decide +kernel
theorem dX10_setPixel_33 : decode cX10_setPixel 33 = .ok (.iload_n 1, 1) := by decide +kernel
theorem dX10_setPixel_34 : decode cX10_setPixel 34 = .ok (.iload_n 2, 1) := by decide +kernel
theorem dX10_setPixel_35 : decode cX10_setPixel 35 = .ok (.iload_n 3, 1) := by decide +kernel
theorem dX10_setPixel_36 : decode cX10_setPixel 36 = .ok (.invokevirtual 84, 3) := by decide +kernel
theorem dX10_setPixel_39 : decode cX10_setPixel 39 = .ok (.ireturn, 1) := by decide +kernel
theorem dX10_fillRectangle_0 : decode cX10_fillRectangle 0 = .ok (.aload_n 0, 1) := by decide +kernel
theorem dX10_fillRectangle_1 : decode cX10_fillRectangle 1 = .ok (.getfield 10, 3) := by decide +kernel
theorem dX10_fillRectangle_4 : decode cX10_fillRectangle 4 = .ok (.getfield 61, 3) := by decide +kernel
theorem dX10_fillRectangle_7 : decode cX10_fillRectangle 7 = .ok (.astore 6, 2) := by decide +kernel
theorem dX10_fillRectangle_9 : decode cX10_fillRectangle 9 = .ok (.aload 6, 2) := by decide +kernel
theorem dX10_fillRectangle_11 : decode cX10_fillRectangle 11 = .ok (.iload_n 1, 1) := by decide +kernel
theorem dX10_fillRectangle_12 : decode cX10_fillRectangle 12 = .ok (.iload_n 2, 1) := by decide +kernel
theorem dX10_fillRectangle_13 : decode cX10_fillRectangle 13 = .ok (.invokevirtual 80, 3) := by decide +kernel
theorem dX10_fillRectangle_16 : decode cX10_fillRectangle 16 = .ok (.ifCond .eq 38, 3) := by decide +kernel
theorem dX10_fillRectangle_19 : decode cX10_fillRectangle 19 = .ok (.iload_n 3, 1) := by decide +kernel
theorem dX10_fillRectangle_20 : decode cX10_fillRectangle 20 = .ok (.iconst 1, 1) := by decide +kernel
theorem dX10_fillRectangle_21 : decode cX10_fillRectangle 21 = .ok (.aload 6, 2) := by decide +kernel
theorem dX10_fillRectangle_23 : decode cX10_fillRectangle 23 = .ok (.getfield 88, 3) := by decide +kernel
theorem dX10_fillRectangle_26 : decode cX10_fillRectangle 26 = .ok (.iload_n 1, 1) := by decide +kernel
theorem dX10_fillRectangle_27 : decode cX10_fillRectangle 27 = .ok (.isub, 1) := by decide +kernel
theorem dX10_fillRectangle_28 : decode cX10_fillRectangle 28 = .ok (.invokestatic 68, 3) := by decide +kernel
theorem dX10_fillRectangle_31 : decode cX10_fillRectangle 31 = .ok (.ifCond .eq 23, 3) := by decide +kernel
theorem dX10_fillRectangle_34 : decode cX10_fillRectangle 34 = .ok (.iload 4, 2) := by decide +kernel
theorem dX10_fillRectangle_36 : decode cX10_fillRectangle 36 = .ok (.iconst 1, 1) := by decide +kernel
theorem dX10_fillRectangle_37 : decode cX10_fillRectangle 37 = .ok (.aload 6, 2) := by decide +kernel
theorem dX10_fillRectangle_39 : decode cX10_fillRectangle 39 = .ok (.getfield 92, 3) := by decide +kernel
theorem dX10_fillRectangle_42 : decode cX10_fillRectangle 42 = .ok (.iload_n 2, 1) := by decide +kernel
theorem dX10_fillRectangle_43 : decode cX10_fillRectangle 43 = .ok (.isub, 1) := by decide +kernel
theorem dX10_fillRectangle_44 : decode cX10_fillRectangle 44 = .ok (.invokestatic 68, 3) := by decide +kernel
theorem dX10_fillRectangle_47 : decode cX10_fillRectangle 47 = .ok (.ifCond .eq 7, 3) := by decide +kernel
theorem dX10_fillRectangle_50 : decode cX10_fillRectangle 50 = .ok (.iconst 1, 1) := by decide +kernel
theorem dX10_fillRectangle_51 : decode cX10_fillRectangle 51 = .ok (.goto 4, 3) := by decide +kernel
theorem dX10_fillRectangle_54 : decode cX10_fillRectangle 54 = .ok (.iconst 0, 1) := by decide +kernel
theorem dX10_fillRectangle_55 : decode cX10_fillRectangle 55 = .ok (.istore 7, 2) := by decide +kernel
theorem dX10_fillRectangle_57 : decode cX10_fillRectangle 57 = .ok (.iload 7, 2) := by decide +kernel
theorem dX10_fillRectangle_59 : decode cX10_fillRectangle 59 = .ok (.ifCond .eq 15, 3) := by decide +kernel
theorem dX10_fillRectangle_62 : decode cX10_fillRectangle 62 = .ok (.iload 5, 2) := by decide +kernel
theorem dX10_fillRectangle_64 : decode cX10_fillRectangle 64 = .ok (.iconst 0, 1) := by decide +kernel
theorem dX10_fillRectangle_65 : decode cX10_fillRectangle 65 = .ok (.sipush 255, 3) := by decide +kernel
theorem dX10_fillRectangle_68 : decode cX10_fillRectangle 68 = .ok (.invokestatic 68, 3) := by decide +kernel
theorem dX10_fillRectangle_71 : decode cX10_fillRectangle 71 = .ok (.ifCond .ne 7, 3) := by decide +kernel
theorem dX10_fillRectangle_74 : decode cX10_fillRectangle 74 = .ok (.sipush (-1001), 3) := by decide +kernel
theorem dX10_fillRectangle_77 : decode cX10_fillRectangle 77 = .ok (.ireturn, 1) := by decide +kernel
theorem dX10_fillRectangle_78 : decode cX10_fillRectangle 78 = .ok (.aload_n 0, 1) := by decide +kernel
theorem dX10_fillRectangle_79 : decode cX10_fillRectangle 79 = .ok (.iload_n 1, 1) := by decide +kernel
theorem dX10_fillRectangle_80 : decode cX10_fillRectangle 80 = .ok (.iload_n 2, 1) := by decide +kernel
theorem dX10_fillRectangle_81 : decode cX10_fillRectangle 81 = .ok (.iload_n 1, 1) := by decide +kernel
theorem dX10_fillRectangle_82 : decode cX10_fillRectangle 82 = .ok (.iload_n 3, 1) := by decide +kernel
theorem dX10_fillRectangle_83 : decode cX10_fillRectangle 83 = .ok (.iadd, 1) := by decide +kernel
theorem dX10_fillRectangle_84 : decode cX10_fillRectangle 84 = .ok (.iconst 1, 1) := by decide +kernel
theorem dX10_fillRectangle_85 : decode cX10_fillRectangle 85 = .ok (.isub, 1) := by decide +kernel
theorem dX10_fillRectangle_86 : decode cX10_fillRectangle 86 = .ok (.iload_n 2, 1) := by decide +kernel
theorem dX10_fillRectangle_87 : decode cX10_fillRectangle 87 = .ok (.iload 4, 2) := by decide +kernel
theorem dX10_fillRectangle_89 : decode cX10_fillRectangle 89 = .ok (.iadd, 1) := by decide +kernel
theorem dX10_fillRectangle_90 : decode cX10_fillRectangle 90 = .ok (.iconst 1, 1) := by decide +kernel
theorem dX10_fillRectangle_91 : decode cX10_fillRectangle 91 = .ok (.isub, 1) := by decide +kernel
theorem dX10_fillRectangle_92 : decode cX10_fillRectangle 92 = .ok (.iload 5, 2) := by decide +kernel
theorem dX10_fillRectangle_94 : decode cX10_fillRectangle 94 = .ok (.invokevirtual 84, 3) := by decide +kernel
theorem dX10_fillRectangle_97 : decode cX10_fillRectangle 97 = .ok (.ireturn, 1) := by decide +kernel
theorem dX10_size_0 : decode cX10_size 0 = .ok (.iload_n 1, 1) := by decide +kernel
theorem dX10_size_1 : decode cX10_size 1 = .ok (.tableswitch 95 0 5 #[39, 50, 61, 69, 77, 87], 39) := by decide +kernel
theorem dX10_size_40 : decode cX10_size 40 = .ok (.aload_n 0, 1) := by decide +kernel
theorem dX10_size_41 : decode cX10_size 41 = .ok (.getfield 10, 3) := by decide +kernel
theorem dX10_size_44 : decode cX10_size 44 = .ok (.getfield 61, 3) := by decide +kernel
theorem dX10_size_47 : decode cX10_size 47 = .ok (.getfield 88, 3) := by decide +kernel
theorem dX10_size_50 : decode cX10_size 50 = .ok (.ireturn, 1) := by decide +kernel
theorem dX10_size_51 : decode cX10_size 51 = .ok (.aload_n 0, 1) := by decide +kernel
theorem dX10_size_52 : decode cX10_size 52 = .ok (.getfield 10, 3) := by decide +kernel
theorem dX10_size_55 : decode cX10_size 55 = .ok (.getfield 61, 3) := by decide +kernel
theorem dX10_size_58 : decode cX10_size 58 = .ok (.getfield 92, 3) := by decide +kernel
theorem dX10_size_61 : decode cX10_size 61 = .ok (.ireturn, 1) := by decide +kernel
theorem dX10_size_62 : decode cX10_size 62 = .ok (.aload_n 0, 1) := by decide +kernel
theorem dX10_size_63 : decode cX10_size 63 = .ok (.getfield 10, 3) := by decide +kernel
theorem dX10_size_66 : decode cX10_size 66 = .ok (.invokevirtual 95, 3) := by decide +kernel
theorem dX10_size_69 : decode cX10_size 69 = .ok (.ireturn, 1) := by decide +kernel
theorem dX10_size_70 : decode cX10_size 70 = .ok (.aload_n 0, 1) := by decide +kernel
theorem dX10_size_71 : decode cX10_size 71 = .ok (.getfield 40, 3) := by decide +kernel
theorem dX10_size_74 : decode cX10_size 74 = .ok (.getfield 98, 3) := by decide +kernel
theorem dX10_size_77 : decode cX10_size 77 = .ok (.ireturn, 1) := by decide +kernel
theorem dX10_size_78 : decode cX10_size 78 = .ok (.aload_n 0, 1) := by decide +kernel
theorem dX10_size_79 : decode cX10_size 79 = .ok (.invokevirtual 101, 3) := by decide +kernel
theorem dX10_size_82 : decode cX10_size 82 = .ok (.aload_n 0, 1) := by decide +kernel
theorem dX10_size_83 : decode cX10_size 83 = .ok (.invokevirtual 104, 3) := by decide +kernel
theorem dX10_size_86 : decode cX10_size 86 = .ok (.imul, 1) := by decide +kernel
theorem dX10_size_87 : decode cX10_size 87 = .ok (.ireturn, 1) := by decide +kernel
theorem dX10_size_88 : decode cX10_size 88 = .ok (.aload_n 0, 1) := by decide +kernel
theorem dX10_size_89 : decode cX10_size 89 = .ok (.getfield 40, 3) := by decide +kernel
theorem dX10_size_92 : decode cX10_size 92 = .ok (.getfield 107, 3) := by decide +kernel
theorem dX10_size_95 : decode cX10_size 95 = .ok (.ireturn, 1) := by decide +kernel
theorem dX10_size_96 : decode cX10_size 96 = .ok (.sipush (-1001), 3) := by decide +kernel
theorem dX10_size_99 : decode cX10_size 99 = .ok (.ireturn, 1) := by decide +kernel
theorem dX10_paint_0 : decode cX10_paint 0 = .ok (.aload_n 0, 1) := by decide +kernel
theorem dX10_paint_1 : decode cX10_paint 1 = .ok (.getfield 22, 3) := by decide +kernel
theorem dX10_paint_4 : decode cX10_paint 4 = .ok (.aload_n 0, 1) := by decide +kernel
theorem dX10_paint_5 : decode cX10_paint 5 = .ok (.getfield 10, 3) := by decide +kernel
theorem dX10_paint_8 : decode cX10_paint 8 = .ok (.invokevirtual 72, 3) := by decide +kernel
theorem dX10_paint_11 : decode cX10_paint 11 = .ok (.iload_n 2, 1) := by decide +kernel
theorem dX10_paint_12 : decode cX10_paint 12 = .ok (.istore 6, 2) := by decide +kernel
theorem dX10_paint_14 : decode cX10_paint 14 = .ok (.iload 6, 2) := by decide +kernel
theorem dX10_paint_16 : decode cX10_paint 16 = .ok (.iload 4, 2) := by decide +kernel
theorem dX10_paint_18 : decode cX10_paint 18 = .ok (.if_icmp .gt 40, 3) := by decide +kernel
theorem dX10_paint_21 : decode cX10_paint 21 = .ok (.iload_n 1, 1) := by decide +kernel
theorem dX10_paint_22 : decode cX10_paint 22 = .ok (.istore 7, 2) := by decide +kernel
theorem dX10_paint_24 : decode cX10_paint 24 = .ok (.iload 7, 2) := by decide +kernel
theorem dX10_paint_26 : decode cX10_paint 26 = .ok (.iload_n 3, 1) := by decide +kernel
theorem dX10_paint_27 : decode cX10_paint 27 = .ok (.if_icmp .gt 25, 3) := by decide +kernel
theorem dX10_paint_30 : decode cX10_paint 30 = .ok (.aload_n 0, 1) := by decide +kernel
theorem dX10_paint_31 : decode cX10_paint 31 = .ok (.getfield 10, 3) := by decide +kernel
theorem dX10_paint_34 : decode cX10_paint 34 = .ok (.getfield 61, 3) := by decide +kernel
theorem dX10_paint_37 : decode cX10_paint 37 = .ok (.iload 7, 2) := by decide +kernel
theorem dX10_paint_39 : decode cX10_paint 39 = .ok (.iload 6, 2) := by decide +kernel
theorem dX10_paint_41 : decode cX10_paint 41 = .ok (.iload 5, 2) := by decide +kernel
theorem dX10_paint_43 : decode cX10_paint 43 = .ok (.invokevirtual 110, 3) := by decide +kernel
theorem dX10_paint_46 : decode cX10_paint 46 = .ok (.iinc 7 1, 3) := by decide +kernel
theorem dX10_paint_49 : decode cX10_paint 49 = .ok (.goto (-25), 3) := by decide +kernel
theorem dX10_paint_52 : decode cX10_paint 52 = .ok (.iinc 6 1, 3) := by decide +kernel
theorem dX10_paint_55 : decode cX10_paint 55 = .ok (.goto (-41), 3) := by decide +kernel
theorem dX10_paint_58 : decode cX10_paint 58 = .ok (.aload_n 0, 1) := by decide +kernel
theorem dX10_paint_59 : decode cX10_paint 59 = .ok (.iload_n 1, 1) := by decide +kernel
theorem dX10_paint_60 : decode cX10_paint 60 = .ok (.iload_n 2, 1) := by decide +kernel
theorem dX10_paint_61 : decode cX10_paint 61 = .ok (.iload_n 3, 1) := by decide +kernel
theorem dX10_paint_62 : decode cX10_paint 62 = .ok (.iload 4, 2) := by decide +kernel
theorem dX10_paint_64 : decode cX10_paint 64 = .ok (.invokevirtual 114, 3) := by decide +kernel
theorem dX10_paint_67 : decode cX10_paint 67 = .ok (.ireturn, 1) := by decide +kernel
theorem dX10_removeTilesThatSee_0 : decode cX10_removeTilesThatSee 0 = .ok (.iconst 0, 1) := by decide +kernel
theorem dX10_removeTilesThatSee_1 : decode cX10_removeTilesThatSee 1 = .ok (.istore 5, 2) := by decide +kernel
theorem dX10_removeTilesThatSee_3 : decode cX10_removeTilesThatSee 3 = .ok (.iconst 0, 1) := by decide +kernel
theorem dX10_removeTilesThatSee_4 : decode cX10_removeTilesThatSee 4 = .ok (.istore 6, 2) := by decide +kernel
theorem dX10_removeTilesThatSee_6 : decode cX10_removeTilesThatSee 6 = .ok (.iconst 0, 1) := by decide +kernel
theorem dX10_removeTilesThatSee_7 : decode cX10_removeTilesThatSee 7 = .ok (.istore 7, 2) := by decide +kernel
theorem dX10_removeTilesThatSee_9 : decode cX10_removeTilesThatSee 9 = .ok (.iload 7, 2) := by decide +kernel
theorem dX10_removeTilesThatSee_11 : decode cX10_removeTilesThatSee 11 = .ok (.aload_n 0, 1) := by decide +kernel
theorem dX10_removeTilesThatSee_12 : decode cX10_removeTilesThatSee 12 = .ok (.getfield 10, 3) := by decide +kernel
theorem dX10_removeTilesThatSee_15 : decode cX10_removeTilesThatSee 15 = .ok (.invokevirtual 95, 3) := by decide +kernel
theorem dX10_removeTilesThatSee_18 : decode cX10_removeTilesThatSee 18 = .ok (.if_icmp .ge 112, 3) := by decide +kernel
theorem dX10_removeTilesThatSee_21 : decode cX10_removeTilesThatSee 21 = .ok (.aload_n 0, 1) := by decide +kernel
theorem dX10_removeTilesThatSee_22 : decode cX10_removeTilesThatSee 22 = .ok (.getfield 10, 3) := by decide +kernel
theorem dX10_removeTilesThatSee_25 : decode cX10_removeTilesThatSee 25 = .ok (.iload 7, 2) := by decide +kernel
theorem dX10_removeTilesThatSee_27 : decode cX10_removeTilesThatSee 27 = .ok (.invokevirtual 118, 3) := by decide +kernel
theorem dX10_removeTilesThatSee_30 : decode cX10_removeTilesThatSee 30 = .ok (.astore 8, 2) := by decide +kernel
theorem dX10_removeTilesThatSee_32 : decode cX10_removeTilesThatSee 32 = .ok (.aload 8, 2) := by decide +kernel
theorem dX10_removeTilesThatSee_34 : decode cX10_removeTilesThatSee 34 = .ok (.ifnull 90, 3) := by decide +kernel
theorem dX10_removeTilesThatSee_37 : decode cX10_removeTilesThatSee 37 = .ok (.aload 8, 2) := by decide +kernel
theorem dX10_removeTilesThatSee_39 : decode cX10_removeTilesThatSee 39 = .ok (.getfield 122, 3) := by decide +kernel
theorem dX10_removeTilesThatSee_42 : decode cX10_removeTilesThatSee 42 = .ok (.ifCond .eq 82, 3) := by decide +kernel
theorem dX10_removeTilesThatSee_45 : decode cX10_removeTilesThatSee 45 = .ok (.iload 5, 2) := by decide +kernel
theorem dX10_removeTilesThatSee_47 : decode cX10_removeTilesThatSee 47 = .ok (.aload 8, 2) := by decide +kernel
theorem dX10_removeTilesThatSee_49 : decode cX10_removeTilesThatSee 49 = .ok (.invokevirtual 128, 3) := by decide +kernel
theorem dX10_removeTilesThatSee_52 : decode cX10_removeTilesThatSee 52 = .ok (.iadd, 1) := by decide +kernel
theorem dX10_removeTilesThatSee_53 : decode cX10_removeTilesThatSee 53 = .ok (.istore 5, 2) := by decide +kernel
theorem dX10_removeTilesThatSee_55 : decode cX10_removeTilesThatSee 55 = .ok (.iload 6, 2) := by decide +kernel
theorem dX10_removeTilesThatSee_57 : decode cX10_removeTilesThatSee 57 = .ok (.aload_n 0, 1) := by decide +kernel
theorem dX10_removeTilesThatSee_58 : decode cX10_removeTilesThatSee 58 = .ok (.getfield 40, 3) := by decide +kernel
theorem dX10_removeTilesThatSee_61 : decode cX10_removeTilesThatSee 61 = .ok (.iload 7, 2) := by decide +kernel
theorem dX10_removeTilesThatSee_63 : decode cX10_removeTilesThatSee 63 = .ok (.iload_n 1, 1) := by decide +kernel
theorem dX10_removeTilesThatSee_64 : decode cX10_removeTilesThatSee 64 = .ok (.iload 5, 2) := by decide +kernel
theorem dX10_removeTilesThatSee_66 : decode cX10_removeTilesThatSee 66 = .ok (.isub, 1) := by decide +kernel
theorem dX10_removeTilesThatSee_67 : decode cX10_removeTilesThatSee 67 = .ok (.iconst 0, 1) := by decide +kernel
theorem dX10_removeTilesThatSee_68 : decode cX10_removeTilesThatSee 68 = .ok (.invokestatic 131, 3) := by decide +kernel
theorem dX10_removeTilesThatSee_71 : decode cX10_removeTilesThatSee 71 = .ok (.iload_n 2, 1) := by decide +kernel
theorem dX10_removeTilesThatSee_72 : decode cX10_removeTilesThatSee 72 = .ok (.iload 5, 2) := by decide +kernel
theorem dX10_removeTilesThatSee_74 : decode cX10_removeTilesThatSee 74 = .ok (.isub, 1) := by decide +kernel
theorem dX10_removeTilesThatSee_75 : decode cX10_removeTilesThatSee 75 = .ok (.iconst 0, 1) := by decide +kernel
theorem dX10_removeTilesThatSee_76 : decode cX10_removeTilesThatSee 76 = .ok (.invokestatic 131, 3) := by decide +kernel
theorem dX10_removeTilesThatSee_79 : decode cX10_removeTilesThatSee 79 = .ok (.iload_n 3, 1) := by decide +kernel
theorem dX10_removeTilesThatSee_80 : decode cX10_removeTilesThatSee 80 = .ok (.iload 5, 2) := by decide +kernel
theorem dX10_removeTilesThatSee_82 : decode cX10_removeTilesThatSee 82 = .ok (.iadd, 1) := by decide +kernel
theorem dX10_removeTilesThatSee_83 : decode cX10_removeTilesThatSee 83 = .ok (.aload_n 0, 1) := by decide +kernel
theorem dX10_removeTilesThatSee_84 : decode cX10_removeTilesThatSee 84 = .ok (.getfield 10, 3) := by decide +kernel
theorem dX10_removeTilesThatSee_87 : decode cX10_removeTilesThatSee 87 = .ok (.getfield 61, 3) := by decide +kernel
theorem dX10_removeTilesThatSee_90 : decode cX10_removeTilesThatSee 90 = .ok (.getfield 88, 3) := by decide +kernel
theorem dX10_removeTilesThatSee_93 : decode cX10_removeTilesThatSee 93 = .ok (.iconst 1, 1) := by decide +kernel
theorem dX10_removeTilesThatSee_94 : decode cX10_removeTilesThatSee 94 = .ok (.isub, 1) := by decide +kernel
theorem dX10_removeTilesThatSee_95 : decode cX10_removeTilesThatSee 95 = .ok (.invokestatic 137, 3) := by decide +kernel
theorem dX10_removeTilesThatSee_98 : decode cX10_removeTilesThatSee 98 = .ok (.iload 4, 2) := by decide +kernel
theorem dX10_removeTilesThatSee_100 : decode cX10_removeTilesThatSee 100 = .ok (.iload 5, 2) := by decide +kernel
theorem dX10_removeTilesThatSee_102 : decode cX10_removeTilesThatSee 102 = .ok (.iadd, 1) := by decide +kernel
theorem dX10_removeTilesThatSee_103 : decode cX10_removeTilesThatSee 103 = .ok (.aload_n 0, 1) := by decide +kernel
theorem dX10_removeTilesThatSee_104 : decode cX10_removeTilesThatSee 104 = .ok (.getfield 10, 3) := by decide +kernel
theorem dX10_removeTilesThatSee_107 : decode cX10_removeTilesThatSee 107 = .ok (.getfield 61, 3) := by decide +kernel
theorem dX10_removeTilesThatSee_110 : decode cX10_removeTilesThatSee 110 = .ok (.getfield 92, 3) := by decide +kernel
theorem dX10_removeTilesThatSee_113 : decode cX10_removeTilesThatSee 113 = .ok (.iconst 1, 1) := by decide +kernel
theorem dX10_removeTilesThatSee_114 : decode cX10_removeTilesThatSee 114 = .ok (.isub, 1) := by decide +kernel
theorem dX10_removeTilesThatSee_115 : decode cX10_removeTilesThatSee 115 = .ok (.invokestatic 137, 3) := by decide +kernel
theorem dX10_removeTilesThatSee_118 : decode cX10_removeTilesThatSee 118 = .ok (.invokevirtual 140, 3) := by decide +kernel
theorem dX10_removeTilesThatSee_121 : decode cX10_removeTilesThatSee 121 = .ok (.iadd, 1) := by decide +kernel
theorem dX10_removeTilesThatSee_122 : decode cX10_removeTilesThatSee 122 = .ok (.istore 6, 2) := by decide +kernel
theorem dX10_removeTilesThatSee_124 : decode cX10_removeTilesThatSee 124 = .ok (.iinc 7 1, 3) := by decide +kernel
theorem dX10_removeTilesThatSee_127 : decode cX10_removeTilesThatSee 127 = .ok (.goto (-118), 3) := by decide +kernel
theorem dX10_removeTilesThatSee_130 : decode cX10_removeTilesThatSee 130 = .ok (.iload 6, 2) := by decide +kernel
theorem dX10_removeTilesThatSee_132 : decode cX10_removeTilesThatSee 132 = .ok (.ireturn, 1) := by decide +kernel
theorem dX10_addLayer_0 : decode cX10_addLayer 0 = .ok (.iload_n 1, 1) := by decide +kernel
theorem dX10_addLayer_1 : decode cX10_addLayer 1 = .ok (.iload_n 2, 1) := by decide +kernel
theorem dX10_addLayer_2 : decode cX10_addLayer 2 = .ok (.iload_n 3, 1) := by decide +kernel
theorem dX10_addLayer_3 : decode cX10_addLayer 3 = .ok (.invokestatic 143, 3) := by decide +kernel
theorem dX10_addLayer_6 : decode cX10_addLayer 6 = .ok (.ifCond .ne 7, 3) := by decide +kernel
theorem dX10_addLayer_9 : decode cX10_addLayer 9 = .ok (.sipush (-1001), 3) := by decide +kernel
theorem dX10_addLayer_12 : decode cX10_addLayer 12 = .ok (.ireturn, 1) := by decide +kernel
theorem dX10_addLayer_13 : decode cX10_addLayer 13 = .ok (.aload_n 0, 1) := by decide +kernel
theorem dX10_addLayer_14 : decode cX10_addLayer 14 = .ok (.getfield 10, 3) := by decide +kernel
theorem dX10_addLayer_17 : decode cX10_addLayer 17 = .ok (.invokevirtual 148, 3) := by decide +kernel
theorem dX10_addLayer_20 : decode cX10_addLayer 20 = .ok (.ifCond .eq 7, 3) := by decide +kernel
theorem dX10_addLayer_23 : decode cX10_addLayer 23 = .ok (.sipush (-1003), 3) := by decide +kernel
theorem dX10_addLayer_26 : decode cX10_addLayer 26 = .ok (.ireturn, 1) := by decide +kernel
theorem dX10_addLayer_27 : decode cX10_addLayer 27 = .ok (.aload_n 0, 1) := by decide +kernel
theorem dX10_addLayer_28 : decode cX10_addLayer 28 = .ok (.getfield 22, 3) := by decide +kernel
theorem dX10_addLayer_31 : decode cX10_addLayer 31 = .ok (.aload_n 0, 1) := by decide +kernel
theorem dX10_addLayer_32 : decode cX10_addLayer 32 = .ok (.getfield 10, 3) := by decide +kernel
theorem dX10_addLayer_35 : decode cX10_addLayer 35 = .ok (.invokevirtual 72, 3) := by decide +kernel
theorem dX10_addLayer_38 : decode cX10_addLayer 38 = .ok (.aload_n 0, 1) := by decide +kernel
theorem dX10_addLayer_39 : decode cX10_addLayer 39 = .ok (.getfield 10, 3) := by decide +kernel
theorem dX10_addLayer_42 : decode cX10_addLayer 42 = .ok (.iload_n 1, 1) := by decide +kernel
theorem dX10_addLayer_43 : decode cX10_addLayer 43 = .ok (.iload_n 2, 1) := by decide +kernel
theorem dX10_addLayer_44 : decode cX10_addLayer 44 = .ok (.iload_n 3, 1) := by decide +kernel
theorem dX10_addLayer_45 : decode cX10_addLayer 45 = .ok (.invokevirtual 152, 3) := by decide +kernel
theorem dX10_addLayer_48 : decode cX10_addLayer 48 = .ok (.pop, 1) := by decide +kernel
theorem dX10_addLayer_49 : decode cX10_addLayer 49 = .ok (.aload_n 0, 1) := by decide +kernel
theorem dX10_addLayer_50 : decode cX10_addLayer 50 = .ok (.getfield 10, 3) := by decide +kernel
theorem dX10_addLayer_53 : decode cX10_addLayer 53 = .ok (.invokevirtual 95, 3) := by decide +kernel
theorem dX10_addLayer_56 : decode cX10_addLayer 56 = .ok (.iconst 1, 1) := by decide +kernel
theorem dX10_addLayer_57 : decode cX10_addLayer 57 = .ok (.isub, 1) := by decide +kernel
theorem dX10_addLayer_58 : decode cX10_addLayer 58 = .ok (.ireturn, 1) := by decide +kernel
theorem dX10_setParameters_0 : decode cX10_setParameters 0 = .ok (.aload_n 0, 1) := by decide +kernel
theorem dX10_setParameters_1 : decode cX10_setParameters 1 = .ok (.getfield 10, 3) := by decide +kernel
theorem dX10_setParameters_4 : decode cX10_setParameters 4 = .ok (.iload_n 1, 1) := by decide +kernel
theorem dX10_setParameters_5 : decode cX10_setParameters 5 = .ok (.invokevirtual 118, 3) := by decide +kernel
theorem dX10_setParameters_8 : decode cX10_setParameters 8 = .ok (.astore 4, 2) := by decide +kernel
theorem dX10_setParameters_10 : decode cX10_setParameters 10 = .ok (.aload 4, 2) := by decide +kernel
theorem dX10_setParameters_12 : decode cX10_setParameters 12 = .ok (.ifnull 16, 3) := by decide +kernel
theorem dX10_setParameters_15 : decode cX10_setParameters 15 = .ok (.aload 4, 2) := by decide +kernel
theorem dX10_setParameters_17 : decode cX10_setParameters 17 = .ok (.getfield 156, 3) := by decide +kernel
theorem dX10_setParameters_20 : decode cX10_setParameters 20 = .ok (.iload_n 2, 1) := by decide +kernel
theorem dX10_setParameters_21 : decode cX10_setParameters 21 = .ok (.iload_n 3, 1) := by decide +kernel
theorem dX10_setParameters_22 : decode cX10_setParameters 22 = .ok (.invokestatic 143, 3) := by decide +kernel
theorem dX10_setParameters_25 : decode cX10_setParameters 25 = .ok (.ifCond .ne 7, 3) := by decide +kernel
theorem dX10_setParameters_28 : decode cX10_setParameters 28 = .ok (.sipush (-1001), 3) := by decide +kernel
theorem dX10_setParameters_31 : decode cX10_setParameters 31 = .ok (.ireturn, 1) := by decide +kernel
theorem dX10_setParameters_32 : decode cX10_setParameters 32 = .ok (.aload 4, 2) := by decide +kernel
theorem dX10_setParameters_34 : decode cX10_setParameters 34 = .ok (.getfield 159, 3) := by decide +kernel
theorem dX10_setParameters_37 : decode cX10_setParameters 37 = .ok (.istore 5, 2) := by decide +kernel
theorem dX10_setParameters_39 : decode cX10_setParameters 39 = .ok (.aload_n 0, 1) := by decide +kernel
theorem dX10_setParameters_40 : decode cX10_setParameters 40 = .ok (.iload_n 1, 1) := by decide +kernel
theorem dX10_setParameters_41 : decode cX10_setParameters 41 = .ok (.invokevirtual 162, 3) := by decide +kernel
theorem dX10_setParameters_44 : decode cX10_setParameters 44 = .ok (.aload 4, 2) := by decide +kernel
theorem dX10_setParameters_46 : decode cX10_setParameters 46 = .ok (.iload_n 2, 1) := by decide +kernel
theorem dX10_setParameters_47 : decode cX10_setParameters 47 = .ok (.putfield 159, 3) := by decide +kernel
theorem dX10_setParameters_50 : decode cX10_setParameters 50 = .ok (.aload 4, 2) := by decide +kernel
theorem dX10_setParameters_52 : decode cX10_setParameters 52 = .ok (.iload_n 3, 1) := by decide +kernel
theorem dX10_setParameters_53 : decode cX10_setParameters 53 = .ok (.putfield 166, 3) := by decide +kernel
theorem dX10_setParameters_56 : decode cX10_setParameters 56 = .ok (.iload 5, 2) := by decide +kernel
theorem dX10_setParameters_58 : decode cX10_setParameters 58 = .ok (.sipush 1000, 3) := by decide +kernel
theorem dX10_setParameters_61 : decode cX10_setParameters 61 = .ok (.iadd, 1) := by decide +kernel
theorem dX10_setParameters_62 : decode cX10_setParameters 62 = .ok (.ireturn, 1) := by decide +kernel
theorem dX10_setBlend_0 : decode cX10_setBlend 0 = .ok (.aload_n 0, 1) := by decide +kernel
theorem dX10_setBlend_1 : decode cX10_setBlend 1 = .ok (.getfield 10, 3) := by decide +kernel
theorem dX10_setBlend_4 : decode cX10_setBlend 4 = .ok (.iload_n 1, 1) := by decide +kernel
theorem dX10_setBlend_5 : decode cX10_setBlend 5 = .ok (.invokevirtual 118, 3) := by decide +kernel
theorem dX10_setBlend_8 : decode cX10_setBlend 8 = .ok (.astore 4, 2) := by decide +kernel
theorem dX10_setBlend_10 : decode cX10_setBlend 10 = .ok (.aload 4, 2) := by decide +kernel
theorem dX10_setBlend_12 : decode cX10_setBlend 12 = .ok (.ifnull 23, 3) := by decide +kernel
theorem dX10_setBlend_15 : decode cX10_setBlend 15 = .ok (.iload_n 2, 1) := by decide +kernel
theorem dX10_setBlend_16 : decode cX10_setBlend 16 = .ok (.iconst 0, 1) := by decide +kernel
theorem dX10_setBlend_17 : decode cX10_setBlend 17 = .ok (.bipush 7, 2) := by decide +kernel
theorem dX10_setBlend_19 : decode cX10_setBlend 19 = .ok (.invokestatic 68, 3) := by decide +kernel
theorem dX10_setBlend_22 : decode cX10_setBlend 22 = .ok (.ifCond .eq 13, 3) := by decide +kernel
theorem dX10_setBlend_25 : decode cX10_setBlend 25 = .ok (.iload_n 3, 1) := by decide +kernel
theorem dX10_setBlend_26 : decode cX10_setBlend 26 = .ok (.iconst 0, 1) := by decide +kernel
theorem dX10_setBlend_27 : decode cX10_setBlend 27 = .ok (.bipush 100, 2) := by decide +kernel
theorem dX10_setBlend_29 : decode cX10_setBlend 29 = .ok (.invokestatic 68, 3) := by decide +kernel
theorem dX10_setBlend_32 : decode cX10_setBlend 32 = .ok (.ifCond .ne 7, 3) := by decide +kernel
theorem dX10_setBlend_35 : decode cX10_setBlend 35 = .ok (.sipush (-1001), 3) := by decide +kernel
theorem dX10_setBlend_38 : decode cX10_setBlend 38 = .ok (.ireturn, 1) := by decide +kernel
theorem dX10_setBlend_39 : decode cX10_setBlend 39 = .ok (.aload 4, 2) := by decide +kernel
theorem dX10_setBlend_41 : decode cX10_setBlend 41 = .ok (.getfield 169, 3) := by decide +kernel
theorem dX10_setBlend_44 : decode cX10_setBlend 44 = .ok (.istore 5, 2) := by decide +kernel
theorem dX10_setBlend_46 : decode cX10_setBlend 46 = .ok (.aload_n 0, 1) := by decide +kernel
theorem dX10_setBlend_47 : decode cX10_setBlend 47 = .ok (.iload_n 1, 1) := by decide +kernel
theorem dX10_setBlend_48 : decode cX10_setBlend 48 = .ok (.invokevirtual 162, 3) := by decide +kernel
theorem dX10_setBlend_51 : decode cX10_setBlend 51 = .ok (.aload 4, 2) := by decide +kernel
theorem dX10_setBlend_53 : decode cX10_setBlend 53 = .ok (.iload_n 2, 1) := by decide +kernel
theorem dX10_setBlend_54 : decode cX10_setBlend 54 = .ok (.putfield 172, 3) := by decide +kernel
theorem dX10_setBlend_57 : decode cX10_setBlend 57 = .ok (.aload 4, 2) := by decide +kernel
theorem dX10_setBlend_59 : decode cX10_setBlend 59 = .ok (.iload_n 3, 1) := by decide +kernel
theorem dX10_setBlend_60 : decode cX10_setBlend 60 = .ok (.putfield 169, 3) := by decide +kernel
theorem dX10_setBlend_63 : decode cX10_setBlend 63 = .ok (.iload 5, 2) := by decide +kernel
theorem dX10_setBlend_65 : decode cX10_setBlend 65 = .ok (.ireturn, 1) := by decide +kernel
theorem dX10_setEnabled_0 : decode cX10_setEnabled 0 = .ok (.aload_n 0, 1) := by decide +kernel
theorem dX10_setEnabled_1 : decode cX10_setEnabled 1 = .ok (.getfield 10, 3) := by decide +kernel
theorem dX10_setEnabled_4 : decode cX10_setEnabled 4 = .ok (.iload_n 1, 1) := by decide +kernel
theorem dX10_setEnabled_5 : decode cX10_setEnabled 5 = .ok (.invokevirtual 118, 3) := by decide +kernel
theorem dX10_setEnabled_8 : decode cX10_setEnabled 8 = .ok (.astore_n 3, 1) := by decide +kernel
theorem dX10_setEnabled_9 : decode cX10_setEnabled 9 = .ok (.aload_n 3, 1) := by decide +kernel
theorem dX10_setEnabled_10 : decode cX10_setEnabled 10 = .ok (.ifnull 12, 3) := by decide +kernel
theorem dX10_setEnabled_13 : decode cX10_setEnabled 13 = .ok (.iload_n 2, 1) := by decide +kernel
theorem dX10_setEnabled_14 : decode cX10_setEnabled 14 = .ok (.iconst 0, 1) := by decide +kernel
theorem dX10_setEnabled_15 : decode cX10_setEnabled 15 = .ok (.iconst 1, 1) := by decide +kernel
theorem dX10_setEnabled_16 : decode cX10_setEnabled 16 = .ok (.invokestatic 68, 3) := by decide +kernel
theorem dX10_setEnabled_19 : decode cX10_setEnabled 19 = .ok (.ifCond .ne 7, 3) := by decide +kernel
theorem dX10_setEnabled_22 : decode cX10_setEnabled 22 = .ok (.sipush (-1001), 3) := by decide +kernel
theorem dX10_setEnabled_25 : decode cX10_setEnabled 25 = .ok (.ireturn, 1) := by decide +kernel
theorem dX10_setEnabled_26 : decode cX10_setEnabled 26 = .ok (.iload_n 2, 1) := by decide +kernel
theorem dX10_setEnabled_27 : decode cX10_setEnabled 27 = .ok (.iconst 1, 1) := by decide +kernel
theorem dX10_setEnabled_28 : decode cX10_setEnabled 28 = .ok (.if_icmp .ne 7, 3) := by decide +kernel
theorem dX10_setEnabled_31 : decode cX10_setEnabled 31 = .ok (.iconst 1, 1) := by decide +kernel
theorem dX10_setEnabled_32 : decode cX10_setEnabled 32 = .ok (.goto 4, 3) := by decide +kernel
theorem dX10_setEnabled_35 : decode cX10_setEnabled 35 = .ok (.iconst 0, 1) := by decide +kernel
theorem dX10_setEnabled_36 : decode cX10_setEnabled 36 = .ok (.istore 4, 2) := by decide +kernel
theorem dX10_setEnabled_38 : decode cX10_setEnabled 38 = .ok (.aload_n 3, 1) := by decide +kernel
theorem dX10_setEnabled_39 : decode cX10_setEnabled 39 = .ok (.getfield 122, 3) := by decide +kernel
theorem dX10_setEnabled_42 : decode cX10_setEnabled 42 = .ok (.iload 4, 2) := by decide +kernel
theorem dX10_setEnabled_44 : decode cX10_setEnabled 44 = .ok (.if_icmp .ne 7, 3) := by decide +kernel
theorem dX10_setEnabled_47 : decode cX10_setEnabled 47 = .ok (.sipush (-1002), 3) := by decide +kernel
theorem dX10_setEnabled_50 : decode cX10_setEnabled 50 = .ok (.ireturn, 1) := by decide +kernel
theorem dX10_setEnabled_51 : decode cX10_setEnabled 51 = .ok (.aload_n 0, 1) := by decide +kernel
theorem dX10_setEnabled_52 : decode cX10_setEnabled 52 = .ok (.iload_n 1, 1) := by decide +kernel
theorem dX10_setEnabled_53 : decode cX10_setEnabled 53 = .ok (.invokevirtual 162, 3) := by decide +kernel
theorem dX10_setEnabled_56 : decode cX10_setEnabled 56 = .ok (.aload_n 3, 1) := by decide +kernel
theorem dX10_setEnabled_57 : decode cX10_setEnabled 57 = .ok (.iload 4, 2) := by decide +kernel
theorem dX10_setEnabled_59 : decode cX10_setEnabled 59 = .ok (.putfield 122, 3) := by decide +kernel
theorem dX10_setEnabled_62 : decode cX10_setEnabled 62 = .ok (.aload_n 0, 1) := by decide +kernel
theorem dX10_setEnabled_63 : decode cX10_setEnabled 63 = .ok (.getfield 10, 3) := by decide +kernel
theorem dX10_setEnabled_66 : decode cX10_setEnabled 66 = .ok (.invokevirtual 175, 3) := by decide +kernel
theorem dX10_setEnabled_69 : decode cX10_setEnabled 69 = .ok (.ireturn, 1) := by decide +kernel
theorem dX10_moveLayer_0 : decode cX10_moveLayer 0 = .ok (.aload_n 0, 1) := by decide +kernel
theorem dX10_moveLayer_1 : decode cX10_moveLayer 1 = .ok (.getfield 10, 3) := by decide +kernel
theorem dX10_moveLayer_4 : decode cX10_moveLayer 4 = .ok (.iload_n 1, 1) := by decide +kernel
theorem dX10_moveLayer_5 : decode cX10_moveLayer 5 = .ok (.invokevirtual 118, 3) := by decide +kernel
theorem dX10_moveLayer_8 : decode cX10_moveLayer 8 = .ok (.astore_n 3, 1) := by decide +kernel
theorem dX10_moveLayer_9 : decode cX10_moveLayer 9 = .ok (.aload_n 3, 1) := by decide +kernel
theorem dX10_moveLayer_10 : decode cX10_moveLayer 10 = .ok (.ifnull 19, 3) := by decide +kernel
theorem dX10_moveLayer_13 : decode cX10_moveLayer 13 = .ok (.aload_n 0, 1) := by decide +kernel
theorem dX10_moveLayer_14 : decode cX10_moveLayer 14 = .ok (.getfield 10, 3) := by decide +kernel
theorem dX10_moveLayer_17 : decode cX10_moveLayer 17 = .ok (.iload_n 2, 1) := by decide +kernel
theorem dX10_moveLayer_18 : decode cX10_moveLayer 18 = .ok (.invokevirtual 118, 3) := by decide +kernel
theorem dX10_moveLayer_21 : decode cX10_moveLayer 21 = .ok (.ifnull 8, 3) := by decide +kernel
theorem dX10_moveLayer_24 : decode cX10_moveLayer 24 = .ok (.iload_n 1, 1) := by decide +kernel
theorem dX10_moveLayer_25 : decode cX10_moveLayer 25 = .ok (.iload_n 2, 1) := by decide +kernel
theorem dX10_moveLayer_26 : decode cX10_moveLayer 26 = .ok (.if_icmp .ne 7, 3) := by decide +kernel
theorem dX10_moveLayer_29 : decode cX10_moveLayer 29 = .ok (.sipush (-1001), 3) := by decide +kernel
theorem dX10_moveLayer_32 : decode cX10_moveLayer 32 = .ok (.ireturn, 1) := by decide +kernel
theorem dX10_moveLayer_33 : decode cX10_moveLayer 33 = .ok (.aload_n 0, 1) := by decide +kernel
theorem dX10_moveLayer_34 : decode cX10_moveLayer 34 = .ok (.iload_n 1, 1) := by decide +kernel
theorem dX10_moveLayer_35 : decode cX10_moveLayer 35 = .ok (.iload_n 2, 1) := by decide +kernel
theorem dX10_moveLayer_36 : decode cX10_moveLayer 36 = .ok (.invokestatic 137, 3) := by decide +kernel
theorem dX10_moveLayer_39 : decode cX10_moveLayer 39 = .ok (.invokevirtual 162, 3) := by decide +kernel
theorem dX10_moveLayer_42 : decode cX10_moveLayer 42 = .ok (.aload_n 0, 1) := by decide +kernel
theorem dX10_moveLayer_43 : decode cX10_moveLayer 43 = .ok (.getfield 10, 3) := by decide +kernel
theorem dX10_moveLayer_46 : decode cX10_moveLayer 46 = .ok (.iload_n 1, 1) := by decide +kernel
theorem dX10_moveLayer_47 : decode cX10_moveLayer 47 = .ok (.iload_n 2, 1) := by decide +kernel
theorem dX10_moveLayer_48 : decode cX10_moveLayer 48 = .ok (.invokevirtual 178, 3) := by decide +kernel
theorem dX10_moveLayer_51 : decode cX10_moveLayer 51 = .ok (.aload_n 3, 1) := by decide +kernel
theorem dX10_moveLayer_52 : decode cX10_moveLayer 52 = .ok (.getfield 156, 3) := by decide +kernel
theorem dX10_moveLayer_55 : decode cX10_moveLayer 55 = .ok (.ireturn, 1) := by decide +kernel
theorem dX10_duplicateLayer_0 : decode cX10_duplicateLayer 0 = .ok (.aload_n 0, 1) := by decide +kernel
theorem dX10_duplicateLayer_1 : decode cX10_duplicateLayer 1 = .ok (.getfield 10, 3) := by decide +kernel
theorem dX10_duplicateLayer_4 : decode cX10_duplicateLayer 4 = .ok (.iload_n 1, 1) := by decide +kernel
theorem dX10_duplicateLayer_5 : decode cX10_duplicateLayer 5 = .ok (.invokevirtual 118, 3) := by decide +kernel
theorem dX10_duplicateLayer_8 : decode cX10_duplicateLayer 8 = .ok (.ifnonnull 7, 3) := by decide +kernel
theorem dX10_duplicateLayer_11 : decode cX10_duplicateLayer 11 = .ok (.sipush (-1001), 3) := by decide +kernel
theorem dX10_duplicateLayer_14 : decode cX10_duplicateLayer 14 = .ok (.ireturn, 1) := by decide +kernel
theorem dX10_duplicateLayer_15 : decode cX10_duplicateLayer 15 = .ok (.aload_n 0, 1) := by decide +kernel
theorem dX10_duplicateLayer_16 : decode cX10_duplicateLayer 16 = .ok (.getfield 10, 3) := by decide +kernel
theorem dX10_duplicateLayer_19 : decode cX10_duplicateLayer 19 = .ok (.invokevirtual 148, 3) := by decide +kernel
theorem dX10_duplicateLayer_22 : decode cX10_duplicateLayer 22 = .ok (.ifCond .eq 7, 3) := by decide +kernel
theorem dX10_duplicateLayer_25 : decode cX10_duplicateLayer 25 = .ok (.sipush (-1003), 3) := by decide +kernel
theorem dX10_duplicateLayer_28 : decode cX10_duplicateLayer 28 = .ok (.ireturn, 1) := by decide +kernel
theorem dX10_duplicateLayer_29 : decode cX10_duplicateLayer 29 = .ok (.aload_n 0, 1) := by decide +kernel
theorem dX10_duplicateLayer_30 : decode cX10_duplicateLayer 30 = .ok (.iload_n 1, 1) := by decide +kernel
theorem dX10_duplicateLayer_31 : decode cX10_duplicateLayer 31 = .ok (.iconst 1, 1) := by decide +kernel
theorem dX10_duplicateLayer_32 : decode cX10_duplicateLayer 32 = .ok (.iadd, 1) := by decide +kernel
theorem dX10_duplicateLayer_33 : decode cX10_duplicateLayer 33 = .ok (.invokevirtual 162, 3) := by decide +kernel
theorem dX10_duplicateLayer_36 : decode cX10_duplicateLayer 36 = .ok (.aload_n 0, 1) := by decide +kernel
theorem dX10_duplicateLayer_37 : decode cX10_duplicateLayer 37 = .ok (.getfield 10, 3) := by decide +kernel
theorem dX10_duplicateLayer_40 : decode cX10_duplicateLayer 40 = .ok (.iload_n 1, 1) := by decide +kernel
theorem dX10_duplicateLayer_41 : decode cX10_duplicateLayer 41 = .ok (.invokevirtual 181, 3) := by decide +kernel
theorem dX10_duplicateLayer_44 : decode cX10_duplicateLayer 44 = .ok (.iload_n 1, 1) := by decide +kernel
theorem dX10_duplicateLayer_45 : decode cX10_duplicateLayer 45 = .ok (.iconst 1, 1) := by decide +kernel
theorem dX10_duplicateLayer_46 : decode cX10_duplicateLayer 46 = .ok (.iadd, 1) := by decide +kernel
theorem dX10_duplicateLayer_47 : decode cX10_duplicateLayer 47 = .ok (.ireturn, 1) := by decide +kernel
theorem dX10_removeLayer_0 : decode cX10_removeLayer 0 = .ok (.aload_n 0, 1) := by decide +kernel
theorem dX10_removeLayer_1 : decode cX10_removeLayer 1 = .ok (.getfield 10, 3) := by decide +kernel
theorem dX10_removeLayer_4 : decode cX10_removeLayer 4 = .ok (.iload_n 1, 1) := by decide +kernel
theorem dX10_removeLayer_5 : decode cX10_removeLayer 5 = .ok (.invokevirtual 118, 3) := by decide +kernel
theorem dX10_removeLayer_8 : decode cX10_removeLayer 8 = .ok (.ifnonnull 7, 3) := by decide +kernel
theorem dX10_removeLayer_11 : decode cX10_removeLayer 11 = .ok (.sipush (-1001), 3) := by decide +kernel
theorem dX10_removeLayer_14 : decode cX10_removeLayer 14 = .ok (.ireturn, 1) := by decide +kernel
theorem dX10_removeLayer_15 : decode cX10_removeLayer 15 = .ok (.aload_n 0, 1) := by decide +kernel
theorem dX10_removeLayer_16 : decode cX10_removeLayer 16 = .ok (.iload_n 1, 1) := by decide +kernel
theorem dX10_removeLayer_17 : decode cX10_removeLayer 17 = .ok (.invokevirtual 162, 3) := by decide +kernel
theorem dX10_removeLayer_20 : decode cX10_removeLayer 20 = .ok (.aload_n 0, 1) := by decide +kernel
theorem dX10_removeLayer_21 : decode cX10_removeLayer 21 = .ok (.getfield 10, 3) := by decide +kernel
theorem dX10_removeLayer_24 : decode cX10_removeLayer 24 = .ok (.iload_n 1, 1) := by decide +kernel
theorem dX10_removeLayer_25 : decode cX10_removeLayer 25 = .ok (.invokevirtual 184, 3) := by decide +kernel
theorem dX10_removeLayer_28 : decode cX10_removeLayer 28 = .ok (.aload_n 0, 1) := by decide +kernel
theorem dX10_removeLayer_29 : decode cX10_removeLayer 29 = .ok (.getfield 10, 3) := by decide +kernel
theorem dX10_removeLayer_32 : decode cX10_removeLayer 32 = .ok (.invokevirtual 95, 3) := by decide +kernel
theorem dX10_removeLayer_35 : decode cX10_removeLayer 35 = .ok (.ireturn, 1) := by decide +kernel
theorem dX10_flatten_0 : decode cX10_flatten 0 = .ok (.aload_n 0, 1) := by decide +kernel
theorem dX10_flatten_1 : decode cX10_flatten 1 = .ok (.getfield 10, 3) := by decide +kernel
theorem dX10_flatten_4 : decode cX10_flatten 4 = .ok (.iload_n 1, 1) := by decide +kernel
theorem dX10_flatten_5 : decode cX10_flatten 5 = .ok (.invokevirtual 118, 3) := by decide +kernel
theorem dX10_flatten_8 : decode cX10_flatten 8 = .ok (.ifnonnull 7, 3) := by decide +kernel
theorem dX10_flatten_11 : decode cX10_flatten 11 = .ok (.sipush (-1001), 3) := by decide +kernel
theorem dX10_flatten_14 : decode cX10_flatten 14 = .ok (.ireturn, 1) := by decide +kernel
theorem dX10_flatten_15 : decode cX10_flatten 15 = .ok (.aload_n 0, 1) := by decide +kernel
theorem dX10_flatten_16 : decode cX10_flatten 16 = .ok (.getfield 22, 3) := by decide +kernel
theorem dX10_flatten_19 : decode cX10_flatten 19 = .ok (.aload_n 0, 1) := by decide +kernel
theorem dX10_flatten_20 : decode cX10_flatten 20 = .ok (.getfield 10, 3) := by decide +kernel
theorem dX10_flatten_23 : decode cX10_flatten 23 = .ok (.invokevirtual 72, 3) := by decide +kernel
theorem dX10_flatten_26 : decode cX10_flatten 26 = .ok (.aload_n 0, 1) := by decide +kernel
theorem dX10_flatten_27 : decode cX10_flatten 27 = .ok (.getfield 47, 3) := by decide +kernel
theorem dX10_flatten_30 : decode cX10_flatten 30 = .ok (.aload_n 0, 1) := by decide +kernel
theorem dX10_flatten_31 : decode cX10_flatten 31 = .ok (.getfield 10, 3) := by decide +kernel
theorem dX10_flatten_34 : decode cX10_flatten 34 = .ok (.iload_n 1, 1) := by decide +kernel
theorem dX10_flatten_35 : decode cX10_flatten 35 = .ok (.aload_n 0, 1) := by decide +kernel
theorem dX10_flatten_36 : decode cX10_flatten 36 = .ok (.getfield 54, 3) := by decide +kernel
theorem dX10_flatten_39 : decode cX10_flatten 39 = .ok (.invokevirtual 187, 3) := by decide +kernel
theorem dX10_flatten_42 : decode cX10_flatten 42 = .ok (.aload_n 0, 1) := by decide +kernel
theorem dX10_flatten_43 : decode cX10_flatten 43 = .ok (.getfield 10, 3) := by decide +kernel
theorem dX10_flatten_46 : decode cX10_flatten 46 = .ok (.getfield 61, 3) := by decide +kernel
theorem dX10_flatten_49 : decode cX10_flatten 49 = .ok (.aload_n 0, 1) := by decide +kernel
theorem dX10_flatten_50 : decode cX10_flatten 50 = .ok (.getfield 54, 3) := by decide +kernel
theorem dX10_flatten_53 : decode cX10_flatten 53 = .ok (.invokevirtual 191, 3) := by decide +kernel
theorem dX10_flatten_56 : decode cX10_flatten 56 = .ok (.iconst 0, 1) := by decide +kernel
theorem dX10_flatten_57 : decode cX10_flatten 57 = .ok (.istore_n 2, 1) := by decide +kernel
theorem dX10_flatten_58 : decode cX10_flatten 58 = .ok (.iload_n 2, 1) := by decide +kernel
theorem dX10_flatten_59 : decode cX10_flatten 59 = .ok (.iload_n 1, 1) := by decide +kernel
theorem dX10_flatten_60 : decode cX10_flatten 60 = .ok (.if_icmp .gt 17, 3) := by decide +kernel
theorem dX10_flatten_63 : decode cX10_flatten 63 = .ok (.aload_n 0, 1) := by decide +kernel
theorem dX10_flatten_64 : decode cX10_flatten 64 = .ok (.getfield 10, 3) := by decide +kernel
theorem dX10_flatten_67 : decode cX10_flatten 67 = .ok (.iconst 0, 1) := by decide +kernel
theorem dX10_flatten_68 : decode cX10_flatten 68 = .ok (.invokevirtual 184, 3) := by decide +kernel
theorem dX10_flatten_71 : decode cX10_flatten 71 = .ok (.iinc 2 1, 3) := by decide +kernel
theorem dX10_flatten_74 : decode cX10_flatten 74 = .ok (.goto (-16), 3) := by decide +kernel
theorem dX10_flatten_77 : decode cX10_flatten 77 = .ok (.aload_n 0, 1) := by decide +kernel
theorem dX10_flatten_78 : decode cX10_flatten 78 = .ok (.getfield 40, 3) := by decide +kernel
theorem dX10_flatten_81 : decode cX10_flatten 81 = .ok (.iload_n 1, 1) := by decide +kernel
theorem dX10_flatten_82 : decode cX10_flatten 82 = .ok (.iconst 1, 1) := by decide +kernel
theorem dX10_flatten_83 : decode cX10_flatten 83 = .ok (.iadd, 1) := by decide +kernel
theorem dX10_flatten_84 : decode cX10_flatten 84 = .ok (.invokevirtual 195, 3) := by decide +kernel
theorem dX10_flatten_87 : decode cX10_flatten 87 = .ok (.aload_n 0, 1) := by decide +kernel
theorem dX10_flatten_88 : decode cX10_flatten 88 = .ok (.getfield 10, 3) := by decide +kernel
theorem dX10_flatten_91 : decode cX10_flatten 91 = .ok (.invokevirtual 95, 3) := by decide +kernel
theorem dX10_flatten_94 : decode cX10_flatten 94 = .ok (.ireturn, 1) := by decide +kernel
theorem dX10_layer_0 : decode cX10_layer 0 = .ok (.aload_n 0, 1) := by decide +kernel
theorem dX10_layer_1 : decode cX10_layer 1 = .ok (.getfield 10, 3) := by decide +kernel
theorem dX10_layer_4 : decode cX10_layer 4 = .ok (.iload_n 1, 1) := by decide +kernel
theorem dX10_layer_5 : decode cX10_layer 5 = .ok (.invokevirtual 118, 3) := by decide +kernel
theorem dX10_layer_8 : decode cX10_layer 8 = .ok (.astore_n 3, 1) := by decide +kernel
theorem dX10_layer_9 : decode cX10_layer 9 = .ok (.aload_n 3, 1) := by decide +kernel
theorem dX10_layer_10 : decode cX10_layer 10 = .ok (.ifnonnull 7, 3) := by decide +kernel
theorem dX10_layer_13 : decode cX10_layer 13 = .ok (.sipush (-1001), 3) := by decide +kernel
theorem dX10_layer_16 : decode cX10_layer 16 = .ok (.ireturn, 1) := by decide +kernel
theorem dX10_layer_17 : decode cX10_layer 17 = .ok (.iload_n 2, 1) := by decide +kernel
theorem dX10_layer_18 : decode cX10_layer 18 = .ok (.tableswitch 117 0 8 #[50, 55, 64, 73, 78, 83, 96, 101, 109], 50) := by decide +kernel
theorem dX10_layer_68 : decode cX10_layer 68 = .ok (.aload_n 3, 1) := by decide +kernel
theorem dX10_layer_69 : decode cX10_layer 69 = .ok (.getfield 156, 3) := by decide +kernel
theorem dX10_layer_72 : decode cX10_layer 72 = .ok (.ireturn, 1) := by decide +kernel
theorem dX10_layer_73 : decode cX10_layer 73 = .ok (.aload_n 3, 1) := by decide +kernel
theorem dX10_layer_74 : decode cX10_layer 74 = .ok (.getfield 159, 3) := by decide +kernel
theorem dX10_layer_77 : decode cX10_layer 77 = .ok (.sipush 1000, 3) := by decide +kernel
theorem dX10_layer_80 : decode cX10_layer 80 = .ok (.iadd, 1) := by decide +kernel
theorem dX10_layer_81 : decode cX10_layer 81 = .ok (.ireturn, 1) := by decide +kernel
theorem dX10_layer_82 : decode cX10_layer 82 = .ok (.aload_n 3, 1) := by decide +kernel
theorem dX10_layer_83 : decode cX10_layer 83 = .ok (.getfield 166, 3) := by decide +kernel
theorem dX10_layer_86 : decode cX10_layer 86 = .ok (.sipush 1000, 3) := by decide +kernel
theorem dX10_layer_89 : decode cX10_layer 89 = .ok (.iadd, 1) := by decide +kernel
theorem dX10_layer_90 : decode cX10_layer 90 = .ok (.ireturn, 1) := by decide +kernel
theorem dX10_layer_91 : decode cX10_layer 91 = .ok (.aload_n 3, 1) := by decide +kernel
theorem dX10_layer_92 : decode cX10_layer 92 = .ok (.getfield 172, 3) := by decide +kernel
theorem dX10_layer_95 : decode cX10_layer 95 = .ok (.ireturn, 1) := by decide +kernel
theorem dX10_layer_96 : decode cX10_layer 96 = .ok (.aload_n 3, 1) := by decide +kernel
theorem dX10_layer_97 : decode cX10_layer 97 = .ok (.getfield 169, 3) := by decide +kernel
theorem dX10_layer_100 : decode cX10_layer 100 = .ok (.ireturn, 1) := by decide +kernel
theorem dX10_layer_101 : decode cX10_layer 101 = .ok (.aload_n 3, 1) := by decide +kernel
theorem dX10_layer_102 : decode cX10_layer 102 = .ok (.getfield 122, 3) := by decide +kernel
theorem dX10_layer_105 : decode cX10_layer 105 = .ok (.ifCond .eq 7, 3) := by decide +kernel
theorem dX10_layer_108 : decode cX10_layer 108 = .ok (.iconst 1, 1) := by decide +kernel
theorem dX10_layer_109 : decode cX10_layer 109 = .ok (.goto 4, 3) := by decide +kernel
theorem dX10_layer_112 : decode cX10_layer 112 = .ok (.iconst 0, 1) := by decide +kernel
theorem dX10_layer_113 : decode cX10_layer 113 = .ok (.ireturn, 1) := by decide +kernel
theorem dX10_layer_114 : decode cX10_layer 114 = .ok (.aload_n 3, 1) := by decide +kernel
theorem dX10_layer_115 : decode cX10_layer 115 = .ok (.invokevirtual 128, 3) := by decide +kernel
theorem dX10_layer_118 : decode cX10_layer 118 = .ok (.ireturn, 1) := by decide +kernel
theorem dX10_layer_119 : decode cX10_layer 119 = .ok (.aload_n 3, 1) := by decide +kernel
theorem dX10_layer_120 : decode cX10_layer 120 = .ok (.getfield 198, 3) := by decide +kernel
theorem dX10_layer_123 : decode cX10_layer 123 = .ok (.getfield 202, 3) := by decide +kernel
theorem dX10_layer_126 : decode cX10_layer 126 = .ok (.ireturn, 1) := by decide +kernel
theorem dX10_layer_127 : decode cX10_layer 127 = .ok (.aload_n 3, 1) := by decide +kernel
theorem dX10_layer_128 : decode cX10_layer 128 = .ok (.getfield 198, 3) := by decide +kernel
theorem dX10_layer_131 : decode cX10_layer 131 = .ok (.getfield 205, 3) := by decide +kernel
theorem dX10_layer_134 : decode cX10_layer 134 = .ok (.ireturn, 1) := by decide +kernel
theorem dX10_layer_135 : decode cX10_layer 135 = .ok (.sipush (-1001), 3) := by decide +kernel
theorem dX10_layer_138 : decode cX10_layer 138 = .ok (.ireturn, 1) := by decide +kernel
theorem dX10_startChangeOf_0 : decode cX10_startChangeOf 0 = .ok (.aload_n 0, 1) := by decide +kernel
theorem dX10_startChangeOf_1 : decode cX10_startChangeOf 1 = .ok (.getfield 22, 3) := by decide +kernel
theorem dX10_startChangeOf_4 : decode cX10_startChangeOf 4 = .ok (.aload_n 0, 1) := by decide +kernel
theorem dX10_startChangeOf_5 : decode cX10_startChangeOf 5 = .ok (.getfield 10, 3) := by decide +kernel
theorem dX10_startChangeOf_8 : decode cX10_startChangeOf 8 = .ok (.invokevirtual 72, 3) := by decide +kernel
theorem dX10_startChangeOf_11 : decode cX10_startChangeOf 11 = .ok (.aload_n 0, 1) := by decide +kernel
theorem dX10_startChangeOf_12 : decode cX10_startChangeOf 12 = .ok (.getfield 40, 3) := by decide +kernel
theorem dX10_startChangeOf_15 : decode cX10_startChangeOf 15 = .ok (.iload_n 1, 1) := by decide +kernel
theorem dX10_startChangeOf_16 : decode cX10_startChangeOf 16 = .ok (.invokevirtual 208, 3) := by decide +kernel
theorem dX10_startChangeOf_19 : decode cX10_startChangeOf 19 = .ok (.pop, 1) := by decide +kernel
theorem dX10_startChangeOf_20 : decode cX10_startChangeOf 20 = .ok (.return_, 1) := by decide +kernel
theorem dX10_setMask_0 : decode cX10_setMask 0 = .ok (.aload_n 0, 1) := by decide +kernel
theorem dX10_setMask_1 : decode cX10_setMask 1 = .ok (.getfield 10, 3) := by decide +kernel
theorem dX10_setMask_4 : decode cX10_setMask 4 = .ok (.iload_n 1, 1) := by decide +kernel
theorem dX10_setMask_5 : decode cX10_setMask 5 = .ok (.invokevirtual 118, 3) := by decide +kernel
theorem dX10_setMask_8 : decode cX10_setMask 8 = .ok (.astore 7, 2) := by decide +kernel
theorem dX10_setMask_10 : decode cX10_setMask 10 = .ok (.aload 7, 2) := by decide +kernel
theorem dX10_setMask_12 : decode cX10_setMask 12 = .ok (.ifnull 17, 3) := by decide +kernel
theorem dX10_setMask_15 : decode cX10_setMask 15 = .ok (.iload_n 2, 1) := by decide +kernel
theorem dX10_setMask_16 : decode cX10_setMask 16 = .ok (.iload_n 3, 1) := by decide +kernel
theorem dX10_setMask_17 : decode cX10_setMask 17 = .ok (.iload 4, 2) := by decide +kernel
theorem dX10_setMask_19 : decode cX10_setMask 19 = .ok (.iload 5, 2) := by decide +kernel
theorem dX10_setMask_21 : decode cX10_setMask 21 = .ok (.iload 6, 2) := by decide +kernel
theorem dX10_setMask_23 : decode cX10_setMask 23 = .ok (.invokestatic 212, 3) := by decide +kernel
theorem dX10_setMask_26 : decode cX10_setMask 26 = .ok (.ifCond .ne 7, 3) := by decide +kernel
theorem dX10_setMask_29 : decode cX10_setMask 29 = .ok (.sipush (-1001), 3) := by decide +kernel
theorem dX10_setMask_32 : decode cX10_setMask 32 = .ok (.ireturn, 1) := by decide +kernel
theorem dX10_setMask_33 : decode cX10_setMask 33 = .ok (.aload 7, 2) := by decide +kernel
theorem dX10_setMask_35 : decode cX10_setMask 35 = .ok (.getfield 198, 3) := by decide +kernel
theorem dX10_setMask_38 : decode cX10_setMask 38 = .ok (.getfield 202, 3) := by decide +kernel
theorem dX10_setMask_41 : decode cX10_setMask 41 = .ok (.istore 8, 2) := by decide +kernel
theorem dX10_setMask_43 : decode cX10_setMask 43 = .ok (.aload_n 0, 1) := by decide +kernel
theorem dX10_setMask_44 : decode cX10_setMask 44 = .ok (.iload_n 1, 1) := by decide +kernel
theorem dX10_setMask_45 : decode cX10_setMask 45 = .ok (.invokevirtual 162, 3) := by decide +kernel
theorem dX10_setMask_48 : decode cX10_setMask 48 = .ok (.aload 7, 2) := by decide +kernel
theorem dX10_setMask_50 : decode cX10_setMask 50 = .ok (.getfield 198, 3) := by decide +kernel
theorem dX10_setMask_53 : decode cX10_setMask 53 = .ok (.iload_n 2, 1) := by decide +kernel
theorem dX10_setMask_54 : decode cX10_setMask 54 = .ok (.iload_n 3, 1) := by decide +kernel
theorem dX10_setMask_55 : decode cX10_setMask 55 = .ok (.iload 4, 2) := by decide +kernel
theorem dX10_setMask_57 : decode cX10_setMask 57 = .ok (.iload 5, 2) := by decide +kernel
theorem dX10_setMask_59 : decode cX10_setMask 59 = .ok (.iload 6, 2) := by decide +kernel
theorem dX10_setMask_61 : decode cX10_setMask 61 = .ok (.invokevirtual 216, 3) := by decide +kernel
theorem dX10_setMask_64 : decode cX10_setMask 64 = .ok (.iload 8, 2) := by decide +kernel
theorem dX10_setMask_66 : decode cX10_setMask 66 = .ok (.ireturn, 1) := by decide +kernel
theorem dX10_setFeather_0 : decode cX10_setFeather 0 = .ok (.aload_n 0, 1) := by decide +kernel
theorem dX10_setFeather_1 : decode cX10_setFeather 1 = .ok (.getfield 10, 3) := by decide +kernel
theorem dX10_setFeather_4 : decode cX10_setFeather 4 = .ok (.iload_n 1, 1) := by decide +kernel
theorem dX10_setFeather_5 : decode cX10_setFeather 5 = .ok (.invokevirtual 118, 3) := by decide +kernel
theorem dX10_setFeather_8 : decode cX10_setFeather 8 = .ok (.astore_n 3, 1) := by decide +kernel
theorem dX10_setFeather_9 : decode cX10_setFeather 9 = .ok (.aload_n 3, 1) := by decide +kernel
theorem dX10_setFeather_10 : decode cX10_setFeather 10 = .ok (.ifnull 12, 3) := by decide +kernel
theorem dX10_setFeather_13 : decode cX10_setFeather 13 = .ok (.iload_n 2, 1) := by decide +kernel
theorem dX10_setFeather_14 : decode cX10_setFeather 14 = .ok (.iconst 0, 1) := by decide +kernel
theorem dX10_setFeather_15 : decode cX10_setFeather 15 = .ok (.iconst 5, 1) := by decide +kernel
theorem dX10_setFeather_16 : decode cX10_setFeather 16 = .ok (.invokestatic 68, 3) := by decide +kernel
theorem dX10_setFeather_19 : decode cX10_setFeather 19 = .ok (.ifCond .ne 7, 3) := by decide +kernel
theorem dX10_setFeather_22 : decode cX10_setFeather 22 = .ok (.sipush (-1001), 3) := by decide +kernel
theorem dX10_setFeather_25 : decode cX10_setFeather 25 = .ok (.ireturn, 1) := by decide +kernel
theorem dX10_setFeather_26 : decode cX10_setFeather 26 = .ok (.aload_n 3, 1) := by decide +kernel
theorem dX10_setFeather_27 : decode cX10_setFeather 27 = .ok (.getfield 198, 3) := by decide +kernel
theorem dX10_setFeather_30 : decode cX10_setFeather 30 = .ok (.getfield 220, 3) := by decide +kernel
theorem dX10_setFeather_33 : decode cX10_setFeather 33 = .ok (.istore 4, 2) := by decide +kernel
theorem dX10_setFeather_35 : decode cX10_setFeather 35 = .ok (.aload_n 0, 1) := by decide +kernel
theorem dX10_setFeather_36 : decode cX10_setFeather 36 = .ok (.iload_n 1, 1) := by decide +kernel
theorem dX10_setFeather_37 : decode cX10_setFeather 37 = .ok (.invokevirtual 162, 3) := by decide +kernel
theorem dX10_setFeather_40 : decode cX10_setFeather 40 = .ok (.aload_n 3, 1) := by decide +kernel
theorem dX10_setFeather_41 : decode cX10_setFeather 41 = .ok (.getfield 198, 3) := by decide +kernel
theorem dX10_setFeather_44 : decode cX10_setFeather 44 = .ok (.iload_n 2, 1) := by decide +kernel
theorem dX10_setFeather_45 : decode cX10_setFeather 45 = .ok (.putfield 220, 3) := by decide +kernel
theorem dX10_setFeather_48 : decode cX10_setFeather 48 = .ok (.iload 4, 2) := by decide +kernel
theorem dX10_setFeather_50 : decode cX10_setFeather 50 = .ok (.ireturn, 1) := by decide +kernel
theorem dX10_invertMask_0 : decode cX10_invertMask 0 = .ok (.aload_n 0, 1) := by decide +kernel
theorem dX10_invertMask_1 : decode cX10_invertMask 1 = .ok (.getfield 10, 3) := by decide +kernel
theorem dX10_invertMask_4 : decode cX10_invertMask 4 = .ok (.iload_n 1, 1) := by decide +kernel
theorem dX10_invertMask_5 : decode cX10_invertMask 5 = .ok (.invokevirtual 118, 3) := by decide +kernel
theorem dX10_invertMask_8 : decode cX10_invertMask 8 = .ok (.astore_n 2, 1) := by decide +kernel
theorem dX10_invertMask_9 : decode cX10_invertMask 9 = .ok (.aload_n 2, 1) := by decide +kernel
theorem dX10_invertMask_10 : decode cX10_invertMask 10 = .ok (.ifnonnull 7, 3) := by decide +kernel
theorem dX10_invertMask_13 : decode cX10_invertMask 13 = .ok (.sipush (-1001), 3) := by decide +kernel
theorem dX10_invertMask_16 : decode cX10_invertMask 16 = .ok (.ireturn, 1) := by decide +kernel
theorem dX10_invertMask_17 : decode cX10_invertMask 17 = .ok (.aload_n 0, 1) := by decide +kernel
theorem dX10_invertMask_18 : decode cX10_invertMask 18 = .ok (.iload_n 1, 1) := by decide +kernel
theorem dX10_invertMask_19 : decode cX10_invertMask 19 = .ok (.invokevirtual 162, 3) := by decide +kernel
theorem dX10_invertMask_22 : decode cX10_invertMask 22 = .ok (.aload_n 2, 1) := by decide +kernel
theorem dX10_invertMask_23 : decode cX10_invertMask 23 = .ok (.getfield 198, 3) := by decide +kernel
theorem dX10_invertMask_26 : decode cX10_invertMask 26 = .ok (.aload_n 2, 1) := by decide +kernel
theorem dX10_invertMask_27 : decode cX10_invertMask 27 = .ok (.getfield 198, 3) := by decide +kernel
theorem dX10_invertMask_30 : decode cX10_invertMask 30 = .ok (.getfield 223, 3) := by decide +kernel
theorem dX10_invertMask_33 : decode cX10_invertMask 33 = .ok (.ifCond .ne 7, 3) := by decide +kernel
theorem dX10_invertMask_36 : decode cX10_invertMask 36 = .ok (.iconst 1, 1) := by decide +kernel
theorem dX10_invertMask_37 : decode cX10_invertMask 37 = .ok (.goto 4, 3) := by decide +kernel
theorem dX10_invertMask_40 : decode cX10_invertMask 40 = .ok (.iconst 0, 1) := by decide +kernel
theorem dX10_invertMask_41 : decode cX10_invertMask 41 = .ok (.putfield 223, 3) := by decide +kernel
theorem dX10_invertMask_44 : decode cX10_invertMask 44 = .ok (.aload_n 2, 1) := by decide +kernel
theorem dX10_invertMask_45 : decode cX10_invertMask 45 = .ok (.getfield 198, 3) := by decide +kernel
theorem dX10_invertMask_48 : decode cX10_invertMask 48 = .ok (.getfield 223, 3) := by decide +kernel
theorem dX10_invertMask_51 : decode cX10_invertMask 51 = .ok (.ifCond .eq 7, 3) := by decide +kernel
theorem dX10_invertMask_54 : decode cX10_invertMask 54 = .ok (.iconst 1, 1) := by decide +kernel
theorem dX10_invertMask_55 : decode cX10_invertMask 55 = .ok (.goto 4, 3) := by decide +kernel
theorem dX10_invertMask_58 : decode cX10_invertMask 58 = .ok (.iconst 0, 1) := by decide +kernel
theorem dX10_invertMask_59 : decode cX10_invertMask 59 = .ok (.ireturn, 1) := by decide +kernel
theorem dX10_dab_0 : decode cX10_dab 0 = .ok (.aload_n 0, 1) := by decide +kernel
theorem dX10_dab_1 : decode cX10_dab 1 = .ok (.getfield 10, 3) := by decide +kernel
theorem dX10_dab_4 : decode cX10_dab 4 = .ok (.iload_n 1, 1) := by decide +kernel
theorem dX10_dab_5 : decode cX10_dab 5 = .ok (.invokevirtual 118, 3) := by decide +kernel
theorem dX10_dab_8 : decode cX10_dab 8 = .ok (.astore 5, 2) := by decide +kernel
theorem dX10_dab_10 : decode cX10_dab 10 = .ok (.aload 5, 2) := by decide +kernel
theorem dX10_dab_12 : decode cX10_dab 12 = .ok (.ifnull 34, 3) := by decide +kernel
theorem dX10_dab_15 : decode cX10_dab 15 = .ok (.iload_n 2, 1) := by decide +kernel
theorem dX10_dab_16 : decode cX10_dab 16 = .ok (.iconst 0, 1) := by decide +kernel
theorem dX10_dab_17 : decode cX10_dab 17 = .ok (.bipush 15, 2) := by decide +kernel
theorem dX10_dab_19 : decode cX10_dab 19 = .ok (.invokestatic 68, 3) := by decide +kernel
theorem dX10_dab_22 : decode cX10_dab 22 = .ok (.ifCond .eq 24, 3) := by decide +kernel
theorem dX10_dab_25 : decode cX10_dab 25 = .ok (.iload_n 3, 1) := by decide +kernel
theorem dX10_dab_26 : decode cX10_dab 26 = .ok (.iconst 0, 1) := by decide +kernel
theorem dX10_dab_27 : decode cX10_dab 27 = .ok (.bipush 15, 2) := by decide +kernel
theorem dX10_dab_29 : decode cX10_dab 29 = .ok (.invokestatic 68, 3) := by decide +kernel
theorem dX10_dab_32 : decode cX10_dab 32 = .ok (.ifCond .eq 14, 3) := by decide +kernel
theorem dX10_dab_35 : decode cX10_dab 35 = .ok (.iload 4, 2) := by decide +kernel
theorem dX10_dab_37 : decode cX10_dab 37 = .ok (.iconst 0, 1) := by decide +kernel
theorem dX10_dab_38 : decode cX10_dab 38 = .ok (.bipush 8, 2) := by decide +kernel
theorem dX10_dab_40 : decode cX10_dab 40 = .ok (.invokestatic 68, 3) := by decide +kernel
theorem dX10_dab_43 : decode cX10_dab 43 = .ok (.ifCond .ne 7, 3) := by decide +kernel
theorem dX10_dab_46 : decode cX10_dab 46 = .ok (.sipush (-1001), 3) := by decide +kernel
theorem dX10_dab_49 : decode cX10_dab 49 = .ok (.ireturn, 1) := by decide +kernel
theorem dX10_dab_50 : decode cX10_dab 50 = .ok (.aload 5, 2) := by decide +kernel
theorem dX10_dab_52 : decode cX10_dab 52 = .ok (.getfield 198, 3) := by decide +kernel
theorem dX10_dab_55 : decode cX10_dab 55 = .ok (.getfield 205, 3) := by decide +kernel
theorem dX10_dab_58 : decode cX10_dab 58 = .ok (.bipush 6, 2) := by decide +kernel
theorem dX10_dab_60 : decode cX10_dab 60 = .ok (.if_icmp .lt 7, 3) := by decide +kernel
theorem dX10_dab_63 : decode cX10_dab 63 = .ok (.sipush (-1003), 3) := by decide +kernel
theorem dX10_dab_66 : decode cX10_dab 66 = .ok (.ireturn, 1) := by decide +kernel
theorem dX10_dab_67 : decode cX10_dab 67 = .ok (.aload_n 0, 1) := by decide +kernel
theorem dX10_dab_68 : decode cX10_dab 68 = .ok (.iload_n 1, 1) := by decide +kernel
theorem dX10_dab_69 : decode cX10_dab 69 = .ok (.invokevirtual 162, 3) := by decide +kernel
theorem dX10_dab_72 : decode cX10_dab 72 = .ok (.aload 5, 2) := by decide +kernel
theorem dX10_dab_74 : decode cX10_dab 74 = .ok (.getfield 198, 3) := by decide +kernel
theorem dX10_dab_77 : decode cX10_dab 77 = .ok (.iconst 4, 1) := by decide +kernel
theorem dX10_dab_78 : decode cX10_dab 78 = .ok (.iconst 0, 1) := by decide +kernel
theorem dX10_dab_79 : decode cX10_dab 79 = .ok (.iconst 0, 1) := by decide +kernel
theorem dX10_dab_80 : decode cX10_dab 80 = .ok (.iconst 0, 1) := by decide +kernel
theorem dX10_dab_81 : decode cX10_dab 81 = .ok (.iconst 0, 1) := by decide +kernel
theorem dX10_dab_82 : decode cX10_dab 82 = .ok (.invokevirtual 216, 3) := by decide +kernel
theorem dX10_dab_85 : decode cX10_dab 85 = .ok (.aload 5, 2) := by decide +kernel
theorem dX10_dab_87 : decode cX10_dab 87 = .ok (.getfield 198, 3) := by decide +kernel
theorem dX10_dab_90 : decode cX10_dab 90 = .ok (.iload_n 2, 1) := by decide +kernel
theorem dX10_dab_91 : decode cX10_dab 91 = .ok (.iload_n 3, 1) := by decide +kernel
theorem dX10_dab_92 : decode cX10_dab 92 = .ok (.iload 4, 2) := by decide +kernel
theorem dX10_dab_94 : decode cX10_dab 94 = .ok (.invokevirtual 226, 3) := by decide +kernel
theorem dX10_dab_97 : decode cX10_dab 97 = .ok (.aload 5, 2) := by decide +kernel
theorem dX10_dab_99 : decode cX10_dab 99 = .ok (.getfield 198, 3) := by decide +kernel
theorem dX10_dab_102 : decode cX10_dab 102 = .ok (.getfield 205, 3) := by decide +kernel
theorem dX10_dab_105 : decode cX10_dab 105 = .ok (.ireturn, 1) := by decide +kernel
theorem dX10_maskValue_0 : decode cX10_maskValue 0 = .ok (.aload_n 0, 1) := by decide +kernel
theorem dX10_maskValue_1 : decode cX10_maskValue 1 = .ok (.getfield 10, 3) := by decide +kernel
theorem dX10_maskValue_4 : decode cX10_maskValue 4 = .ok (.iload_n 1, 1) := by decide +kernel
theorem dX10_maskValue_5 : decode cX10_maskValue 5 = .ok (.invokevirtual 118, 3) := by decide +kernel
theorem dX10_maskValue_8 : decode cX10_maskValue 8 = .ok (.astore 4, 2) := by decide +kernel
theorem dX10_maskValue_10 : decode cX10_maskValue 10 = .ok (.aload 4, 2) := by decide +kernel
theorem dX10_maskValue_12 : decode cX10_maskValue 12 = .ok (.ifnull 18, 3) := by decide +kernel
theorem dX10_maskValue_15 : decode cX10_maskValue 15 = .ok (.aload_n 0, 1) := by decide +kernel
theorem dX10_maskValue_16 : decode cX10_maskValue 16 = .ok (.getfield 10, 3) := by decide +kernel
theorem dX10_maskValue_19 : decode cX10_maskValue 19 = .ok (.getfield 61, 3) := by decide +kernel
theorem dX10_maskValue_22 : decode cX10_maskValue 22 = .ok (.iload_n 2, 1) := by decide +kernel
theorem dX10_maskValue_23 : decode cX10_maskValue 23 = .ok (.iload_n 3, 1) := by decide +kernel
theorem dX10_maskValue_24 : decode cX10_maskValue 24 = .ok (.invokevirtual 80, 3) := by decide +kernel
theorem dX10_maskValue_27 : decode cX10_maskValue 27 = .ok (.ifCond .ne 7, 3) := by decide +kernel
theorem dX10_maskValue_30 : decode cX10_maskValue 30 = .ok (.sipush (-1001), 3) := by decide +kernel
theorem dX10_maskValue_33 : decode cX10_maskValue 33 = .ok (.ireturn, 1) := by decide +kernel
theorem dX10_maskValue_34 : decode cX10_maskValue 34 = .ok (.aload_n 0, 1) := by decide +kernel
theorem dX10_maskValue_35 : decode cX10_maskValue 35 = .ok (.getfield 47, 3) := by decide +kernel
theorem dX10_maskValue_38 : decode cX10_maskValue 38 = .ok (.aload_n 0, 1) := by decide +kernel
theorem dX10_maskValue_39 : decode cX10_maskValue 39 = .ok (.getfield 10, 3) := by decide +kernel
theorem dX10_maskValue_42 : decode cX10_maskValue 42 = .ok (.iload_n 1, 1) := by decide +kernel
theorem dX10_maskValue_43 : decode cX10_maskValue 43 = .ok (.iconst 1, 1) := by decide +kernel
theorem dX10_maskValue_44 : decode cX10_maskValue 44 = .ok (.isub, 1) := by decide +kernel
theorem dX10_maskValue_45 : decode cX10_maskValue 45 = .ok (.aload_n 0, 1) := by decide +kernel
theorem dX10_maskValue_46 : decode cX10_maskValue 46 = .ok (.getfield 54, 3) := by decide +kernel
theorem dX10_maskValue_49 : decode cX10_maskValue 49 = .ok (.invokevirtual 187, 3) := by decide +kernel
theorem dX10_maskValue_52 : decode cX10_maskValue 52 = .ok (.aload 4, 2) := by decide +kernel
theorem dX10_maskValue_54 : decode cX10_maskValue 54 = .ok (.getfield 198, 3) := by decide +kernel
theorem dX10_maskValue_57 : decode cX10_maskValue 57 = .ok (.iload_n 2, 1) := by decide +kernel
theorem dX10_maskValue_58 : decode cX10_maskValue 58 = .ok (.iload_n 3, 1) := by decide +kernel
theorem dX10_maskValue_59 : decode cX10_maskValue 59 = .ok (.aload_n 0, 1) := by decide +kernel
theorem dX10_maskValue_60 : decode cX10_maskValue 60 = .ok (.getfield 54, 3) := by decide +kernel
theorem dX10_maskValue_63 : decode cX10_maskValue 63 = .ok (.iload_n 2, 1) := by decide +kernel
theorem dX10_maskValue_64 : decode cX10_maskValue 64 = .ok (.iload_n 3, 1) := by decide +kernel
theorem dX10_maskValue_65 : decode cX10_maskValue 65 = .ok (.invokevirtual 229, 3) := by decide +kernel
theorem dX10_maskValue_68 : decode cX10_maskValue 68 = .ok (.invokevirtual 232, 3) := by decide +kernel
theorem dX10_maskValue_71 : decode cX10_maskValue 71 = .ok (.ireturn, 1) := by decide +kernel
theorem dX10_append_0 : decode cX10_append 0 = .ok (.iload_n 1, 1) := by decide +kernel
theorem dX10_append_1 : decode cX10_append 1 = .ok (.iconst 1, 1) := by decide +kernel
theorem dX10_append_2 : decode cX10_append 2 = .ok (.sipush 255, 3) := by decide +kernel
theorem dX10_append_5 : decode cX10_append 5 = .ok (.invokestatic 68, 3) := by decide +kernel
theorem dX10_append_8 : decode cX10_append 8 = .ok (.ifCond .ne 7, 3) := by decide +kernel
theorem dX10_append_11 : decode cX10_append 11 = .ok (.sipush (-1001), 3) := by decide +kernel
theorem dX10_append_14 : decode cX10_append 14 = .ok (.ireturn, 1) := by decide +kernel
theorem dX10_append_15 : decode cX10_append 15 = .ok (.aload_n 0, 1) := by decide +kernel
theorem dX10_append_16 : decode cX10_append 16 = .ok (.getfield 33, 3) := by decide +kernel
theorem dX10_append_19 : decode cX10_append 19 = .ok (.getfield 236, 3) := by decide +kernel
theorem dX10_append_22 : decode cX10_append 22 = .ok (.sipush 160, 3) := by decide +kernel
theorem dX10_append_25 : decode cX10_append 25 = .ok (.if_icmp .lt 7, 3) := by decide +kernel
theorem dX10_append_28 : decode cX10_append 28 = .ok (.sipush (-1003), 3) := by decide +kernel
theorem dX10_append_31 : decode cX10_append 31 = .ok (.ireturn, 1) := by decide +kernel
theorem dX10_append_32 : decode cX10_append 32 = .ok (.aload_n 0, 1) := by decide +kernel
theorem dX10_append_33 : decode cX10_append 33 = .ok (.getfield 33, 3) := by decide +kernel
theorem dX10_append_36 : decode cX10_append 36 = .ok (.iload_n 1, 1) := by decide +kernel
theorem dX10_append_37 : decode cX10_append 37 = .ok (.invokevirtual 239, 3) := by decide +kernel
theorem dX10_append_40 : decode cX10_append 40 = .ok (.aload_n 0, 1) := by decide +kernel
theorem dX10_append_41 : decode cX10_append 41 = .ok (.getfield 33, 3) := by decide +kernel
theorem dX10_append_44 : decode cX10_append 44 = .ok (.getfield 236, 3) := by decide +kernel
theorem dX10_append_47 : decode cX10_append 47 = .ok (.ireturn, 1) := by decide +kernel
theorem dX10_clearText_0 : decode cX10_clearText 0 = .ok (.aload_n 0, 1) := by decide +kernel
theorem dX10_clearText_1 : decode cX10_clearText 1 = .ok (.getfield 33, 3) := by decide +kernel
theorem dX10_clearText_4 : decode cX10_clearText 4 = .ok (.getfield 236, 3) := by decide +kernel
theorem dX10_clearText_7 : decode cX10_clearText 7 = .ok (.istore_n 1, 1) := by decide +kernel
theorem dX10_clearText_8 : decode cX10_clearText 8 = .ok (.aload_n 0, 1) := by decide +kernel
theorem dX10_clearText_9 : decode cX10_clearText 9 = .ok (.getfield 33, 3) := by decide +kernel
theorem dX10_clearText_12 : decode cX10_clearText 12 = .ok (.iconst 0, 1) := by decide +kernel
theorem dX10_clearText_13 : decode cX10_clearText 13 = .ok (.putfield 236, 3) := by decide +kernel
theorem dX10_clearText_16 : decode cX10_clearText 16 = .ok (.iload_n 1, 1) := by decide +kernel
theorem dX10_clearText_17 : decode cX10_clearText 17 = .ok (.ireturn, 1) := by decide +kernel
theorem dX10_loadStack_0 : decode cX10_loadStack 0 = .ok (.aload_n 0, 1) := by decide +kernel
theorem dX10_loadStack_1 : decode cX10_loadStack 1 = .ok (.getfield 33, 3) := by decide +kernel
theorem dX10_loadStack_4 : decode cX10_loadStack 4 = .ok (.aload_n 0, 1) := by decide +kernel
theorem dX10_loadStack_5 : decode cX10_loadStack 5 = .ok (.getfield 16, 3) := by decide +kernel
theorem dX10_loadStack_8 : decode cX10_loadStack 8 = .ok (.invokevirtual 242, 3) := by decide +kernel
theorem dX10_loadStack_11 : decode cX10_loadStack 11 = .ok (.istore_n 1, 1) := by decide +kernel
theorem dX10_loadStack_12 : decode cX10_loadStack 12 = .ok (.iload_n 1, 1) := by decide +kernel
theorem dX10_loadStack_13 : decode cX10_loadStack 13 = .ok (.ifCond .lt 8, 3) := by decide +kernel
theorem dX10_loadStack_16 : decode cX10_loadStack 16 = .ok (.bipush (-10), 2) := by decide +kernel
theorem dX10_loadStack_18 : decode cX10_loadStack 18 = .ok (.iload_n 1, 1) := by decide +kernel
theorem dX10_loadStack_19 : decode cX10_loadStack 19 = .ok (.isub, 1) := by decide +kernel
theorem dX10_loadStack_20 : decode cX10_loadStack 20 = .ok (.ireturn, 1) := by decide +kernel
theorem dX10_loadStack_21 : decode cX10_loadStack 21 = .ok (.aload_n 0, 1) := by decide +kernel
theorem dX10_loadStack_22 : decode cX10_loadStack 22 = .ok (.getfield 22, 3) := by decide +kernel
theorem dX10_loadStack_25 : decode cX10_loadStack 25 = .ok (.aload_n 0, 1) := by decide +kernel
theorem dX10_loadStack_26 : decode cX10_loadStack 26 = .ok (.getfield 10, 3) := by decide +kernel
theorem dX10_loadStack_29 : decode cX10_loadStack 29 = .ok (.invokevirtual 72, 3) := by decide +kernel
theorem dX10_loadStack_32 : decode cX10_loadStack 32 = .ok (.aload_n 0, 1) := by decide +kernel
theorem dX10_loadStack_33 : decode cX10_loadStack 33 = .ok (.getfield 10, 3) := by decide +kernel
theorem dX10_loadStack_36 : decode cX10_loadStack 36 = .ok (.aload_n 0, 1) := by decide +kernel
theorem dX10_loadStack_37 : decode cX10_loadStack 37 = .ok (.getfield 16, 3) := by decide +kernel
theorem dX10_loadStack_40 : decode cX10_loadStack 40 = .ok (.invokevirtual 246, 3) := by decide +kernel
theorem dX10_loadStack_43 : decode cX10_loadStack 43 = .ok (.aload_n 0, 1) := by decide +kernel
theorem dX10_loadStack_44 : decode cX10_loadStack 44 = .ok (.getfield 40, 3) := by decide +kernel
theorem dX10_loadStack_47 : decode cX10_loadStack 47 = .ok (.invokevirtual 76, 3) := by decide +kernel
theorem dX10_loadStack_50 : decode cX10_loadStack 50 = .ok (.pop, 1) := by decide +kernel
theorem dX10_loadStack_51 : decode cX10_loadStack 51 = .ok (.aload_n 0, 1) := by decide +kernel
theorem dX10_loadStack_52 : decode cX10_loadStack 52 = .ok (.getfield 33, 3) := by decide +kernel
theorem dX10_loadStack_55 : decode cX10_loadStack 55 = .ok (.iconst 0, 1) := by decide +kernel
theorem dX10_loadStack_56 : decode cX10_loadStack 56 = .ok (.putfield 236, 3) := by decide +kernel
theorem dX10_loadStack_59 : decode cX10_loadStack 59 = .ok (.aload_n 0, 1) := by decide +kernel
theorem dX10_loadStack_60 : decode cX10_loadStack 60 = .ok (.getfield 10, 3) := by decide +kernel
theorem dX10_loadStack_63 : decode cX10_loadStack 63 = .ok (.invokevirtual 95, 3) := by decide +kernel
theorem dX10_loadStack_66 : decode cX10_loadStack 66 = .ok (.ireturn, 1) := by decide +kernel
theorem dX10_pixel_0 : decode cX10_pixel 0 = .ok (.aload_n 0, 1) := by decide +kernel
theorem dX10_pixel_1 : decode cX10_pixel 1 = .ok (.iload_n 1, 1) := by decide +kernel
theorem dX10_pixel_2 : decode cX10_pixel 2 = .ok (.invokevirtual 249, 3) := by decide +kernel
theorem dX10_pixel_5 : decode cX10_pixel 5 = .ok (.ifCond .eq 18, 3) := by decide +kernel
theorem dX10_pixel_8 : decode cX10_pixel 8 = .ok (.aload_n 0, 1) := by decide +kernel
theorem dX10_pixel_9 : decode cX10_pixel 9 = .ok (.getfield 10, 3) := by decide +kernel
theorem dX10_pixel_12 : decode cX10_pixel 12 = .ok (.getfield 61, 3) := by decide +kernel
theorem dX10_pixel_15 : decode cX10_pixel 15 = .ok (.iload_n 2, 1) := by decide +kernel
theorem dX10_pixel_16 : decode cX10_pixel 16 = .ok (.iload_n 3, 1) := by decide +kernel
theorem dX10_pixel_17 : decode cX10_pixel 17 = .ok (.invokevirtual 80, 3) := by decide +kernel
theorem dX10_pixel_20 : decode cX10_pixel 20 = .ok (.ifCond .ne 7, 3) := by decide +kernel
theorem dX10_pixel_23 : decode cX10_pixel 23 = .ok (.sipush (-1001), 3) := by decide +kernel
theorem dX10_pixel_26 : decode cX10_pixel 26 = .ok (.ireturn, 1) := by decide +kernel
theorem dX10_pixel_27 : decode cX10_pixel 27 = .ok (.aload_n 0, 1) := by decide +kernel
theorem dX10_pixel_28 : decode cX10_pixel 28 = .ok (.iload_n 1, 1) := by decide +kernel
theorem dX10_pixel_29 : decode cX10_pixel 29 = .ok (.aload_n 0, 1) := by decide +kernel
theorem dX10_pixel_30 : decode cX10_pixel 30 = .ok (.getfield 40, 3) := by decide +kernel
theorem dX10_pixel_33 : decode cX10_pixel 33 = .ok (.iload_n 2, 1) := by decide +kernel
theorem dX10_pixel_34 : decode cX10_pixel 34 = .ok (.invokevirtual 253, 3) := by decide +kernel
theorem dX10_pixel_37 : decode cX10_pixel 37 = .ok (.aload_n 0, 1) := by decide +kernel
theorem dX10_pixel_38 : decode cX10_pixel 38 = .ok (.getfield 40, 3) := by decide +kernel
theorem dX10_pixel_41 : decode cX10_pixel 41 = .ok (.iload_n 3, 1) := by decide +kernel
theorem dX10_pixel_42 : decode cX10_pixel 42 = .ok (.invokevirtual 253, 3) := by decide +kernel
theorem dX10_pixel_45 : decode cX10_pixel 45 = .ok (.invokevirtual 256, 3) := by decide +kernel
theorem dX10_pixel_48 : decode cX10_pixel 48 = .ok (.aload_n 0, 1) := by decide +kernel
theorem dX10_pixel_49 : decode cX10_pixel 49 = .ok (.aload_n 0, 1) := by decide +kernel
theorem dX10_pixel_50 : decode cX10_pixel 50 = .ok (.getfield 10, 3) := by decide +kernel
theorem dX10_pixel_53 : decode cX10_pixel 53 = .ok (.iload_n 1, 1) := by decide +kernel
theorem dX10_pixel_54 : decode cX10_pixel 54 = .ok (.invokevirtual 259, 3) := by decide +kernel
theorem dX10_pixel_57 : decode cX10_pixel 57 = .ok (.invokevirtual 262, 3) := by decide +kernel
theorem dX10_pixel_60 : decode cX10_pixel 60 = .ok (.iload_n 2, 1) := by decide +kernel
theorem dX10_pixel_61 : decode cX10_pixel 61 = .ok (.iload_n 3, 1) := by decide +kernel
theorem dX10_pixel_62 : decode cX10_pixel 62 = .ok (.invokevirtual 229, 3) := by decide +kernel
theorem dX10_pixel_65 : decode cX10_pixel 65 = .ok (.istore 4, 2) := by decide +kernel
theorem dX10_pixel_67 : decode cX10_pixel 67 = .ok (.aload_n 0, 1) := by decide +kernel
theorem dX10_pixel_68 : decode cX10_pixel 68 = .ok (.getfield 40, 3) := by decide +kernel
theorem dX10_pixel_71 : decode cX10_pixel 71 = .ok (.invokevirtual 266, 3) := by decide +kernel
theorem dX10_pixel_74 : decode cX10_pixel 74 = .ok (.pop, 1) := by decide +kernel
theorem dX10_pixel_75 : decode cX10_pixel 75 = .ok (.iload 4, 2) := by decide +kernel
theorem dX10_pixel_77 : decode cX10_pixel 77 = .ok (.ireturn, 1) := by decide +kernel
theorem dX10_prefetch_0 : decode cX10_prefetch 0 = .ok (.aload_n 0, 1) := by decide +kernel
theorem dX10_prefetch_1 : decode cX10_prefetch 1 = .ok (.getfield 10, 3) := by decide +kernel
theorem dX10_prefetch_4 : decode cX10_prefetch 4 = .ok (.iload_n 1, 1) := by decide +kernel
theorem dX10_prefetch_5 : decode cX10_prefetch 5 = .ok (.invokevirtual 118, 3) := by decide +kernel
theorem dX10_prefetch_8 : decode cX10_prefetch 8 = .ok (.ifnonnull 7, 3) := by decide +kernel
theorem dX10_prefetch_11 : decode cX10_prefetch 11 = .ok (.sipush (-1001), 3) := by decide +kernel
theorem dX10_prefetch_14 : decode cX10_prefetch 14 = .ok (.ireturn, 1) := by decide +kernel
theorem dX10_prefetch_15 : decode cX10_prefetch 15 = .ok (.aload_n 0, 1) := by decide +kernel
theorem dX10_prefetch_16 : decode cX10_prefetch 16 = .ok (.getfield 40, 3) := by decide +kernel
theorem dX10_prefetch_19 : decode cX10_prefetch 19 = .ok (.getfield 269, 3) := by decide +kernel
theorem dX10_prefetch_22 : decode cX10_prefetch 22 = .ok (.istore_n 2, 1) := by decide +kernel
theorem dX10_prefetch_23 : decode cX10_prefetch 23 = .ok (.iconst 0, 1) := by decide +kernel
theorem dX10_prefetch_24 : decode cX10_prefetch 24 = .ok (.istore_n 3, 1) := by decide +kernel
theorem dX10_prefetch_25 : decode cX10_prefetch 25 = .ok (.iload_n 3, 1) := by decide +kernel
theorem dX10_prefetch_26 : decode cX10_prefetch 26 = .ok (.aload_n 0, 1) := by decide +kernel
theorem dX10_prefetch_27 : decode cX10_prefetch 27 = .ok (.invokevirtual 104, 3) := by decide +kernel
theorem dX10_prefetch_30 : decode cX10_prefetch 30 = .ok (.if_icmp .ge 35, 3) := by decide +kernel
theorem dX10_prefetch_33 : decode cX10_prefetch 33 = .ok (.iconst 0, 1) := by decide +kernel
theorem dX10_prefetch_34 : decode cX10_prefetch 34 = .ok (.istore 4, 2) := by decide +kernel
theorem dX10_prefetch_36 : decode cX10_prefetch 36 = .ok (.iload 4, 2) := by decide +kernel
theorem dX10_prefetch_38 : decode cX10_prefetch 38 = .ok (.aload_n 0, 1) := by decide +kernel
theorem dX10_prefetch_39 : decode cX10_prefetch 39 = .ok (.invokevirtual 101, 3) := by decide +kernel
theorem dX10_prefetch_42 : decode cX10_prefetch 42 = .ok (.if_icmp .ge 17, 3) := by decide +kernel
theorem dX10_prefetch_45 : decode cX10_prefetch 45 = .ok (.aload_n 0, 1) := by decide +kernel
theorem dX10_prefetch_46 : decode cX10_prefetch 46 = .ok (.iload_n 1, 1) := by decide +kernel
theorem dX10_prefetch_47 : decode cX10_prefetch 47 = .ok (.iload 4, 2) := by decide +kernel
theorem dX10_prefetch_49 : decode cX10_prefetch 49 = .ok (.iload_n 3, 1) := by decide +kernel
theorem dX10_prefetch_50 : decode cX10_prefetch 50 = .ok (.invokevirtual 256, 3) := by decide +kernel
theorem dX10_prefetch_53 : decode cX10_prefetch 53 = .ok (.iinc 4 1, 3) := by decide +kernel
theorem dX10_prefetch_56 : decode cX10_prefetch 56 = .ok (.goto (-20), 3) := by decide +kernel
theorem dX10_prefetch_59 : decode cX10_prefetch 59 = .ok (.iinc 3 1, 3) := by decide +kernel
theorem dX10_prefetch_62 : decode cX10_prefetch 62 = .ok (.goto (-37), 3) := by decide +kernel
theorem dX10_prefetch_65 : decode cX10_prefetch 65 = .ok (.aload_n 0, 1) := by decide +kernel
theorem dX10_prefetch_66 : decode cX10_prefetch 66 = .ok (.getfield 40, 3) := by decide +kernel
theorem dX10_prefetch_69 : decode cX10_prefetch 69 = .ok (.invokevirtual 266, 3) := by decide +kernel
theorem dX10_prefetch_72 : decode cX10_prefetch 72 = .ok (.pop, 1) := by decide +kernel
theorem dX10_prefetch_73 : decode cX10_prefetch 73 = .ok (.aload_n 0, 1) := by decide +kernel
theorem dX10_prefetch_74 : decode cX10_prefetch 74 = .ok (.getfield 40, 3) := by decide +kernel
theorem dX10_prefetch_77 : decode cX10_prefetch 77 = .ok (.getfield 269, 3) := by decide +kernel
theorem dX10_prefetch_80 : decode cX10_prefetch 80 = .ok (.iload_n 2, 1) := by decide +kernel
theorem dX10_prefetch_81 : decode cX10_prefetch 81 = .ok (.isub, 1) := by decide +kernel
theorem dX10_prefetch_82 : decode cX10_prefetch 82 = .ok (.ireturn, 1) := by decide +kernel
theorem dX10_setCacheLimit_0 : decode cX10_setCacheLimit 0 = .ok (.iload_n 1, 1) := by decide +kernel
theorem dX10_setCacheLimit_1 : decode cX10_setCacheLimit 1 = .ok (.iconst 1, 1) := by decide +kernel
theorem dX10_setCacheLimit_2 : decode cX10_setCacheLimit 2 = .ok (.bipush 64, 2) := by decide +kernel
theorem dX10_setCacheLimit_4 : decode cX10_setCacheLimit 4 = .ok (.invokestatic 68, 3) := by decide +kernel
theorem dX10_setCacheLimit_7 : decode cX10_setCacheLimit 7 = .ok (.ifCond .ne 7, 3) := by decide +kernel
theorem dX10_setCacheLimit_10 : decode cX10_setCacheLimit 10 = .ok (.sipush (-1001), 3) := by decide +kernel
theorem dX10_setCacheLimit_13 : decode cX10_setCacheLimit 13 = .ok (.ireturn, 1) := by decide +kernel
theorem dX10_setCacheLimit_14 : decode cX10_setCacheLimit 14 = .ok (.aload_n 0, 1) := by decide +kernel
theorem dX10_setCacheLimit_15 : decode cX10_setCacheLimit 15 = .ok (.getfield 40, 3) := by decide +kernel
theorem dX10_setCacheLimit_18 : decode cX10_setCacheLimit 18 = .ok (.iload_n 1, 1) := by decide +kernel
theorem dX10_setCacheLimit_19 : decode cX10_setCacheLimit 19 = .ok (.putfield 107, 3) := by decide +kernel
theorem dX10_setCacheLimit_22 : decode cX10_setCacheLimit 22 = .ok (.aload_n 0, 1) := by decide +kernel
theorem dX10_setCacheLimit_23 : decode cX10_setCacheLimit 23 = .ok (.getfield 40, 3) := by decide +kernel
theorem dX10_setCacheLimit_26 : decode cX10_setCacheLimit 26 = .ok (.invokevirtual 266, 3) := by decide +kernel
theorem dX10_setCacheLimit_29 : decode cX10_setCacheLimit 29 = .ok (.ireturn, 1) := by decide +kernel
theorem dX10_setTileSize_0 : decode cX10_setTileSize 0 = .ok (.iload_n 1, 1) := by decide +kernel
theorem dX10_setTileSize_1 : decode cX10_setTileSize 1 = .ok (.iconst 2, 1) := by decide +kernel
theorem dX10_setTileSize_2 : decode cX10_setTileSize 2 = .ok (.bipush 8, 2) := by decide +kernel
theorem dX10_setTileSize_4 : decode cX10_setTileSize 4 = .ok (.invokestatic 68, 3) := by decide +kernel
theorem dX10_setTileSize_7 : decode cX10_setTileSize 7 = .ok (.ifCond .ne 7, 3) := by decide +kernel
theorem dX10_setTileSize_10 : decode cX10_setTileSize 10 = .ok (.sipush (-1001), 3) := by decide +kernel
theorem dX10_setTileSize_13 : decode cX10_setTileSize 13 = .ok (.ireturn, 1) := by decide +kernel
theorem dX10_setTileSize_14 : decode cX10_setTileSize 14 = .ok (.aload_n 0, 1) := by decide +kernel
theorem dX10_setTileSize_15 : decode cX10_setTileSize 15 = .ok (.getfield 40, 3) := by decide +kernel
theorem dX10_setTileSize_18 : decode cX10_setTileSize 18 = .ok (.iload_n 1, 1) := by decide +kernel
theorem dX10_setTileSize_19 : decode cX10_setTileSize 19 = .ok (.putfield 98, 3) := by decide +kernel
theorem dX10_setTileSize_22 : decode cX10_setTileSize 22 = .ok (.aload_n 0, 1) := by decide +kernel
theorem dX10_setTileSize_23 : decode cX10_setTileSize 23 = .ok (.getfield 40, 3) := by decide +kernel
theorem dX10_setTileSize_26 : decode cX10_setTileSize 26 = .ok (.invokevirtual 76, 3) := by decide +kernel
theorem dX10_setTileSize_29 : decode cX10_setTileSize 29 = .ok (.ireturn, 1) := by decide +kernel
theorem dX10_clearCache_0 : decode cX10_clearCache 0 = .ok (.aload_n 0, 1) := by decide +kernel
theorem dX10_clearCache_1 : decode cX10_clearCache 1 = .ok (.getfield 40, 3) := by decide +kernel
theorem dX10_clearCache_4 : decode cX10_clearCache 4 = .ok (.invokevirtual 76, 3) := by decide +kernel
theorem dX10_clearCache_7 : decode cX10_clearCache 7 = .ok (.ireturn, 1) := by decide +kernel
theorem dX10_isCached_0 : decode cX10_isCached 0 = .ok (.aload_n 0, 1) := by decide +kernel
theorem dX10_isCached_1 : decode cX10_isCached 1 = .ok (.getfield 10, 3) := by decide +kernel
theorem dX10_isCached_4 : decode cX10_isCached 4 = .ok (.iload_n 1, 1) := by decide +kernel
theorem dX10_isCached_5 : decode cX10_isCached 5 = .ok (.invokevirtual 118, 3) := by decide +kernel
theorem dX10_isCached_8 : decode cX10_isCached 8 = .ok (.ifnull 31, 3) := by decide +kernel
theorem dX10_isCached_11 : decode cX10_isCached 11 = .ok (.iload_n 2, 1) := by decide +kernel
theorem dX10_isCached_12 : decode cX10_isCached 12 = .ok (.iconst 0, 1) := by decide +kernel
theorem dX10_isCached_13 : decode cX10_isCached 13 = .ok (.aload_n 0, 1) := by decide +kernel
theorem dX10_isCached_14 : decode cX10_isCached 14 = .ok (.invokevirtual 101, 3) := by decide +kernel
theorem dX10_isCached_17 : decode cX10_isCached 17 = .ok (.iconst 1, 1) := by decide +kernel
theorem dX10_isCached_18 : decode cX10_isCached 18 = .ok (.isub, 1) := by decide +kernel
theorem dX10_isCached_19 : decode cX10_isCached 19 = .ok (.invokestatic 68, 3) := by decide +kernel
theorem dX10_isCached_22 : decode cX10_isCached 22 = .ok (.ifCond .eq 17, 3) := by decide +kernel
theorem dX10_isCached_25 : decode cX10_isCached 25 = .ok (.iload_n 3, 1) := by decide +kernel
theorem dX10_isCached_26 : decode cX10_isCached 26 = .ok (.iconst 0, 1) := by decide +kernel
theorem dX10_isCached_27 : decode cX10_isCached 27 = .ok (.aload_n 0, 1) := by decide +kernel
theorem dX10_isCached_28 : decode cX10_isCached 28 = .ok (.invokevirtual 104, 3) := by decide +kernel
theorem dX10_isCached_31 : decode cX10_isCached 31 = .ok (.iconst 1, 1) := by decide +kernel
theorem dX10_isCached_32 : decode cX10_isCached 32 = .ok (.isub, 1) := by decide +kernel
theorem dX10_isCached_33 : decode cX10_isCached 33 = .ok (.invokestatic 68, 3) := by decide +kernel
theorem dX10_isCached_36 : decode cX10_isCached 36 = .ok (.ifCond .ne 7, 3) := by decide +kernel
theorem dX10_isCached_39 : decode cX10_isCached 39 = .ok (.sipush (-1001), 3) := by decide +kernel
theorem dX10_isCached_42 : decode cX10_isCached 42 = .ok (.ireturn, 1) := by decide +kernel
theorem dX10_isCached_43 : decode cX10_isCached 43 = .ok (.aload_n 0, 1) := by decide +kernel
theorem dX10_isCached_44 : decode cX10_isCached 44 = .ok (.getfield 40, 3) := by decide +kernel
theorem dX10_isCached_47 : decode cX10_isCached 47 = .ok (.iload_n 1, 1) := by decide +kernel
theorem dX10_isCached_48 : decode cX10_isCached 48 = .ok (.iload_n 2, 1) := by decide +kernel
theorem dX10_isCached_49 : decode cX10_isCached 49 = .ok (.iload_n 3, 1) := by decide +kernel
theorem dX10_isCached_50 : decode cX10_isCached 50 = .ok (.invokevirtual 272, 3) := by decide +kernel
theorem dX10_isCached_53 : decode cX10_isCached 53 = .ok (.ifCond .eq 7, 3) := by decide +kernel
theorem dX10_isCached_56 : decode cX10_isCached 56 = .ok (.iconst 1, 1) := by decide +kernel
theorem dX10_isCached_57 : decode cX10_isCached 57 = .ok (.goto 4, 3) := by decide +kernel
theorem dX10_isCached_60 : decode cX10_isCached 60 = .ok (.iconst 0, 1) := by decide +kernel
theorem dX10_isCached_61 : decode cX10_isCached 61 = .ok (.ireturn, 1) := by decide +kernel
theorem dX10_cachedTiles_0 : decode cX10_cachedTiles 0 = .ok (.aload_n 0, 1) := by decide +kernel
theorem dX10_cachedTiles_1 : decode cX10_cachedTiles 1 = .ok (.getfield 10, 3) := by decide +kernel
theorem dX10_cachedTiles_4 : decode cX10_cachedTiles 4 = .ok (.iload_n 1, 1) := by decide +kernel
theorem dX10_cachedTiles_5 : decode cX10_cachedTiles 5 = .ok (.invokevirtual 118, 3) := by decide +kernel
theorem dX10_cachedTiles_8 : decode cX10_cachedTiles 8 = .ok (.ifnonnull 7, 3) := by decide +kernel
theorem dX10_cachedTiles_11 : decode cX10_cachedTiles 11 = .ok (.sipush (-1001), 3) := by decide +kernel
theorem dX10_cachedTiles_14 : decode cX10_cachedTiles 14 = .ok (.ireturn, 1) := by decide +kernel
theorem dX10_cachedTiles_15 : decode cX10_cachedTiles 15 = .ok (.aload_n 0, 1) := by decide +kernel
theorem dX10_cachedTiles_16 : decode cX10_cachedTiles 16 = .ok (.getfield 40, 3) := by decide +kernel
theorem dX10_cachedTiles_19 : decode cX10_cachedTiles 19 = .ok (.iload_n 1, 1) := by decide +kernel
theorem dX10_cachedTiles_20 : decode cX10_cachedTiles 20 = .ok (.invokevirtual 275, 3) := by decide +kernel
theorem dX10_cachedTiles_23 : decode cX10_cachedTiles 23 = .ok (.ireturn, 1) := by decide +kernel
theorem dX10_counter_0 : decode cX10_counter 0 = .ok (.iload_n 1, 1) := by decide +kernel
theorem dX10_counter_1 : decode cX10_counter 1 = .ok (.tableswitch 51 0 2 #[27, 35, 43], 27) := by decide +kernel
theorem dX10_counter_28 : decode cX10_counter 28 = .ok (.aload_n 0, 1) := by decide +kernel
theorem dX10_counter_29 : decode cX10_counter 29 = .ok (.getfield 40, 3) := by decide +kernel
theorem dX10_counter_32 : decode cX10_counter 32 = .ok (.getfield 269, 3) := by decide +kernel
theorem dX10_counter_35 : decode cX10_counter 35 = .ok (.ireturn, 1) := by decide +kernel
theorem dX10_counter_36 : decode cX10_counter 36 = .ok (.aload_n 0, 1) := by decide +kernel
theorem dX10_counter_37 : decode cX10_counter 37 = .ok (.getfield 40, 3) := by decide +kernel
theorem dX10_counter_40 : decode cX10_counter 40 = .ok (.getfield 278, 3) := by decide +kernel
theorem dX10_counter_43 : decode cX10_counter 43 = .ok (.ireturn, 1) := by decide +kernel
theorem dX10_counter_44 : decode cX10_counter 44 = .ok (.aload_n 0, 1) := by decide +kernel
theorem dX10_counter_45 : decode cX10_counter 45 = .ok (.getfield 40, 3) := by decide +kernel
theorem dX10_counter_48 : decode cX10_counter 48 = .ok (.getfield 281, 3) := by decide +kernel
theorem dX10_counter_51 : decode cX10_counter 51 = .ok (.ireturn, 1) := by decide +kernel
theorem dX10_counter_52 : decode cX10_counter 52 = .ok (.sipush (-1001), 3) := by decide +kernel
theorem dX10_counter_55 : decode cX10_counter 55 = .ok (.ireturn, 1) := by decide +kernel
theorem dX10_oldestTile_0 : decode cX10_oldestTile 0 = .ok (.aload_n 0, 1) := by decide +kernel
theorem dX10_oldestTile_1 : decode cX10_oldestTile 1 = .ok (.getfield 40, 3) := by decide +kernel
theorem dX10_oldestTile_4 : decode cX10_oldestTile 4 = .ok (.invokevirtual 284, 3) := by decide +kernel
theorem dX10_oldestTile_7 : decode cX10_oldestTile 7 = .ok (.istore_n 1, 1) := by decide +kernel
theorem dX10_oldestTile_8 : decode cX10_oldestTile 8 = .ok (.iload_n 1, 1) := by decide +kernel
theorem dX10_oldestTile_9 : decode cX10_oldestTile 9 = .ok (.ifCond .ge 7, 3) := by decide +kernel
theorem dX10_oldestTile_12 : decode cX10_oldestTile 12 = .ok (.sipush (-1009), 3) := by decide +kernel
theorem dX10_oldestTile_15 : decode cX10_oldestTile 15 = .ok (.ireturn, 1) := by decide +kernel
theorem dX10_oldestTile_16 : decode cX10_oldestTile 16 = .ok (.sipush 1000, 3) := by decide +kernel
theorem dX10_oldestTile_19 : decode cX10_oldestTile 19 = .ok (.iload_n 1, 1) := by decide +kernel
theorem dX10_oldestTile_20 : decode cX10_oldestTile 20 = .ok (.invokestatic 287, 3) := by decide +kernel
theorem dX10_oldestTile_23 : decode cX10_oldestTile 23 = .ok (.imul, 1) := by decide +kernel
theorem dX10_oldestTile_24 : decode cX10_oldestTile 24 = .ok (.bipush 10, 2) := by decide +kernel
theorem dX10_oldestTile_26 : decode cX10_oldestTile 26 = .ok (.iload_n 1, 1) := by decide +kernel
theorem dX10_oldestTile_27 : decode cX10_oldestTile 27 = .ok (.invokestatic 290, 3) := by decide +kernel
theorem dX10_oldestTile_30 : decode cX10_oldestTile 30 = .ok (.imul, 1) := by decide +kernel
theorem dX10_oldestTile_31 : decode cX10_oldestTile 31 = .ok (.iadd, 1) := by decide +kernel
theorem dX10_oldestTile_32 : decode cX10_oldestTile 32 = .ok (.iload_n 1, 1) := by decide +kernel
theorem dX10_oldestTile_33 : decode cX10_oldestTile 33 = .ok (.invokestatic 293, 3) := by decide +kernel
theorem dX10_oldestTile_36 : decode cX10_oldestTile 36 = .ok (.iadd, 1) := by decide +kernel
theorem dX10_oldestTile_37 : decode cX10_oldestTile 37 = .ok (.ireturn, 1) := by decide +kernel
theorem dX10_tileColumns_0 : decode cX10_tileColumns 0 = .ok (.aload_n 0, 1) := by decide +kernel
theorem dX10_tileColumns_1 : decode cX10_tileColumns 1 = .ok (.getfield 40, 3) := by decide +kernel
theorem dX10_tileColumns_4 : decode cX10_tileColumns 4 = .ok (.aload_n 0, 1) := by decide +kernel
theorem dX10_tileColumns_5 : decode cX10_tileColumns 5 = .ok (.getfield 10, 3) := by decide +kernel
theorem dX10_tileColumns_8 : decode cX10_tileColumns 8 = .ok (.getfield 61, 3) := by decide +kernel
theorem dX10_tileColumns_11 : decode cX10_tileColumns 11 = .ok (.getfield 88, 3) := by decide +kernel
theorem dX10_tileColumns_14 : decode cX10_tileColumns 14 = .ok (.iconst 1, 1) := by decide +kernel
theorem dX10_tileColumns_15 : decode cX10_tileColumns 15 = .ok (.isub, 1) := by decide +kernel
theorem dX10_tileColumns_16 : decode cX10_tileColumns 16 = .ok (.invokevirtual 253, 3) := by decide +kernel
theorem dX10_tileColumns_19 : decode cX10_tileColumns 19 = .ok (.iconst 1, 1) := by decide +kernel
theorem dX10_tileColumns_20 : decode cX10_tileColumns 20 = .ok (.iadd, 1) := by decide +kernel
theorem dX10_tileColumns_21 : decode cX10_tileColumns 21 = .ok (.ireturn, 1) := by decide +kernel
theorem dX10_tileRows_0 : decode cX10_tileRows 0 = .ok (.aload_n 0, 1) := by decide +kernel
theorem dX10_tileRows_1 : decode cX10_tileRows 1 = .ok (.getfield 40, 3) := by decide +kernel
theorem dX10_tileRows_4 : decode cX10_tileRows 4 = .ok (.aload_n 0, 1) := by decide +kernel
theorem dX10_tileRows_5 : decode cX10_tileRows 5 = .ok (.getfield 10, 3) := by decide +kernel
theorem dX10_tileRows_8 : decode cX10_tileRows 8 = .ok (.getfield 61, 3) := by decide +kernel
theorem dX10_tileRows_11 : decode cX10_tileRows 11 = .ok (.getfield 92, 3) := by decide +kernel
theorem dX10_tileRows_14 : decode cX10_tileRows 14 = .ok (.iconst 1, 1) := by decide +kernel
theorem dX10_tileRows_15 : decode cX10_tileRows 15 = .ok (.isub, 1) := by decide +kernel
theorem dX10_tileRows_16 : decode cX10_tileRows 16 = .ok (.invokevirtual 253, 3) := by decide +kernel
theorem dX10_tileRows_19 : decode cX10_tileRows 19 = .ok (.iconst 1, 1) := by decide +kernel
theorem dX10_tileRows_20 : decode cX10_tileRows 20 = .ok (.iadd, 1) := by decide +kernel
theorem dX10_tileRows_21 : decode cX10_tileRows 21 = .ok (.ireturn, 1) := by decide +kernel
theorem dX10_requestTile_0 : decode cX10_requestTile 0 = .ok (.aload_n 0, 1) := by decide +kernel
theorem dX10_requestTile_1 : decode cX10_requestTile 1 = .ok (.getfield 10, 3) := by decide +kernel
theorem dX10_requestTile_4 : decode cX10_requestTile 4 = .ok (.iload_n 1, 1) := by decide +kernel
theorem dX10_requestTile_5 : decode cX10_requestTile 5 = .ok (.invokevirtual 259, 3) := by decide +kernel
theorem dX10_requestTile_8 : decode cX10_requestTile 8 = .ok (.istore 4, 2) := by decide +kernel
theorem dX10_requestTile_10 : decode cX10_requestTile 10 = .ok (.aload_n 0, 1) := by decide +kernel
theorem dX10_requestTile_11 : decode cX10_requestTile 11 = .ok (.getfield 10, 3) := by decide +kernel
theorem dX10_requestTile_14 : decode cX10_requestTile 14 = .ok (.iload 4, 2) := by decide +kernel
theorem dX10_requestTile_16 : decode cX10_requestTile 16 = .ok (.invokevirtual 118, 3) := by decide +kernel
theorem dX10_requestTile_19 : decode cX10_requestTile 19 = .ok (.astore 5, 2) := by decide +kernel
theorem dX10_requestTile_21 : decode cX10_requestTile 21 = .ok (.aload 5, 2) := by decide +kernel
theorem dX10_requestTile_23 : decode cX10_requestTile 23 = .ok (.ifnonnull 4, 3) := by decide +kernel
theorem dX10_requestTile_26 : decode cX10_requestTile 26 = .ok (.return_, 1) := by decide +kernel
theorem dX10_requestTile_27 : decode cX10_requestTile 27 = .ok (.aload_n 0, 1) := by decide +kernel
theorem dX10_requestTile_28 : decode cX10_requestTile 28 = .ok (.getfield 40, 3) := by decide +kernel
theorem dX10_requestTile_31 : decode cX10_requestTile 31 = .ok (.iload 4, 2) := by decide +kernel
theorem dX10_requestTile_33 : decode cX10_requestTile 33 = .ok (.iload_n 2, 1) := by decide +kernel
theorem dX10_requestTile_34 : decode cX10_requestTile 34 = .ok (.iload_n 3, 1) := by decide +kernel
theorem dX10_requestTile_35 : decode cX10_requestTile 35 = .ok (.invokevirtual 272, 3) := by decide +kernel
theorem dX10_requestTile_38 : decode cX10_requestTile 38 = .ok (.ifCond .eq 15, 3) := by decide +kernel
theorem dX10_requestTile_41 : decode cX10_requestTile 41 = .ok (.aload_n 0, 1) := by decide +kernel
theorem dX10_requestTile_42 : decode cX10_requestTile 42 = .ok (.getfield 40, 3) := by decide +kernel
theorem dX10_requestTile_45 : decode cX10_requestTile 45 = .ok (.iload 4, 2) := by decide +kernel
theorem dX10_requestTile_47 : decode cX10_requestTile 47 = .ok (.iload_n 2, 1) := by decide +kernel
theorem dX10_requestTile_48 : decode cX10_requestTile 48 = .ok (.iload_n 3, 1) := by decide +kernel
theorem dX10_requestTile_49 : decode cX10_requestTile 49 = .ok (.invokevirtual 296, 3) := by decide +kernel
theorem dX10_requestTile_52 : decode cX10_requestTile 52 = .ok (.return_, 1) := by decide +kernel
theorem dX10_requestTile_53 : decode cX10_requestTile 53 = .ok (.aload_n 0, 1) := by decide +kernel
theorem dX10_requestTile_54 : decode cX10_requestTile 54 = .ok (.iload 4, 2) := by decide +kernel
theorem dX10_requestTile_56 : decode cX10_requestTile 56 = .ok (.iconst 1, 1) := by decide +kernel
theorem dX10_requestTile_57 : decode cX10_requestTile 57 = .ok (.isub, 1) := by decide +kernel
theorem dX10_requestTile_58 : decode cX10_requestTile 58 = .ok (.iload_n 2, 1) := by decide +kernel
theorem dX10_requestTile_59 : decode cX10_requestTile 59 = .ok (.iload_n 3, 1) := by decide +kernel
theorem dX10_requestTile_60 : decode cX10_requestTile 60 = .ok (.aload 5, 2) := by decide +kernel
theorem dX10_requestTile_62 : decode cX10_requestTile 62 = .ok (.invokevirtual 128, 3) := by decide +kernel
theorem dX10_requestTile_65 : decode cX10_requestTile 65 = .ok (.invokevirtual 299, 3) := by decide +kernel
theorem dX10_requestTile_68 : decode cX10_requestTile 68 = .ok (.aload_n 0, 1) := by decide +kernel
theorem dX10_requestTile_69 : decode cX10_requestTile 69 = .ok (.getfield 40, 3) := by decide +kernel
theorem dX10_requestTile_72 : decode cX10_requestTile 72 = .ok (.iload 4, 2) := by decide +kernel
theorem dX10_requestTile_74 : decode cX10_requestTile 74 = .ok (.invokevirtual 303, 3) := by decide +kernel
theorem dX10_requestTile_77 : decode cX10_requestTile 77 = .ok (.astore 6, 2) := by decide +kernel
theorem dX10_requestTile_79 : decode cX10_requestTile 79 = .ok (.aload 6, 2) := by decide +kernel
theorem dX10_requestTile_81 : decode cX10_requestTile 81 = .ok (.ifnonnull 4, 3) := by decide +kernel
theorem dX10_requestTile_84 : decode cX10_requestTile 84 = .ok (.return_, 1) := by decide +kernel
theorem dX10_requestTile_85 : decode cX10_requestTile 85 = .ok (.aload_n 0, 1) := by decide +kernel
theorem dX10_requestTile_86 : decode cX10_requestTile 86 = .ok (.getfield 40, 3) := by decide +kernel
theorem dX10_requestTile_89 : decode cX10_requestTile 89 = .ok (.getfield 98, 3) := by decide +kernel
theorem dX10_requestTile_92 : decode cX10_requestTile 92 = .ok (.istore 7, 2) := by decide +kernel
theorem dX10_requestTile_94 : decode cX10_requestTile 94 = .ok (.aload_n 0, 1) := by decide +kernel
theorem dX10_requestTile_95 : decode cX10_requestTile 95 = .ok (.aload_n 0, 1) := by decide +kernel
theorem dX10_requestTile_96 : decode cX10_requestTile 96 = .ok (.getfield 10, 3) := by decide +kernel
theorem dX10_requestTile_99 : decode cX10_requestTile 99 = .ok (.iload 4, 2) := by decide +kernel
theorem dX10_requestTile_101 : decode cX10_requestTile 101 = .ok (.iconst 1, 1) := by decide +kernel
theorem dX10_requestTile_102 : decode cX10_requestTile 102 = .ok (.isub, 1) := by decide +kernel
theorem dX10_requestTile_103 : decode cX10_requestTile 103 = .ok (.invokevirtual 259, 3) := by decide +kernel
theorem dX10_requestTile_106 : decode cX10_requestTile 106 = .ok (.invokevirtual 262, 3) := by decide +kernel
theorem dX10_requestTile_109 : decode cX10_requestTile 109 = .ok (.astore 8, 2) := by decide +kernel
theorem dX10_requestTile_111 : decode cX10_requestTile 111 = .ok (.aload_n 0, 1) := by decide +kernel
theorem dX10_requestTile_112 : decode cX10_requestTile 112 = .ok (.getfield 47, 3) := by decide +kernel
theorem dX10_requestTile_115 : decode cX10_requestTile 115 = .ok (.aload 5, 2) := by decide +kernel
theorem dX10_requestTile_117 : decode cX10_requestTile 117 = .ok (.aload 8, 2) := by decide +kernel
theorem dX10_requestTile_119 : decode cX10_requestTile 119 = .ok (.aload 6, 2) := by decide +kernel
theorem dX10_requestTile_121 : decode cX10_requestTile 121 = .ok (.iload_n 2, 1) := by decide +kernel
theorem dX10_requestTile_122 : decode cX10_requestTile 122 = .ok (.iload 7, 2) := by decide +kernel
theorem dX10_requestTile_124 : decode cX10_requestTile 124 = .ok (.imul, 1) := by decide +kernel
theorem dX10_requestTile_125 : decode cX10_requestTile 125 = .ok (.iload_n 3, 1) := by decide +kernel
theorem dX10_requestTile_126 : decode cX10_requestTile 126 = .ok (.iload 7, 2) := by decide +kernel
theorem dX10_requestTile_128 : decode cX10_requestTile 128 = .ok (.imul, 1) := by decide +kernel
theorem dX10_requestTile_129 : decode cX10_requestTile 129 = .ok (.iload 7, 2) := by decide +kernel
theorem dX10_requestTile_131 : decode cX10_requestTile 131 = .ok (.invokevirtual 306, 3) := by decide +kernel
theorem dX10_requestTile_134 : decode cX10_requestTile 134 = .ok (.aload_n 0, 1) := by decide +kernel
theorem dX10_requestTile_135 : decode cX10_requestTile 135 = .ok (.getfield 40, 3) := by decide +kernel
theorem dX10_requestTile_138 : decode cX10_requestTile 138 = .ok (.iload 4, 2) := by decide +kernel
theorem dX10_requestTile_140 : decode cX10_requestTile 140 = .ok (.iload_n 2, 1) := by decide +kernel
theorem dX10_requestTile_141 : decode cX10_requestTile 141 = .ok (.iload_n 3, 1) := by decide +kernel
theorem dX10_requestTile_142 : decode cX10_requestTile 142 = .ok (.invokevirtual 310, 3) := by decide +kernel
theorem dX10_requestTile_145 : decode cX10_requestTile 145 = .ok (.return_, 1) := by decide +kernel
theorem dX10_requestInput_0 : decode cX10_requestInput 0 = .ok (.iload_n 1, 1) := by decide +kernel
theorem dX10_requestInput_1 : decode cX10_requestInput 1 = .ok (.ifCond .ge 4, 3) := by decide +kernel
theorem dX10_requestInput_4 : decode cX10_requestInput 4 = .ok (.return_, 1) := by decide +kernel
theorem dX10_requestInput_5 : decode cX10_requestInput 5 = .ok (.aload_n 0, 1) := by decide +kernel
theorem dX10_requestInput_6 : decode cX10_requestInput 6 = .ok (.getfield 40, 3) := by decide +kernel
theorem dX10_requestInput_9 : decode cX10_requestInput 9 = .ok (.getfield 98, 3) := by decide +kernel
theorem dX10_requestInput_12 : decode cX10_requestInput 12 = .ok (.istore 5, 2) := by decide +kernel
theorem dX10_requestInput_14 : decode cX10_requestInput 14 = .ok (.aload_n 0, 1) := by decide +kernel
theorem dX10_requestInput_15 : decode cX10_requestInput 15 = .ok (.getfield 40, 3) := by decide +kernel
theorem dX10_requestInput_18 : decode cX10_requestInput 18 = .ok (.iload_n 2, 1) := by decide +kernel
theorem dX10_requestInput_19 : decode cX10_requestInput 19 = .ok (.iload 5, 2) := by decide +kernel
theorem dX10_requestInput_21 : decode cX10_requestInput 21 = .ok (.imul, 1) := by decide +kernel
theorem dX10_requestInput_22 : decode cX10_requestInput 22 = .ok (.iload 4, 2) := by decide +kernel
theorem dX10_requestInput_24 : decode cX10_requestInput 24 = .ok (.isub, 1) := by decide +kernel
theorem dX10_requestInput_25 : decode cX10_requestInput 25 = .ok (.iconst 0, 1) := by decide +kernel
theorem dX10_requestInput_26 : decode cX10_requestInput 26 = .ok (.invokestatic 131, 3) := by decide +kernel
theorem dX10_requestInput_29 : decode cX10_requestInput 29 = .ok (.invokevirtual 253, 3) := by decide +kernel
theorem dX10_requestInput_32 : decode cX10_requestInput 32 = .ok (.istore 6, 2) := by decide +kernel
theorem dX10_requestInput_34 : decode cX10_requestInput 34 = .ok (.aload_n 0, 1) := by decide +kernel
theorem dX10_requestInput_35 : decode cX10_requestInput 35 = .ok (.getfield 40, 3) := by decide +kernel
theorem dX10_requestInput_38 : decode cX10_requestInput 38 = .ok (.iload_n 2, 1) := by decide +kernel
theorem dX10_requestInput_39 : decode cX10_requestInput 39 = .ok (.iconst 1, 1) := by decide +kernel
theorem dX10_requestInput_40 : decode cX10_requestInput 40 = .ok (.iadd, 1) := by decide +kernel
theorem dX10_requestInput_41 : decode cX10_requestInput 41 = .ok (.iload 5, 2) := by decide +kernel
theorem dX10_requestInput_43 : decode cX10_requestInput 43 = .ok (.imul, 1) := by decide +kernel
theorem dX10_requestInput_44 : decode cX10_requestInput 44 = .ok (.iconst 1, 1) := by decide +kernel
theorem dX10_requestInput_45 : decode cX10_requestInput 45 = .ok (.isub, 1) := by decide +kernel
theorem dX10_requestInput_46 : decode cX10_requestInput 46 = .ok (.iload 4, 2) := by decide +kernel
theorem dX10_requestInput_48 : decode cX10_requestInput 48 = .ok (.iadd, 1) := by decide +kernel
theorem dX10_requestInput_49 : decode cX10_requestInput 49 = .ok (.aload_n 0, 1) := by decide +kernel
theorem dX10_requestInput_50 : decode cX10_requestInput 50 = .ok (.getfield 10, 3) := by decide +kernel
theorem dX10_requestInput_53 : decode cX10_requestInput 53 = .ok (.getfield 61, 3) := by decide +kernel
theorem dX10_requestInput_56 : decode cX10_requestInput 56 = .ok (.getfield 88, 3) := by decide +kernel
theorem dX10_requestInput_59 : decode cX10_requestInput 59 = .ok (.iconst 1, 1) := by decide +kernel
theorem dX10_requestInput_60 : decode cX10_requestInput 60 = .ok (.isub, 1) := by decide +kernel
theorem dX10_requestInput_61 : decode cX10_requestInput 61 = .ok (.invokestatic 137, 3) := by decide +kernel
theorem dX10_requestInput_64 : decode cX10_requestInput 64 = .ok (.invokevirtual 253, 3) := by decide +kernel
theorem dX10_requestInput_67 : decode cX10_requestInput 67 = .ok (.istore 7, 2) := by decide +kernel
theorem dX10_requestInput_69 : decode cX10_requestInput 69 = .ok (.aload_n 0, 1) := by decide +kernel
theorem dX10_requestInput_70 : decode cX10_requestInput 70 = .ok (.getfield 40, 3) := by decide +kernel
theorem dX10_requestInput_73 : decode cX10_requestInput 73 = .ok (.iload_n 3, 1) := by decide +kernel
theorem dX10_requestInput_74 : decode cX10_requestInput 74 = .ok (.iload 5, 2) := by decide +kernel
theorem dX10_requestInput_76 : decode cX10_requestInput 76 = .ok (.imul, 1) := by decide +kernel
theorem dX10_requestInput_77 : decode cX10_requestInput 77 = .ok (.iload 4, 2) := by decide +kernel
theorem dX10_requestInput_79 : decode cX10_requestInput 79 = .ok (.isub, 1) := by decide +kernel
theorem dX10_requestInput_80 : decode cX10_requestInput 80 = .ok (.iconst 0, 1) := by decide +kernel
theorem dX10_requestInput_81 : decode cX10_requestInput 81 = .ok (.invokestatic 131, 3) := by decide +kernel
theorem dX10_requestInput_84 : decode cX10_requestInput 84 = .ok (.invokevirtual 253, 3) := by decide +kernel
theorem dX10_requestInput_87 : decode cX10_requestInput 87 = .ok (.istore 8, 2) := by decide +kernel
theorem dX10_requestInput_89 : decode cX10_requestInput 89 = .ok (.aload_n 0, 1) := by decide +kernel
theorem dX10_requestInput_90 : decode cX10_requestInput 90 = .ok (.getfield 40, 3) := by decide +kernel
theorem dX10_requestInput_93 : decode cX10_requestInput 93 = .ok (.iload_n 3, 1) := by decide +kernel
theorem dX10_requestInput_94 : decode cX10_requestInput 94 = .ok (.iconst 1, 1) := by decide +kernel
theorem dX10_requestInput_95 : decode cX10_requestInput 95 = .ok (.iadd, 1) := by decide +kernel
theorem dX10_requestInput_96 : decode cX10_requestInput 96 = .ok (.iload 5, 2) := by decide +kernel
theorem dX10_requestInput_98 : decode cX10_requestInput 98 = .ok (.imul, 1) := by decide +kernel
theorem dX10_requestInput_99 : decode cX10_requestInput 99 = .ok (.iconst 1, 1) := by decide +kernel
theorem dX10_requestInput_100 : decode cX10_requestInput 100 = .ok (.isub, 1) := by decide +kernel
theorem dX10_requestInput_101 : decode cX10_requestInput 101 = .ok (.iload 4, 2) := by decide +kernel
theorem dX10_requestInput_103 : decode cX10_requestInput 103 = .ok (.iadd, 1) := by decide +kernel
theorem dX10_requestInput_104 : decode cX10_requestInput 104 = .ok (.aload_n 0, 1) := by decide +kernel
theorem dX10_requestInput_105 : decode cX10_requestInput 105 = .ok (.getfield 10, 3) := by decide +kernel
theorem dX10_requestInput_108 : decode cX10_requestInput 108 = .ok (.getfield 61, 3) := by decide +kernel
theorem dX10_requestInput_111 : decode cX10_requestInput 111 = .ok (.getfield 92, 3) := by decide +kernel
theorem dX10_requestInput_114 : decode cX10_requestInput 114 = .ok (.iconst 1, 1) := by decide +kernel
theorem dX10_requestInput_115 : decode cX10_requestInput 115 = .ok (.isub, 1) := by decide +kernel
theorem dX10_requestInput_116 : decode cX10_requestInput 116 = .ok (.invokestatic 137, 3) := by decide +kernel
theorem dX10_requestInput_119 : decode cX10_requestInput 119 = .ok (.invokevirtual 253, 3) := by decide +kernel
theorem dX10_requestInput_122 : decode cX10_requestInput 122 = .ok (.istore 9, 2) := by decide +kernel
theorem dX10_requestInput_124 : decode cX10_requestInput 124 = .ok (.iload 8, 2) := by decide +kernel
theorem dX10_requestInput_126 : decode cX10_requestInput 126 = .ok (.istore 10, 2) := by decide +kernel
theorem dX10_requestInput_128 : decode cX10_requestInput 128 = .ok (.iload 10, 2) := by decide +kernel
theorem dX10_requestInput_130 : decode cX10_requestInput 130 = .ok (.iload 9, 2) := by decide +kernel
theorem dX10_requestInput_132 : decode cX10_requestInput 132 = .ok (.if_icmp .gt 35, 3) := by decide +kernel
theorem dX10_requestInput_135 : decode cX10_requestInput 135 = .ok (.iload 6, 2) := by decide +kernel
theorem dX10_requestInput_137 : decode cX10_requestInput 137 = .ok (.istore 11, 2) := by decide +kernel
theorem dX10_requestInput_139 : decode cX10_requestInput 139 = .ok (.iload 11, 2) := by decide +kernel
theorem dX10_requestInput_141 : decode cX10_requestInput 141 = .ok (.iload 7, 2) := by decide +kernel
theorem dX10_requestInput_143 : decode cX10_requestInput 143 = .ok (.if_icmp .gt 18, 3) := by decide +kernel
theorem dX10_requestInput_146 : decode cX10_requestInput 146 = .ok (.aload_n 0, 1) := by decide +kernel
theorem dX10_requestInput_147 : decode cX10_requestInput 147 = .ok (.iload_n 1, 1) := by decide +kernel
theorem dX10_requestInput_148 : decode cX10_requestInput 148 = .ok (.iload 11, 2) := by decide +kernel
theorem dX10_requestInput_150 : decode cX10_requestInput 150 = .ok (.iload 10, 2) := by decide +kernel
theorem dX10_requestInput_152 : decode cX10_requestInput 152 = .ok (.invokevirtual 256, 3) := by decide +kernel
theorem dX10_requestInput_155 : decode cX10_requestInput 155 = .ok (.iinc 11 1, 3) := by decide +kernel
theorem dX10_requestInput_158 : decode cX10_requestInput 158 = .ok (.goto (-19), 3) := by decide +kernel
theorem dX10_requestInput_161 : decode cX10_requestInput 161 = .ok (.iinc 10 1, 3) := by decide +kernel
theorem dX10_requestInput_164 : decode cX10_requestInput 164 = .ok (.goto (-36), 3) := by decide +kernel
theorem dX10_requestInput_167 : decode cX10_requestInput 167 = .ok (.return_, 1) := by decide +kernel
theorem dX10_pictureOf_0 : decode cX10_pictureOf 0 = .ok (.aload_n 0, 1) := by decide +kernel
theorem dX10_pictureOf_1 : decode cX10_pictureOf 1 = .ok (.getfield 40, 3) := by decide +kernel
theorem dX10_pictureOf_4 : decode cX10_pictureOf 4 = .ok (.iload_n 1, 1) := by decide +kernel
theorem dX10_pictureOf_5 : decode cX10_pictureOf 5 = .ok (.invokevirtual 303, 3) := by decide +kernel
theorem dX10_pictureOf_8 : decode cX10_pictureOf 8 = .ok (.astore_n 2, 1) := by decide +kernel
theorem dX10_pictureOf_9 : decode cX10_pictureOf 9 = .ok (.aload_n 2, 1) := by decide +kernel
theorem dX10_pictureOf_10 : decode cX10_pictureOf 10 = .ok (.ifnonnull 13, 3) := by decide +kernel
theorem dX10_pictureOf_13 : decode cX10_pictureOf 13 = .ok (.aload_n 0, 1) := by decide +kernel
theorem dX10_pictureOf_14 : decode cX10_pictureOf 14 = .ok (.getfield 10, 3) := by decide +kernel
theorem dX10_pictureOf_17 : decode cX10_pictureOf 17 = .ok (.getfield 61, 3) := by decide +kernel
theorem dX10_pictureOf_20 : decode cX10_pictureOf 20 = .ok (.goto 4, 3) := by decide +kernel
theorem dX10_pictureOf_23 : decode cX10_pictureOf 23 = .ok (.aload_n 2, 1) := by decide +kernel
theorem dX10_pictureOf_24 : decode cX10_pictureOf 24 = .ok (.areturn, 1) := by decide +kernel
theorem dX10_histogram_0 : decode cX10_histogram 0 = .ok (.aload_n 0, 1) := by decide +kernel
theorem dX10_histogram_1 : decode cX10_histogram 1 = .ok (.iload_n 1, 1) := by decide +kernel
theorem dX10_histogram_2 : decode cX10_histogram 2 = .ok (.invokevirtual 249, 3) := by decide +kernel
theorem dX10_histogram_5 : decode cX10_histogram 5 = .ok (.ifCond .eq 25, 3) := by decide +kernel
theorem dX10_histogram_8 : decode cX10_histogram 8 = .ok (.iload_n 2, 1) := by decide +kernel
theorem dX10_histogram_9 : decode cX10_histogram 9 = .ok (.iconst 0, 1) := by decide +kernel
theorem dX10_histogram_10 : decode cX10_histogram 10 = .ok (.sipush 255, 3) := by decide +kernel
theorem dX10_histogram_13 : decode cX10_histogram 13 = .ok (.invokestatic 68, 3) := by decide +kernel
theorem dX10_histogram_16 : decode cX10_histogram 16 = .ok (.ifCond .eq 14, 3) := by decide +kernel
theorem dX10_histogram_19 : decode cX10_histogram 19 = .ok (.iload_n 3, 1) := by decide +kernel
theorem dX10_histogram_20 : decode cX10_histogram 20 = .ok (.iload_n 2, 1) := by decide +kernel
theorem dX10_histogram_21 : decode cX10_histogram 21 = .ok (.sipush 255, 3) := by decide +kernel
theorem dX10_histogram_24 : decode cX10_histogram 24 = .ok (.invokestatic 68, 3) := by decide +kernel
theorem dX10_histogram_27 : decode cX10_histogram 27 = .ok (.ifCond .ne 7, 3) := by decide +kernel
theorem dX10_histogram_30 : decode cX10_histogram 30 = .ok (.sipush (-1001), 3) := by decide +kernel
theorem dX10_histogram_33 : decode cX10_histogram 33 = .ok (.ireturn, 1) := by decide +kernel
theorem dX10_histogram_34 : decode cX10_histogram 34 = .ok (.aload_n 0, 1) := by decide +kernel
theorem dX10_histogram_35 : decode cX10_histogram 35 = .ok (.getfield 47, 3) := by decide +kernel
theorem dX10_histogram_38 : decode cX10_histogram 38 = .ok (.aload_n 0, 1) := by decide +kernel
theorem dX10_histogram_39 : decode cX10_histogram 39 = .ok (.getfield 10, 3) := by decide +kernel
theorem dX10_histogram_42 : decode cX10_histogram 42 = .ok (.iload_n 1, 1) := by decide +kernel
theorem dX10_histogram_43 : decode cX10_histogram 43 = .ok (.aload_n 0, 1) := by decide +kernel
theorem dX10_histogram_44 : decode cX10_histogram 44 = .ok (.getfield 54, 3) := by decide +kernel
theorem dX10_histogram_47 : decode cX10_histogram 47 = .ok (.invokevirtual 187, 3) := by decide +kernel
theorem dX10_histogram_50 : decode cX10_histogram 50 = .ok (.iconst 0, 1) := by decide +kernel
theorem dX10_histogram_51 : decode cX10_histogram 51 = .ok (.istore 4, 2) := by decide +kernel
theorem dX10_histogram_53 : decode cX10_histogram 53 = .ok (.iconst 0, 1) := by decide +kernel
theorem dX10_histogram_54 : decode cX10_histogram 54 = .ok (.istore 5, 2) := by decide +kernel
theorem dX10_histogram_56 : decode cX10_histogram 56 = .ok (.iload 5, 2) := by decide +kernel
theorem dX10_histogram_58 : decode cX10_histogram 58 = .ok (.aload_n 0, 1) := by decide +kernel
theorem dX10_histogram_59 : decode cX10_histogram 59 = .ok (.getfield 54, 3) := by decide +kernel
theorem dX10_histogram_62 : decode cX10_histogram 62 = .ok (.getfield 92, 3) := by decide +kernel
theorem dX10_histogram_65 : decode cX10_histogram 65 = .ok (.if_icmp .ge 52, 3) := by decide +kernel
theorem dX10_histogram_68 : decode cX10_histogram 68 = .ok (.iconst 0, 1) := by decide +kernel
theorem dX10_histogram_69 : decode cX10_histogram 69 = .ok (.istore 6, 2) := by decide +kernel
theorem dX10_histogram_71 : decode cX10_histogram 71 = .ok (.iload 6, 2) := by decide +kernel
theorem dX10_histogram_73 : decode cX10_histogram 73 = .ok (.aload_n 0, 1) := by decide +kernel
theorem dX10_histogram_74 : decode cX10_histogram 74 = .ok (.getfield 54, 3) := by decide +kernel
theorem dX10_histogram_77 : decode cX10_histogram 77 = .ok (.getfield 88, 3) := by decide +kernel
theorem dX10_histogram_80 : decode cX10_histogram 80 = .ok (.if_icmp .ge 31, 3) := by decide +kernel
theorem dX10_histogram_83 : decode cX10_histogram 83 = .ok (.aload_n 0, 1) := by decide +kernel
theorem dX10_histogram_84 : decode cX10_histogram 84 = .ok (.getfield 54, 3) := by decide +kernel
theorem dX10_histogram_87 : decode cX10_histogram 87 = .ok (.iload 6, 2) := by decide +kernel
theorem dX10_histogram_89 : decode cX10_histogram 89 = .ok (.iload 5, 2) := by decide +kernel
theorem dX10_histogram_91 : decode cX10_histogram 91 = .ok (.invokevirtual 229, 3) := by decide +kernel
theorem dX10_histogram_94 : decode cX10_histogram 94 = .ok (.iload_n 2, 1) := by decide +kernel
theorem dX10_histogram_95 : decode cX10_histogram 95 = .ok (.iload_n 3, 1) := by decide +kernel
theorem dX10_histogram_96 : decode cX10_histogram 96 = .ok (.invokestatic 68, 3) := by decide +kernel
theorem dX10_histogram_99 : decode cX10_histogram 99 = .ok (.ifCond .eq 6, 3) := by decide +kernel
theorem dX10_histogram_102 : decode cX10_histogram 102 = .ok (.iinc 4 1, 3) := by decide +kernel
theorem dX10_histogram_105 : decode cX10_histogram 105 = .ok (.iinc 6 1, 3) := by decide +kernel
theorem dX10_histogram_108 : decode cX10_histogram 108 = .ok (.goto (-37), 3) := by decide +kernel
theorem dX10_histogram_111 : decode cX10_histogram 111 = .ok (.iinc 5 1, 3) := by decide +kernel
theorem dX10_histogram_114 : decode cX10_histogram 114 = .ok (.goto (-58), 3) := by decide +kernel
theorem dX10_histogram_117 : decode cX10_histogram 117 = .ok (.iload 4, 2) := by decide +kernel
theorem dX10_histogram_119 : decode cX10_histogram 119 = .ok (.ireturn, 1) := by decide +kernel
theorem dX10_sum_0 : decode cX10_sum 0 = .ok (.aload_n 0, 1) := by decide +kernel
theorem dX10_sum_1 : decode cX10_sum 1 = .ok (.iload_n 1, 1) := by decide +kernel
theorem dX10_sum_2 : decode cX10_sum 2 = .ok (.invokevirtual 249, 3) := by decide +kernel
theorem dX10_sum_5 : decode cX10_sum 5 = .ok (.ifCond .ne 7, 3) := by decide +kernel
theorem dX10_sum_8 : decode cX10_sum 8 = .ok (.sipush (-1001), 3) := by decide +kernel
theorem dX10_sum_11 : decode cX10_sum 11 = .ok (.ireturn, 1) := by decide +kernel
theorem dX10_sum_12 : decode cX10_sum 12 = .ok (.aload_n 0, 1) := by decide +kernel
theorem dX10_sum_13 : decode cX10_sum 13 = .ok (.getfield 47, 3) := by decide +kernel
theorem dX10_sum_16 : decode cX10_sum 16 = .ok (.aload_n 0, 1) := by decide +kernel
theorem dX10_sum_17 : decode cX10_sum 17 = .ok (.getfield 10, 3) := by decide +kernel
theorem dX10_sum_20 : decode cX10_sum 20 = .ok (.iload_n 1, 1) := by decide +kernel
theorem dX10_sum_21 : decode cX10_sum 21 = .ok (.aload_n 0, 1) := by decide +kernel
theorem dX10_sum_22 : decode cX10_sum 22 = .ok (.getfield 54, 3) := by decide +kernel
theorem dX10_sum_25 : decode cX10_sum 25 = .ok (.invokevirtual 187, 3) := by decide +kernel
theorem dX10_sum_28 : decode cX10_sum 28 = .ok (.iconst 0, 1) := by decide +kernel
theorem dX10_sum_29 : decode cX10_sum 29 = .ok (.istore_n 2, 1) := by decide +kernel
theorem dX10_sum_30 : decode cX10_sum 30 = .ok (.iconst 0, 1) := by decide +kernel
theorem dX10_sum_31 : decode cX10_sum 31 = .ok (.istore_n 3, 1) := by decide +kernel
theorem dX10_sum_32 : decode cX10_sum 32 = .ok (.iload_n 3, 1) := by decide +kernel
theorem dX10_sum_33 : decode cX10_sum 33 = .ok (.aload_n 0, 1) := by decide +kernel
theorem dX10_sum_34 : decode cX10_sum 34 = .ok (.getfield 54, 3) := by decide +kernel
theorem dX10_sum_37 : decode cX10_sum 37 = .ok (.getfield 92, 3) := by decide +kernel
theorem dX10_sum_40 : decode cX10_sum 40 = .ok (.if_icmp .ge 43, 3) := by decide +kernel
theorem dX10_sum_43 : decode cX10_sum 43 = .ok (.iconst 0, 1) := by decide +kernel
theorem dX10_sum_44 : decode cX10_sum 44 = .ok (.istore 4, 2) := by decide +kernel
theorem dX10_sum_46 : decode cX10_sum 46 = .ok (.iload 4, 2) := by decide +kernel
theorem dX10_sum_48 : decode cX10_sum 48 = .ok (.aload_n 0, 1) := by decide +kernel
theorem dX10_sum_49 : decode cX10_sum 49 = .ok (.getfield 54, 3) := by decide +kernel
theorem dX10_sum_52 : decode cX10_sum 52 = .ok (.getfield 88, 3) := by decide +kernel
theorem dX10_sum_55 : decode cX10_sum 55 = .ok (.if_icmp .ge 22, 3) := by decide +kernel
theorem dX10_sum_58 : decode cX10_sum 58 = .ok (.iload_n 2, 1) := by decide +kernel
theorem dX10_sum_59 : decode cX10_sum 59 = .ok (.aload_n 0, 1) := by decide +kernel
theorem dX10_sum_60 : decode cX10_sum 60 = .ok (.getfield 54, 3) := by decide +kernel
theorem dX10_sum_63 : decode cX10_sum 63 = .ok (.iload 4, 2) := by decide +kernel
theorem dX10_sum_65 : decode cX10_sum 65 = .ok (.iload_n 3, 1) := by decide +kernel
theorem dX10_sum_66 : decode cX10_sum 66 = .ok (.invokevirtual 229, 3) := by decide +kernel
theorem dX10_sum_69 : decode cX10_sum 69 = .ok (.iadd, 1) := by decide +kernel
theorem dX10_sum_70 : decode cX10_sum 70 = .ok (.istore_n 2, 1) := by decide +kernel
theorem dX10_sum_71 : decode cX10_sum 71 = .ok (.iinc 4 1, 3) := by decide +kernel
theorem dX10_sum_74 : decode cX10_sum 74 = .ok (.goto (-28), 3) := by decide +kernel
theorem dX10_sum_77 : decode cX10_sum 77 = .ok (.iinc 3 1, 3) := by decide +kernel
theorem dX10_sum_80 : decode cX10_sum 80 = .ok (.goto (-48), 3) := by decide +kernel
theorem dX10_sum_83 : decode cX10_sum 83 = .ok (.iload_n 2, 1) := by decide +kernel
theorem dX10_sum_84 : decode cX10_sum 84 = .ok (.ireturn, 1) := by decide +kernel
theorem dX10_effect_0 : decode cX10_effect 0 = .ok (.aload_n 0, 1) := by decide +kernel
theorem dX10_effect_1 : decode cX10_effect 1 = .ok (.getfield 10, 3) := by decide +kernel
theorem dX10_effect_4 : decode cX10_effect 4 = .ok (.iload_n 1, 1) := by decide +kernel
theorem dX10_effect_5 : decode cX10_effect 5 = .ok (.invokevirtual 118, 3) := by decide +kernel
theorem dX10_effect_8 : decode cX10_effect 8 = .ok (.ifnonnull 7, 3) := by decide +kernel
theorem dX10_effect_11 : decode cX10_effect 11 = .ok (.sipush (-1001), 3) := by decide +kernel
theorem dX10_effect_14 : decode cX10_effect 14 = .ok (.ireturn, 1) := by decide +kernel
theorem dX10_effect_15 : decode cX10_effect 15 = .ok (.aload_n 0, 1) := by decide +kernel
theorem dX10_effect_16 : decode cX10_effect 16 = .ok (.getfield 47, 3) := by decide +kernel
theorem dX10_effect_19 : decode cX10_effect 19 = .ok (.aload_n 0, 1) := by decide +kernel
theorem dX10_effect_20 : decode cX10_effect 20 = .ok (.getfield 10, 3) := by decide +kernel
theorem dX10_effect_23 : decode cX10_effect 23 = .ok (.aload_n 0, 1) := by decide +kernel
theorem dX10_effect_24 : decode cX10_effect 24 = .ok (.getfield 10, 3) := by decide +kernel
theorem dX10_effect_27 : decode cX10_effect 27 = .ok (.invokevirtual 95, 3) := by decide +kernel
theorem dX10_effect_30 : decode cX10_effect 30 = .ok (.iconst 1, 1) := by decide +kernel
theorem dX10_effect_31 : decode cX10_effect 31 = .ok (.isub, 1) := by decide +kernel
theorem dX10_effect_32 : decode cX10_effect 32 = .ok (.aload_n 0, 1) := by decide +kernel
theorem dX10_effect_33 : decode cX10_effect 33 = .ok (.getfield 54, 3) := by decide +kernel
theorem dX10_effect_36 : decode cX10_effect 36 = .ok (.invokevirtual 187, 3) := by decide +kernel
theorem dX10_effect_39 : decode cX10_effect 39 = .ok (.aload_n 0, 1) := by decide +kernel
theorem dX10_effect_40 : decode cX10_effect 40 = .ok (.iload_n 1, 1) := by decide +kernel
theorem dX10_effect_41 : decode cX10_effect 41 = .ok (.invokevirtual 313, 3) := by decide +kernel
theorem dX10_effect_44 : decode cX10_effect 44 = .ok (.ireturn, 1) := by decide +kernel
theorem dX10_strongestLayer_0 : decode cX10_strongestLayer 0 = .ok (.aload_n 0, 1) := by decide +kernel
theorem dX10_strongestLayer_1 : decode cX10_strongestLayer 1 = .ok (.getfield 47, 3) := by decide +kernel
theorem dX10_strongestLayer_4 : decode cX10_strongestLayer 4 = .ok (.aload_n 0, 1) := by decide +kernel
theorem dX10_strongestLayer_5 : decode cX10_strongestLayer 5 = .ok (.getfield 10, 3) := by decide +kernel
theorem dX10_strongestLayer_8 : decode cX10_strongestLayer 8 = .ok (.aload_n 0, 1) := by decide +kernel
theorem dX10_strongestLayer_9 : decode cX10_strongestLayer 9 = .ok (.getfield 10, 3) := by decide +kernel
theorem dX10_strongestLayer_12 : decode cX10_strongestLayer 12 = .ok (.invokevirtual 95, 3) := by decide +kernel
theorem dX10_strongestLayer_15 : decode cX10_strongestLayer 15 = .ok (.iconst 1, 1) := by decide +kernel
theorem dX10_strongestLayer_16 : decode cX10_strongestLayer 16 = .ok (.isub, 1) := by decide +kernel
theorem dX10_strongestLayer_17 : decode cX10_strongestLayer 17 = .ok (.aload_n 0, 1) := by decide +kernel
theorem dX10_strongestLayer_18 : decode cX10_strongestLayer 18 = .ok (.getfield 54, 3) := by decide +kernel
theorem dX10_strongestLayer_21 : decode cX10_strongestLayer 21 = .ok (.invokevirtual 187, 3) := by decide +kernel
theorem dX10_strongestLayer_24 : decode cX10_strongestLayer 24 = .ok (.sipush (-1009), 3) := by decide +kernel
theorem dX10_strongestLayer_27 : decode cX10_strongestLayer 27 = .ok (.istore_n 1, 1) := by decide +kernel
theorem dX10_strongestLayer_28 : decode cX10_strongestLayer 28 = .ok (.iconst (-1), 1) := by decide +kernel
theorem dX10_strongestLayer_29 : decode cX10_strongestLayer 29 = .ok (.istore_n 2, 1) := by decide +kernel
theorem dX10_strongestLayer_30 : decode cX10_strongestLayer 30 = .ok (.iconst 0, 1) := by decide +kernel
theorem dX10_strongestLayer_31 : decode cX10_strongestLayer 31 = .ok (.istore_n 3, 1) := by decide +kernel
theorem dX10_strongestLayer_32 : decode cX10_strongestLayer 32 = .ok (.iload_n 3, 1) := by decide +kernel
theorem dX10_strongestLayer_33 : decode cX10_strongestLayer 33 = .ok (.aload_n 0, 1) := by decide +kernel
theorem dX10_strongestLayer_34 : decode cX10_strongestLayer 34 = .ok (.getfield 10, 3) := by decide +kernel
theorem dX10_strongestLayer_37 : decode cX10_strongestLayer 37 = .ok (.invokevirtual 95, 3) := by decide +kernel
theorem dX10_strongestLayer_40 : decode cX10_strongestLayer 40 = .ok (.if_icmp .ge 27, 3) := by decide +kernel
theorem dX10_strongestLayer_43 : decode cX10_strongestLayer 43 = .ok (.aload_n 0, 1) := by decide +kernel
theorem dX10_strongestLayer_44 : decode cX10_strongestLayer 44 = .ok (.iload_n 3, 1) := by decide +kernel
theorem dX10_strongestLayer_45 : decode cX10_strongestLayer 45 = .ok (.invokevirtual 313, 3) := by decide +kernel
theorem dX10_strongestLayer_48 : decode cX10_strongestLayer 48 = .ok (.istore 4, 2) := by decide +kernel
theorem dX10_strongestLayer_50 : decode cX10_strongestLayer 50 = .ok (.iload 4, 2) := by decide +kernel
theorem dX10_strongestLayer_52 : decode cX10_strongestLayer 52 = .ok (.iload_n 2, 1) := by decide +kernel
theorem dX10_strongestLayer_53 : decode cX10_strongestLayer 53 = .ok (.if_icmp .le 8, 3) := by decide +kernel
theorem dX10_strongestLayer_56 : decode cX10_strongestLayer 56 = .ok (.iload 4, 2) := by decide +kernel
theorem dX10_strongestLayer_58 : decode cX10_strongestLayer 58 = .ok (.istore_n 2, 1) := by decide +kernel
theorem dX10_strongestLayer_59 : decode cX10_strongestLayer 59 = .ok (.iload_n 3, 1) := by decide +kernel
theorem dX10_strongestLayer_60 : decode cX10_strongestLayer 60 = .ok (.istore_n 1, 1) := by decide +kernel
theorem dX10_strongestLayer_61 : decode cX10_strongestLayer 61 = .ok (.iinc 3 1, 3) := by decide +kernel
theorem dX10_strongestLayer_64 : decode cX10_strongestLayer 64 = .ok (.goto (-32), 3) := by decide +kernel
theorem dX10_strongestLayer_67 : decode cX10_strongestLayer 67 = .ok (.iload_n 1, 1) := by decide +kernel
theorem dX10_strongestLayer_68 : decode cX10_strongestLayer 68 = .ok (.ireturn, 1) := by decide +kernel
theorem dX10_exchangeDifference_0 : decode cX10_exchangeDifference 0 = .ok (.iload_n 1, 1) := by decide +kernel
theorem dX10_exchangeDifference_1 : decode cX10_exchangeDifference 1 = .ok (.iconst 0, 1) := by decide +kernel
theorem dX10_exchangeDifference_2 : decode cX10_exchangeDifference 2 = .ok (.aload_n 0, 1) := by decide +kernel
theorem dX10_exchangeDifference_3 : decode cX10_exchangeDifference 3 = .ok (.getfield 10, 3) := by decide +kernel
theorem dX10_exchangeDifference_6 : decode cX10_exchangeDifference 6 = .ok (.invokevirtual 95, 3) := by decide +kernel
theorem dX10_exchangeDifference_9 : decode cX10_exchangeDifference 9 = .ok (.iconst 2, 1) := by decide +kernel
theorem dX10_exchangeDifference_10 : decode cX10_exchangeDifference 10 = .ok (.isub, 1) := by decide +kernel
theorem dX10_exchangeDifference_11 : decode cX10_exchangeDifference 11 = .ok (.invokestatic 68, 3) := by decide +kernel
theorem dX10_exchangeDifference_14 : decode cX10_exchangeDifference 14 = .ok (.ifCond .ne 7, 3) := by decide +kernel
theorem dX10_exchangeDifference_17 : decode cX10_exchangeDifference 17 = .ok (.sipush (-1001), 3) := by decide +kernel
theorem dX10_exchangeDifference_20 : decode cX10_exchangeDifference 20 = .ok (.ireturn, 1) := by decide +kernel
theorem dX10_exchangeDifference_21 : decode cX10_exchangeDifference 21 = .ok (.aload_n 0, 1) := by decide +kernel
theorem dX10_exchangeDifference_22 : decode cX10_exchangeDifference 22 = .ok (.getfield 16, 3) := by decide +kernel
theorem dX10_exchangeDifference_25 : decode cX10_exchangeDifference 25 = .ok (.aload_n 0, 1) := by decide +kernel
theorem dX10_exchangeDifference_26 : decode cX10_exchangeDifference 26 = .ok (.getfield 10, 3) := by decide +kernel
theorem dX10_exchangeDifference_29 : decode cX10_exchangeDifference 29 = .ok (.invokevirtual 316, 3) := by decide +kernel
theorem dX10_exchangeDifference_32 : decode cX10_exchangeDifference 32 = .ok (.aload_n 0, 1) := by decide +kernel
theorem dX10_exchangeDifference_33 : decode cX10_exchangeDifference 33 = .ok (.getfield 16, 3) := by decide +kernel
theorem dX10_exchangeDifference_36 : decode cX10_exchangeDifference 36 = .ok (.iload_n 1, 1) := by decide +kernel
theorem dX10_exchangeDifference_37 : decode cX10_exchangeDifference 37 = .ok (.iload_n 1, 1) := by decide +kernel
theorem dX10_exchangeDifference_38 : decode cX10_exchangeDifference 38 = .ok (.iconst 1, 1) := by decide +kernel
theorem dX10_exchangeDifference_39 : decode cX10_exchangeDifference 39 = .ok (.iadd, 1) := by decide +kernel
theorem dX10_exchangeDifference_40 : decode cX10_exchangeDifference 40 = .ok (.invokevirtual 178, 3) := by decide +kernel
theorem dX10_exchangeDifference_43 : decode cX10_exchangeDifference 43 = .ok (.aload_n 0, 1) := by decide +kernel
theorem dX10_exchangeDifference_44 : decode cX10_exchangeDifference 44 = .ok (.aload_n 0, 1) := by decide +kernel
theorem dX10_exchangeDifference_45 : decode cX10_exchangeDifference 45 = .ok (.getfield 16, 3) := by decide +kernel
theorem dX10_exchangeDifference_48 : decode cX10_exchangeDifference 48 = .ok (.invokevirtual 318, 3) := by decide +kernel
theorem dX10_exchangeDifference_51 : decode cX10_exchangeDifference 51 = .ok (.ireturn, 1) := by decide +kernel
theorem dX10_snapshotDifference_0 : decode cX10_snapshotDifference 0 = .ok (.iload_n 1, 1) := by decide +kernel
theorem dX10_snapshotDifference_1 : decode cX10_snapshotDifference 1 = .ok (.ifCond .lt 12, 3) := by decide +kernel
theorem dX10_snapshotDifference_4 : decode cX10_snapshotDifference 4 = .ok (.iload_n 1, 1) := by decide +kernel
theorem dX10_snapshotDifference_5 : decode cX10_snapshotDifference 5 = .ok (.aload_n 0, 1) := by decide +kernel
theorem dX10_snapshotDifference_6 : decode cX10_snapshotDifference 6 = .ok (.getfield 26, 3) := by decide +kernel
theorem dX10_snapshotDifference_9 : decode cX10_snapshotDifference 9 = .ok (.arraylength, 1) := by decide +kernel
theorem dX10_snapshotDifference_10 : decode cX10_snapshotDifference 10 = .ok (.if_icmp .lt 7, 3) := by decide +kernel
theorem dX10_snapshotDifference_13 : decode cX10_snapshotDifference 13 = .ok (.sipush (-1001), 3) := by decide +kernel
theorem dX10_snapshotDifference_16 : decode cX10_snapshotDifference 16 = .ok (.ireturn, 1) := by decide +kernel
theorem dX10_snapshotDifference_17 : decode cX10_snapshotDifference 17 = .ok (.aload_n 0, 1) := by decide +kernel
theorem dX10_snapshotDifference_18 : decode cX10_snapshotDifference 18 = .ok (.getfield 26, 3) := by decide +kernel
theorem dX10_snapshotDifference_21 : decode cX10_snapshotDifference 21 = .ok (.iload_n 1, 1) := by decide +kernel
theorem dX10_snapshotDifference_22 : decode cX10_snapshotDifference 22 = .ok (.aaload, 1) := by decide +kernel
theorem dX10_snapshotDifference_23 : decode cX10_snapshotDifference 23 = .ok (.astore_n 2, 1) := by decide +kernel
theorem dX10_snapshotDifference_24 : decode cX10_snapshotDifference 24 = .ok (.aload_n 2, 1) := by decide +kernel
theorem dX10_snapshotDifference_25 : decode cX10_snapshotDifference 25 = .ok (.ifnull 20, 3) := by decide +kernel
theorem dX10_snapshotDifference_28 : decode cX10_snapshotDifference 28 = .ok (.aload_n 2, 1) := by decide +kernel
theorem dX10_snapshotDifference_29 : decode cX10_snapshotDifference 29 = .ok (.getfield 61, 3) := by decide +kernel
theorem dX10_snapshotDifference_32 : decode cX10_snapshotDifference 32 = .ok (.aload_n 0, 1) := by decide +kernel
theorem dX10_snapshotDifference_33 : decode cX10_snapshotDifference 33 = .ok (.getfield 10, 3) := by decide +kernel
theorem dX10_snapshotDifference_36 : decode cX10_snapshotDifference 36 = .ok (.getfield 61, 3) := by decide +kernel
theorem dX10_snapshotDifference_39 : decode cX10_snapshotDifference 39 = .ok (.invokevirtual 321, 3) := by decide +kernel
theorem dX10_snapshotDifference_42 : decode cX10_snapshotDifference 42 = .ok (.ifCond .ne 7, 3) := by decide +kernel
theorem dX10_snapshotDifference_45 : decode cX10_snapshotDifference 45 = .ok (.sipush (-1002), 3) := by decide +kernel
theorem dX10_snapshotDifference_48 : decode cX10_snapshotDifference 48 = .ok (.ireturn, 1) := by decide +kernel
theorem dX10_snapshotDifference_49 : decode cX10_snapshotDifference 49 = .ok (.aload_n 0, 1) := by decide +kernel
theorem dX10_snapshotDifference_50 : decode cX10_snapshotDifference 50 = .ok (.aload_n 2, 1) := by decide +kernel
theorem dX10_snapshotDifference_51 : decode cX10_snapshotDifference 51 = .ok (.invokevirtual 318, 3) := by decide +kernel
theorem dX10_snapshotDifference_54 : decode cX10_snapshotDifference 54 = .ok (.ireturn, 1) := by decide +kernel
theorem dX10_hasOutput_0 : decode cX10_hasOutput 0 = .ok (.iload_n 1, 1) := by decide +kernel
theorem dX10_hasOutput_1 : decode cX10_hasOutput 1 = .ok (.iconst (-1), 1) := by decide +kernel
theorem dX10_hasOutput_2 : decode cX10_hasOutput 2 = .ok (.if_icmp .lt 18, 3) := by decide +kernel
theorem dX10_hasOutput_5 : decode cX10_hasOutput 5 = .ok (.iload_n 1, 1) := by decide +kernel
theorem dX10_hasOutput_6 : decode cX10_hasOutput 6 = .ok (.aload_n 0, 1) := by decide +kernel
theorem dX10_hasOutput_7 : decode cX10_hasOutput 7 = .ok (.getfield 10, 3) := by decide +kernel
theorem dX10_hasOutput_10 : decode cX10_hasOutput 10 = .ok (.invokevirtual 95, 3) := by decide +kernel
theorem dX10_hasOutput_13 : decode cX10_hasOutput 13 = .ok (.if_icmp .ge 7, 3) := by decide +kernel
theorem dX10_hasOutput_16 : decode cX10_hasOutput 16 = .ok (.iconst 1, 1) := by decide +kernel
theorem dX10_hasOutput_17 : decode cX10_hasOutput 17 = .ok (.goto 4, 3) := by decide +kernel
theorem dX10_hasOutput_20 : decode cX10_hasOutput 20 = .ok (.iconst 0, 1) := by decide +kernel
theorem dX10_hasOutput_21 : decode cX10_hasOutput 21 = .ok (.ireturn, 1) := by decide +kernel
theorem dX10_changeWithout_0 : decode cX10_changeWithout 0 = .ok (.aload_n 0, 1) := by decide +kernel
theorem dX10_changeWithout_1 : decode cX10_changeWithout 1 = .ok (.getfield 16, 3) := by decide +kernel
theorem dX10_changeWithout_4 : decode cX10_changeWithout 4 = .ok (.aload_n 0, 1) := by decide +kernel
theorem dX10_changeWithout_5 : decode cX10_changeWithout 5 = .ok (.getfield 10, 3) := by decide +kernel
theorem dX10_changeWithout_8 : decode cX10_changeWithout 8 = .ok (.invokevirtual 316, 3) := by decide +kernel
theorem dX10_changeWithout_11 : decode cX10_changeWithout 11 = .ok (.aload_n 0, 1) := by decide +kernel
theorem dX10_changeWithout_12 : decode cX10_changeWithout 12 = .ok (.getfield 16, 3) := by decide +kernel
theorem dX10_changeWithout_15 : decode cX10_changeWithout 15 = .ok (.iload_n 1, 1) := by decide +kernel
theorem dX10_changeWithout_16 : decode cX10_changeWithout 16 = .ok (.invokevirtual 118, 3) := by decide +kernel
theorem dX10_changeWithout_19 : decode cX10_changeWithout 19 = .ok (.astore_n 2, 1) := by decide +kernel
theorem dX10_changeWithout_20 : decode cX10_changeWithout 20 = .ok (.aload_n 2, 1) := by decide +kernel
theorem dX10_changeWithout_21 : decode cX10_changeWithout 21 = .ok (.ifnonnull 5, 3) := by decide +kernel
theorem dX10_changeWithout_24 : decode cX10_changeWithout 24 = .ok (.iconst 0, 1) := by decide +kernel
theorem dX10_changeWithout_25 : decode cX10_changeWithout 25 = .ok (.ireturn, 1) := by decide +kernel
theorem dX10_changeWithout_26 : decode cX10_changeWithout 26 = .ok (.aload_n 2, 1) := by decide +kernel
theorem dX10_changeWithout_27 : decode cX10_changeWithout 27 = .ok (.iconst 0, 1) := by decide +kernel
theorem dX10_changeWithout_28 : decode cX10_changeWithout 28 = .ok (.putfield 122, 3) := by decide +kernel
theorem dX10_changeWithout_31 : decode cX10_changeWithout 31 = .ok (.aload_n 0, 1) := by decide +kernel
theorem dX10_changeWithout_32 : decode cX10_changeWithout 32 = .ok (.getfield 47, 3) := by decide +kernel
theorem dX10_changeWithout_35 : decode cX10_changeWithout 35 = .ok (.aload_n 0, 1) := by decide +kernel
theorem dX10_changeWithout_36 : decode cX10_changeWithout 36 = .ok (.getfield 16, 3) := by decide +kernel
theorem dX10_changeWithout_39 : decode cX10_changeWithout 39 = .ok (.aload_n 0, 1) := by decide +kernel
theorem dX10_changeWithout_40 : decode cX10_changeWithout 40 = .ok (.getfield 16, 3) := by decide +kernel
theorem dX10_changeWithout_43 : decode cX10_changeWithout 43 = .ok (.invokevirtual 95, 3) := by decide +kernel
theorem dX10_changeWithout_46 : decode cX10_changeWithout 46 = .ok (.iconst 1, 1) := by decide +kernel
theorem dX10_changeWithout_47 : decode cX10_changeWithout 47 = .ok (.isub, 1) := by decide +kernel
theorem dX10_changeWithout_48 : decode cX10_changeWithout 48 = .ok (.aload_n 0, 1) := by decide +kernel
theorem dX10_changeWithout_49 : decode cX10_changeWithout 49 = .ok (.getfield 58, 3) := by decide +kernel
theorem dX10_changeWithout_52 : decode cX10_changeWithout 52 = .ok (.invokevirtual 187, 3) := by decide +kernel
theorem dX10_changeWithout_55 : decode cX10_changeWithout 55 = .ok (.aload_n 0, 1) := by decide +kernel
theorem dX10_changeWithout_56 : decode cX10_changeWithout 56 = .ok (.getfield 54, 3) := by decide +kernel
theorem dX10_changeWithout_59 : decode cX10_changeWithout 59 = .ok (.aload_n 0, 1) := by decide +kernel
theorem dX10_changeWithout_60 : decode cX10_changeWithout 60 = .ok (.getfield 58, 3) := by decide +kernel
theorem dX10_changeWithout_63 : decode cX10_changeWithout 63 = .ok (.invokevirtual 325, 3) := by decide +kernel
theorem dX10_changeWithout_66 : decode cX10_changeWithout 66 = .ok (.ireturn, 1) := by decide +kernel
theorem dX10_pixelsThatDiffer_0 : decode cX10_pixelsThatDiffer 0 = .ok (.aload_n 0, 1) := by decide +kernel
theorem dX10_pixelsThatDiffer_1 : decode cX10_pixelsThatDiffer 1 = .ok (.getfield 47, 3) := by decide +kernel
theorem dX10_pixelsThatDiffer_4 : decode cX10_pixelsThatDiffer 4 = .ok (.aload_n 0, 1) := by decide +kernel
theorem dX10_pixelsThatDiffer_5 : decode cX10_pixelsThatDiffer 5 = .ok (.getfield 10, 3) := by decide +kernel
theorem dX10_pixelsThatDiffer_8 : decode cX10_pixelsThatDiffer 8 = .ok (.aload_n 0, 1) := by decide +kernel
theorem dX10_pixelsThatDiffer_9 : decode cX10_pixelsThatDiffer 9 = .ok (.getfield 10, 3) := by decide +kernel
theorem dX10_pixelsThatDiffer_12 : decode cX10_pixelsThatDiffer 12 = .ok (.invokevirtual 95, 3) := by decide +kernel
theorem dX10_pixelsThatDiffer_15 : decode cX10_pixelsThatDiffer 15 = .ok (.iconst 1, 1) := by decide +kernel
theorem dX10_pixelsThatDiffer_16 : decode cX10_pixelsThatDiffer 16 = .ok (.isub, 1) := by decide +kernel
theorem dX10_pixelsThatDiffer_17 : decode cX10_pixelsThatDiffer 17 = .ok (.aload_n 0, 1) := by decide +kernel
theorem dX10_pixelsThatDiffer_18 : decode cX10_pixelsThatDiffer 18 = .ok (.getfield 54, 3) := by decide +kernel
theorem dX10_pixelsThatDiffer_21 : decode cX10_pixelsThatDiffer 21 = .ok (.invokevirtual 187, 3) := by decide +kernel
theorem dX10_pixelsThatDiffer_24 : decode cX10_pixelsThatDiffer 24 = .ok (.aload_n 0, 1) := by decide +kernel
theorem dX10_pixelsThatDiffer_25 : decode cX10_pixelsThatDiffer 25 = .ok (.getfield 47, 3) := by decide +kernel
theorem dX10_pixelsThatDiffer_28 : decode cX10_pixelsThatDiffer 28 = .ok (.aload_n 1, 1) := by decide +kernel
theorem dX10_pixelsThatDiffer_29 : decode cX10_pixelsThatDiffer 29 = .ok (.aload_n 1, 1) := by decide +kernel
theorem dX10_pixelsThatDiffer_30 : decode cX10_pixelsThatDiffer 30 = .ok (.invokevirtual 95, 3) := by decide +kernel
theorem dX10_pixelsThatDiffer_33 : decode cX10_pixelsThatDiffer 33 = .ok (.iconst 1, 1) := by decide +kernel
theorem dX10_pixelsThatDiffer_34 : decode cX10_pixelsThatDiffer 34 = .ok (.isub, 1) := by decide +kernel
theorem dX10_pixelsThatDiffer_35 : decode cX10_pixelsThatDiffer 35 = .ok (.aload_n 0, 1) := by decide +kernel
theorem dX10_pixelsThatDiffer_36 : decode cX10_pixelsThatDiffer 36 = .ok (.getfield 58, 3) := by decide +kernel
theorem dX10_pixelsThatDiffer_39 : decode cX10_pixelsThatDiffer 39 = .ok (.invokevirtual 187, 3) := by decide +kernel
theorem dX10_pixelsThatDiffer_42 : decode cX10_pixelsThatDiffer 42 = .ok (.aload_n 0, 1) := by decide +kernel
theorem dX10_pixelsThatDiffer_43 : decode cX10_pixelsThatDiffer 43 = .ok (.getfield 54, 3) := by decide +kernel
theorem dX10_pixelsThatDiffer_46 : decode cX10_pixelsThatDiffer 46 = .ok (.aload_n 0, 1) := by decide +kernel
theorem dX10_pixelsThatDiffer_47 : decode cX10_pixelsThatDiffer 47 = .ok (.getfield 58, 3) := by decide +kernel
theorem dX10_pixelsThatDiffer_50 : decode cX10_pixelsThatDiffer 50 = .ok (.invokevirtual 329, 3) := by decide +kernel
theorem dX10_pixelsThatDiffer_53 : decode cX10_pixelsThatDiffer 53 = .ok (.ireturn, 1) := by decide +kernel
theorem dX10_undo_0 : decode cX10_undo 0 = .ok (.aload_n 0, 1) := by decide +kernel
theorem dX10_undo_1 : decode cX10_undo 1 = .ok (.getfield 22, 3) := by decide +kernel
theorem dX10_undo_4 : decode cX10_undo 4 = .ok (.getfield 332, 3) := by decide +kernel
theorem dX10_undo_7 : decode cX10_undo 7 = .ok (.ifCond .ne 7, 3) := by decide +kernel
theorem dX10_undo_10 : decode cX10_undo 10 = .ok (.sipush (-1002), 3) := by decide +kernel
theorem dX10_undo_13 : decode cX10_undo 13 = .ok (.ireturn, 1) := by decide +kernel
theorem dX10_undo_14 : decode cX10_undo 14 = .ok (.aload_n 0, 1) := by decide +kernel
theorem dX10_undo_15 : decode cX10_undo 15 = .ok (.getfield 22, 3) := by decide +kernel
theorem dX10_undo_18 : decode cX10_undo 18 = .ok (.aload_n 0, 1) := by decide +kernel
theorem dX10_undo_19 : decode cX10_undo 19 = .ok (.getfield 10, 3) := by decide +kernel
theorem dX10_undo_22 : decode cX10_undo 22 = .ok (.invokevirtual 335, 3) := by decide +kernel
theorem dX10_undo_25 : decode cX10_undo 25 = .ok (.aload_n 0, 1) := by decide +kernel
theorem dX10_undo_26 : decode cX10_undo 26 = .ok (.getfield 40, 3) := by decide +kernel
theorem dX10_undo_29 : decode cX10_undo 29 = .ok (.invokevirtual 76, 3) := by decide +kernel
theorem dX10_undo_32 : decode cX10_undo 32 = .ok (.pop, 1) := by decide +kernel
theorem dX10_undo_33 : decode cX10_undo 33 = .ok (.aload_n 0, 1) := by decide +kernel
theorem dX10_undo_34 : decode cX10_undo 34 = .ok (.getfield 22, 3) := by decide +kernel
theorem dX10_undo_37 : decode cX10_undo 37 = .ok (.getfield 332, 3) := by decide +kernel
theorem dX10_undo_40 : decode cX10_undo 40 = .ok (.ireturn, 1) := by decide +kernel
theorem dX10_save_0 : decode cX10_save 0 = .ok (.iload_n 1, 1) := by decide +kernel
theorem dX10_save_1 : decode cX10_save 1 = .ok (.ifCond .lt 12, 3) := by decide +kernel
theorem dX10_save_4 : decode cX10_save 4 = .ok (.iload_n 1, 1) := by decide +kernel
theorem dX10_save_5 : decode cX10_save 5 = .ok (.aload_n 0, 1) := by decide +kernel
theorem dX10_save_6 : decode cX10_save 6 = .ok (.getfield 26, 3) := by decide +kernel
theorem dX10_save_9 : decode cX10_save 9 = .ok (.arraylength, 1) := by decide +kernel
theorem dX10_save_10 : decode cX10_save 10 = .ok (.if_icmp .lt 7, 3) := by decide +kernel
theorem dX10_save_13 : decode cX10_save 13 = .ok (.sipush (-1001), 3) := by decide +kernel
theorem dX10_save_16 : decode cX10_save 16 = .ok (.ireturn, 1) := by decide +kernel
theorem dX10_save_17 : decode cX10_save 17 = .ok (.aload_n 0, 1) := by decide +kernel
theorem dX10_save_18 : decode cX10_save 18 = .ok (.getfield 26, 3) := by decide +kernel
theorem dX10_save_21 : decode cX10_save 21 = .ok (.iload_n 1, 1) := by decide +kernel
theorem dX10_save_22 : decode cX10_save 22 = .ok (.aaload, 1) := by decide +kernel
theorem dX10_save_23 : decode cX10_save 23 = .ok (.astore_n 2, 1) := by decide +kernel
theorem dX10_save_24 : decode cX10_save 24 = .ok (.aload_n 2, 1) := by decide +kernel
theorem dX10_save_25 : decode cX10_save 25 = .ok (.ifnonnull 18, 3) := by decide +kernel
theorem dX10_save_28 : decode cX10_save 28 = .ok (.new 7, 3) := by decide +kernel
theorem dX10_save_31 : decode cX10_save 31 = .ok (.dup, 1) := by decide +kernel
theorem dX10_save_32 : decode cX10_save 32 = .ok (.invokespecial 9, 3) := by decide +kernel
theorem dX10_save_35 : decode cX10_save 35 = .ok (.astore_n 2, 1) := by decide +kernel
theorem dX10_save_36 : decode cX10_save 36 = .ok (.aload_n 0, 1) := by decide +kernel
theorem dX10_save_37 : decode cX10_save 37 = .ok (.getfield 26, 3) := by decide +kernel
theorem dX10_save_40 : decode cX10_save 40 = .ok (.iload_n 1, 1) := by decide +kernel
theorem dX10_save_41 : decode cX10_save 41 = .ok (.aload_n 2, 1) := by decide +kernel
theorem dX10_save_42 : decode cX10_save 42 = .ok (.aastore, 1) := by decide +kernel
theorem dX10_save_43 : decode cX10_save 43 = .ok (.aload_n 2, 1) := by decide +kernel
theorem dX10_save_44 : decode cX10_save 44 = .ok (.aload_n 0, 1) := by decide +kernel
theorem dX10_save_45 : decode cX10_save 45 = .ok (.getfield 10, 3) := by decide +kernel
theorem dX10_save_48 : decode cX10_save 48 = .ok (.invokevirtual 316, 3) := by decide +kernel
theorem dX10_save_51 : decode cX10_save 51 = .ok (.aload_n 0, 1) := by decide +kernel
theorem dX10_save_52 : decode cX10_save 52 = .ok (.getfield 10, 3) := by decide +kernel
theorem dX10_save_55 : decode cX10_save 55 = .ok (.invokevirtual 95, 3) := by decide +kernel
theorem dX10_save_58 : decode cX10_save 58 = .ok (.ireturn, 1) := by decide +kernel
theorem dX10_restore_0 : decode cX10_restore 0 = .ok (.iload_n 1, 1) := by decide +kernel
theorem dX10_restore_1 : decode cX10_restore 1 = .ok (.ifCond .lt 12, 3) := by decide +kernel
theorem dX10_restore_4 : decode cX10_restore 4 = .ok (.iload_n 1, 1) := by decide +kernel
theorem dX10_restore_5 : decode cX10_restore 5 = .ok (.aload_n 0, 1) := by decide +kernel
theorem dX10_restore_6 : decode cX10_restore 6 = .ok (.getfield 26, 3) := by decide +kernel
theorem dX10_restore_9 : decode cX10_restore 9 = .ok (.arraylength, 1) := by decide +kernel
theorem dX10_restore_10 : decode cX10_restore 10 = .ok (.if_icmp .lt 7, 3) := by decide +kernel
theorem dX10_restore_13 : decode cX10_restore 13 = .ok (.sipush (-1001), 3) := by decide +kernel
theorem dX10_restore_16 : decode cX10_restore 16 = .ok (.ireturn, 1) := by decide +kernel
theorem dX10_restore_17 : decode cX10_restore 17 = .ok (.aload_n 0, 1) := by decide +kernel
theorem dX10_restore_18 : decode cX10_restore 18 = .ok (.getfield 26, 3) := by decide +kernel
theorem dX10_restore_21 : decode cX10_restore 21 = .ok (.iload_n 1, 1) := by decide +kernel
theorem dX10_restore_22 : decode cX10_restore 22 = .ok (.aaload, 1) := by decide +kernel
theorem dX10_restore_23 : decode cX10_restore 23 = .ok (.astore_n 2, 1) := by decide +kernel
theorem dX10_restore_24 : decode cX10_restore 24 = .ok (.aload_n 2, 1) := by decide +kernel
theorem dX10_restore_25 : decode cX10_restore 25 = .ok (.ifnonnull 7, 3) := by decide +kernel
theorem dX10_restore_28 : decode cX10_restore 28 = .ok (.sipush (-1002), 3) := by decide +kernel
theorem dX10_restore_31 : decode cX10_restore 31 = .ok (.ireturn, 1) := by decide +kernel
theorem dX10_restore_32 : decode cX10_restore 32 = .ok (.aload_n 0, 1) := by decide +kernel
theorem dX10_restore_33 : decode cX10_restore 33 = .ok (.getfield 10, 3) := by decide +kernel
theorem dX10_restore_36 : decode cX10_restore 36 = .ok (.aload_n 2, 1) := by decide +kernel
theorem dX10_restore_37 : decode cX10_restore 37 = .ok (.invokevirtual 316, 3) := by decide +kernel
theorem dX10_restore_40 : decode cX10_restore 40 = .ok (.aload_n 0, 1) := by decide +kernel
theorem dX10_restore_41 : decode cX10_restore 41 = .ok (.getfield 22, 3) := by decide +kernel
theorem dX10_restore_44 : decode cX10_restore 44 = .ok (.iconst 0, 1) := by decide +kernel
theorem dX10_restore_45 : decode cX10_restore 45 = .ok (.putfield 332, 3) := by decide +kernel
theorem dX10_restore_48 : decode cX10_restore 48 = .ok (.aload_n 0, 1) := by decide +kernel
theorem dX10_restore_49 : decode cX10_restore 49 = .ok (.getfield 40, 3) := by decide +kernel
theorem dX10_restore_52 : decode cX10_restore 52 = .ok (.invokevirtual 76, 3) := by decide +kernel
theorem dX10_restore_55 : decode cX10_restore 55 = .ok (.pop, 1) := by decide +kernel
theorem dX10_restore_56 : decode cX10_restore 56 = .ok (.aload_n 0, 1) := by decide +kernel
theorem dX10_restore_57 : decode cX10_restore 57 = .ok (.getfield 10, 3) := by decide +kernel
theorem dX10_restore_60 : decode cX10_restore 60 = .ok (.invokevirtual 95, 3) := by decide +kernel
theorem dX10_restore_63 : decode cX10_restore 63 = .ok (.ireturn, 1) := by decide +kernel
theorem dX10_within_0 : decode cX10_within 0 = .ok (.iload_n 0, 1) := by decide +kernel
theorem dX10_within_1 : decode cX10_within 1 = .ok (.iload_n 1, 1) := by decide +kernel
theorem dX10_within_2 : decode cX10_within 2 = .ok (.if_icmp .lt 12, 3) := by decide +kernel
theorem dX10_within_5 : decode cX10_within 5 = .ok (.iload_n 0, 1) := by decide +kernel
theorem dX10_within_6 : decode cX10_within 6 = .ok (.iload_n 2, 1) := by decide +kernel
theorem dX10_within_7 : decode cX10_within 7 = .ok (.if_icmp .gt 7, 3) := by decide +kernel
theorem dX10_within_10 : decode cX10_within 10 = .ok (.iconst 1, 1) := by decide +kernel
theorem dX10_within_11 : decode cX10_within 11 = .ok (.goto 4, 3) := by decide +kernel
theorem dX10_within_14 : decode cX10_within 14 = .ok (.iconst 0, 1) := by decide +kernel
theorem dX10_within_15 : decode cX10_within 15 = .ok (.ireturn, 1) := by decide +kernel
theorem dX10_clamped_0 : decode cX10_clamped 0 = .ok (.iconst 0, 1) := by decide +kernel
theorem dX10_clamped_1 : decode cX10_clamped 1 = .ok (.iload_n 0, 1) := by decide +kernel
theorem dX10_clamped_2 : decode cX10_clamped 2 = .ok (.sipush 255, 3) := by decide +kernel
theorem dX10_clamped_5 : decode cX10_clamped 5 = .ok (.invokestatic 137, 3) := by decide +kernel
theorem dX10_clamped_8 : decode cX10_clamped 8 = .ok (.invokestatic 131, 3) := by decide +kernel
theorem dX10_clamped_11 : decode cX10_clamped 11 = .ok (.ireturn, 1) := by decide +kernel
theorem dX10_divided_0 : decode cX10_divided 0 = .ok (.iload_n 1, 1) := by decide +kernel
theorem dX10_divided_1 : decode cX10_divided 1 = .ok (.ifCond .le 11, 3) := by decide +kernel
theorem dX10_divided_4 : decode cX10_divided 4 = .ok (.iload_n 0, 1) := by decide +kernel
theorem dX10_divided_5 : decode cX10_divided 5 = .ok (.iload_n 1, 1) := by decide +kernel
theorem dX10_divided_6 : decode cX10_divided 6 = .ok (.invokestatic 338, 3) := by decide +kernel
theorem dX10_divided_9 : decode cX10_divided 9 = .ok (.goto 4, 3) := by decide +kernel
theorem dX10_divided_12 : decode cX10_divided 12 = .ok (.iconst 0, 1) := by decide +kernel
theorem dX10_divided_13 : decode cX10_divided 13 = .ok (.ireturn, 1) := by decide +kernel
theorem dX11_init_0 : decode cX11_init 0 = .ok (.aload_n 0, 1) := by decide +kernel
theorem dX11_init_1 : decode cX11_init 1 = .ok (.invokespecial 1, 3) := by decide +kernel
theorem dX11_init_4 : decode cX11_init 4 = .ok (.aload_n 0, 1) := by decide +kernel
theorem dX11_init_5 : decode cX11_init 5 = .ok (.sipush 515, 3) := by decide +kernel
theorem dX11_init_8 : decode cX11_init 8 = .ok (.newarray .int, 2) := by decide +kernel
theorem dX11_init_10 : decode cX11_init 10 = .ok (.putfield 7, 3) := by decide +kernel
theorem dX11_init_13 : decode cX11_init 13 = .ok (.aload_n 0, 1) := by decide +kernel
theorem dX11_init_14 : decode cX11_init 14 = .ok (.sipush 3090, 3) := by decide +kernel
theorem dX11_init_17 : decode cX11_init 17 = .ok (.newarray .int, 2) := by decide +kernel
theorem dX11_init_19 : decode cX11_init 19 = .ok (.putfield 13, 3) := by decide +kernel
theorem dX11_init_22 : decode cX11_init 22 = .ok (.aload_n 0, 1) := by decide +kernel
theorem dX11_init_23 : decode cX11_init 23 = .ok (.sipush 1030, 3) := by decide +kernel
theorem dX11_init_26 : decode cX11_init 26 = .ok (.newarray .int, 2) := by decide +kernel
theorem dX11_init_28 : decode cX11_init 28 = .ok (.putfield 16, 3) := by decide +kernel
theorem dX11_init_31 : decode cX11_init 31 = .ok (.aload_n 0, 1) := by decide +kernel
theorem dX11_init_32 : decode cX11_init 32 = .ok (.iconst 2, 1) := by decide +kernel
theorem dX11_init_33 : decode cX11_init 33 = .ok (.newarray .boolean, 2) := by decide +kernel
theorem dX11_init_35 : decode cX11_init 35 = .ok (.putfield 19, 3) := by decide +kernel
theorem dX11_init_38 : decode cX11_init 38 = .ok (.aload_n 0, 1) := by decide +kernel
theorem dX11_init_39 : decode cX11_init 39 = .ok (.sipush 160, 3) := by decide +kernel
theorem dX11_init_42 : decode cX11_init 42 = .ok (.newarray .int, 2) := by decide +kernel
theorem dX11_init_44 : decode cX11_init 44 = .ok (.putfield 23, 3) := by decide +kernel
theorem dX11_init_47 : decode cX11_init 47 = .ok (.aload_n 0, 1) := by decide +kernel
theorem dX11_init_48 : decode cX11_init 48 = .ok (.iconst 4, 1) := by decide +kernel
theorem dX11_init_49 : decode cX11_init 49 = .ok (.putfield 26, 3) := by decide +kernel
theorem dX11_init_52 : decode cX11_init 52 = .ok (.aload_n 0, 1) := by decide +kernel
theorem dX11_init_53 : decode cX11_init 53 = .ok (.bipush 16, 2) := by decide +kernel
theorem dX11_init_55 : decode cX11_init 55 = .ok (.putfield 30, 3) := by decide +kernel
theorem dX11_init_58 : decode cX11_init 58 = .ok (.aload_n 0, 1) := by decide +kernel
theorem dX11_init_59 : decode cX11_init 59 = .ok (.sipush 512, 3) := by decide +kernel
theorem dX11_init_62 : decode cX11_init 62 = .ok (.newarray .int, 2) := by decide +kernel
theorem dX11_init_64 : decode cX11_init 64 = .ok (.putfield 33, 3) := by decide +kernel
theorem dX11_init_67 : decode cX11_init 67 = .ok (.aload_n 0, 1) := by decide +kernel
theorem dX11_init_68 : decode cX11_init 68 = .ok (.iconst 3, 1) := by decide +kernel
theorem dX11_init_69 : decode cX11_init 69 = .ok (.newarray .int, 2) := by decide +kernel
theorem dX11_init_71 : decode cX11_init 71 = .ok (.putfield 36, 3) := by decide +kernel
theorem dX11_init_74 : decode cX11_init 74 = .ok (.aload_n 0, 1) := by decide +kernel
theorem dX11_init_75 : decode cX11_init 75 = .ok (.bipush 9, 2) := by decide +kernel
theorem dX11_init_77 : decode cX11_init 77 = .ok (.newarray .int, 2) := by decide +kernel
theorem dX11_init_79 : decode cX11_init 79 = .ok (.putfield 39, 3) := by decide +kernel
theorem dX11_init_82 : decode cX11_init 82 = .ok (.aload_n 0, 1) := by decide +kernel
theorem dX11_init_83 : decode cX11_init 83 = .ok (.bipush 9, 2) := by decide +kernel
theorem dX11_init_85 : decode cX11_init 85 = .ok (.newarray .int, 2) := by decide +kernel
theorem dX11_init_87 : decode cX11_init 87 = .ok (.putfield 42, 3) := by decide +kernel
theorem dX11_init_90 : decode cX11_init 90 = .ok (.aload_n 0, 1) := by decide +kernel
theorem dX11_init_91 : decode cX11_init 91 = .ok (.bipush 9, 2) := by decide +kernel
theorem dX11_init_93 : decode cX11_init 93 = .ok (.newarray .int, 2) := by decide +kernel
theorem dX11_init_95 : decode cX11_init 95 = .ok (.putfield 45, 3) := by decide +kernel
theorem dX11_init_98 : decode cX11_init 98 = .ok (.aload_n 0, 1) := by decide +kernel
theorem dX11_init_99 : decode cX11_init 99 = .ok (.bipush 9, 2) := by decide +kernel
theorem dX11_init_101 : decode cX11_init 101 = .ok (.newarray .int, 2) := by decide +kernel
theorem dX11_init_103 : decode cX11_init 103 = .ok (.putfield 48, 3) := by decide +kernel
theorem dX11_init_106 : decode cX11_init 106 = .ok (.aload_n 0, 1) := by decide +kernel
theorem dX11_init_107 : decode cX11_init 107 = .ok (.bipush 9, 2) := by decide +kernel
theorem dX11_init_109 : decode cX11_init 109 = .ok (.newarray .int, 2) := by decide +kernel
theorem dX11_init_111 : decode cX11_init 111 = .ok (.putfield 51, 3) := by decide +kernel
theorem dX11_init_114 : decode cX11_init 114 = .ok (.aload_n 0, 1) := by decide +kernel
theorem dX11_init_115 : decode cX11_init 115 = .ok (.bipush 9, 2) := by decide +kernel
theorem dX11_init_117 : decode cX11_init 117 = .ok (.newarray .int, 2) := by decide +kernel
theorem dX11_init_119 : decode cX11_init 119 = .ok (.putfield 54, 3) := by decide +kernel
theorem dX11_init_122 : decode cX11_init 122 = .ok (.aload_n 0, 1) := by decide +kernel
theorem dX11_init_123 : decode cX11_init 123 = .ok (.bipush 9, 2) := by decide +kernel
theorem dX11_init_125 : decode cX11_init 125 = .ok (.newarray .int, 2) := by decide +kernel
theorem dX11_init_127 : decode cX11_init 127 = .ok (.putfield 57, 3) := by decide +kernel
theorem dX11_init_130 : decode cX11_init 130 = .ok (.aload_n 0, 1) := by decide +kernel
theorem dX11_init_131 : decode cX11_init 131 = .ok (.bipush 9, 2) := by decide +kernel
theorem dX11_init_133 : decode cX11_init 133 = .ok (.newarray .int, 2) := by decide +kernel
theorem dX11_init_135 : decode cX11_init 135 = .ok (.putfield 60, 3) := by decide +kernel
theorem dX11_init_138 : decode cX11_init 138 = .ok (.aload_n 0, 1) := by decide +kernel
theorem dX11_init_139 : decode cX11_init 139 = .ok (.bipush 9, 2) := by decide +kernel
theorem dX11_init_141 : decode cX11_init 141 = .ok (.newarray .boolean, 2) := by decide +kernel
theorem dX11_init_143 : decode cX11_init 143 = .ok (.putfield 63, 3) := by decide +kernel
theorem dX11_init_146 : decode cX11_init 146 = .ok (.aload_n 0, 1) := by decide +kernel
theorem dX11_init_147 : decode cX11_init 147 = .ok (.sipush 2304, 3) := by decide +kernel
theorem dX11_init_150 : decode cX11_init 150 = .ok (.newarray .int, 2) := by decide +kernel
theorem dX11_init_152 : decode cX11_init 152 = .ok (.putfield 66, 3) := by decide +kernel
theorem dX11_init_155 : decode cX11_init 155 = .ok (.aload_n 0, 1) := by decide +kernel
theorem dX11_init_156 : decode cX11_init 156 = .ok (.bipush 49, 2) := by decide +kernel
theorem dX11_init_158 : decode cX11_init 158 = .ok (.newarray .int, 2) := by decide +kernel
theorem dX11_init_160 : decode cX11_init 160 = .ok (.putfield 69, 3) := by decide +kernel
theorem dX11_init_163 : decode cX11_init 163 = .ok (.aload_n 0, 1) := by decide +kernel
theorem dX11_init_164 : decode cX11_init 164 = .ok (.sipush 256, 3) := by decide +kernel
theorem dX11_init_167 : decode cX11_init 167 = .ok (.newarray .int, 2) := by decide +kernel
theorem dX11_init_169 : decode cX11_init 169 = .ok (.putfield 72, 3) := by decide +kernel
theorem dX11_init_172 : decode cX11_init 172 = .ok (.aload_n 0, 1) := by decide +kernel
theorem dX11_init_173 : decode cX11_init 173 = .ok (.sipush 256, 3) := by decide +kernel
theorem dX11_init_176 : decode cX11_init 176 = .ok (.newarray .int, 2) := by decide +kernel
theorem dX11_init_178 : decode cX11_init 178 = .ok (.putfield 75, 3) := by decide +kernel
theorem dX11_init_181 : decode cX11_init 181 = .ok (.aload_n 0, 1) := by decide +kernel
theorem dX11_init_182 : decode cX11_init 182 = .ok (.sipush 515, 3) := by decide +kernel
theorem dX11_init_185 : decode cX11_init 185 = .ok (.newarray .int, 2) := by decide +kernel
theorem dX11_init_187 : decode cX11_init 187 = .ok (.putfield 78, 3) := by decide +kernel
theorem dX11_init_190 : decode cX11_init 190 = .ok (.aload_n 0, 1) := by decide +kernel
theorem dX11_init_191 : decode cX11_init 191 = .ok (.iconst 0, 1) := by decide +kernel
theorem dX11_init_192 : decode cX11_init 192 = .ok (.putfield 81, 3) := by decide +kernel
theorem dX11_init_195 : decode cX11_init 195 = .ok (.aload_n 0, 1) := by decide +kernel
theorem dX11_init_196 : decode cX11_init 196 = .ok (.bipush 8, 2) := by decide +kernel
theorem dX11_init_198 : decode cX11_init 198 = .ok (.bipush 8, 2) := by decide +kernel
theorem dX11_init_200 : decode cX11_init 200 = .ok (.invokevirtual 84, 3) := by decide +kernel
theorem dX11_init_203 : decode cX11_init 203 = .ok (.return_, 1) := by decide +kernel
theorem dX11_in_0 : decode cX11_in 0 = .ok (.iload_n 0, 1) := by decide +kernel
theorem dX11_in_1 : decode cX11_in 1 = .ok (.iload_n 1, 1) := by decide +kernel
theorem dX11_in_2 : decode cX11_in 2 = .ok (.if_icmp .lt 12, 3) := by decide +kernel
theorem dX11_in_5 : decode cX11_in 5 = .ok (.iload_n 0, 1) := by decide +kernel
theorem dX11_in_6 : decode cX11_in 6 = .ok (.iload_n 2, 1) := by decide +kernel
theorem dX11_in_7 : decode cX11_in 7 = .ok (.if_icmp .gt 7, 3) := by decide +kernel
theorem dX11_in_10 : decode cX11_in 10 = .ok (.iconst 1, 1) := by decide +kernel
theorem dX11_in_11 : decode cX11_in 11 = .ok (.goto 4, 3) := by decide +kernel
theorem dX11_in_14 : decode cX11_in 14 = .ok (.iconst 0, 1) := by decide +kernel
theorem dX11_in_15 : decode cX11_in 15 = .ok (.ireturn, 1) := by decide +kernel
theorem dX11_floor_0 : decode cX11_floor 0 = .ok (.iload_n 0, 1) := by decide +kernel
theorem dX11_floor_1 : decode cX11_floor 1 = .ok (.ifCond .lt 9, 3) := by decide +kernel
theorem dX11_floor_4 : decode cX11_floor 4 = .ok (.iload_n 0, 1) := by decide +kernel
theorem dX11_floor_5 : decode cX11_floor 5 = .ok (.iload_n 1, 1) := by decide +kernel
theorem dX11_floor_6 : decode cX11_floor 6 = .ok (.idiv, 1) := by decide +kernel
theorem dX11_floor_7 : decode cX11_floor 7 = .ok (.goto 11, 3) := by decide +kernel
theorem dX11_floor_10 : decode cX11_floor 10 = .ok (.iload_n 1, 1) := by decide +kernel
theorem dX11_floor_11 : decode cX11_floor 11 = .ok (.iconst 1, 1) := by decide +kernel
theorem dX11_floor_12 : decode cX11_floor 12 = .ok (.isub, 1) := by decide +kernel
theorem dX11_floor_13 : decode cX11_floor 13 = .ok (.iload_n 0, 1) := by decide +kernel
theorem dX11_floor_14 : decode cX11_floor 14 = .ok (.isub, 1) := by decide +kernel
theorem dX11_floor_15 : decode cX11_floor 15 = .ok (.iload_n 1, 1) := by decide +kernel
theorem dX11_floor_16 : decode cX11_floor 16 = .ok (.idiv, 1) := by decide +kernel
theorem dX11_floor_17 : decode cX11_floor 17 = .ok (.ineg, 1) := by decide +kernel
theorem dX11_floor_18 : decode cX11_floor 18 = .ok (.ireturn, 1) := by decide +kernel
theorem dX11_clamp_0 : decode cX11_clamp 0 = .ok (.iload_n 0, 1) := by decide +kernel
theorem dX11_clamp_1 : decode cX11_clamp 1 = .ok (.ifCond .ge 7, 3) := by decide +kernel
theorem dX11_clamp_4 : decode cX11_clamp 4 = .ok (.iconst 0, 1) := by decide +kernel
theorem dX11_clamp_5 : decode cX11_clamp 5 = .ok (.goto 17, 3) := by decide +kernel
theorem dX11_clamp_8 : decode cX11_clamp 8 = .ok (.iload_n 0, 1) := by decide +kernel
theorem dX11_clamp_9 : decode cX11_clamp 9 = .ok (.sipush 255, 3) := by decide +kernel
theorem dX11_clamp_12 : decode cX11_clamp 12 = .ok (.if_icmp .le 9, 3) := by decide +kernel
theorem dX11_clamp_15 : decode cX11_clamp 15 = .ok (.sipush 255, 3) := by decide +kernel
theorem dX11_clamp_18 : decode cX11_clamp 18 = .ok (.goto 4, 3) := by decide +kernel
theorem dX11_clamp_21 : decode cX11_clamp 21 = .ok (.iload_n 0, 1) := by decide +kernel
theorem dX11_clamp_22 : decode cX11_clamp 22 = .ok (.ireturn, 1) := by decide +kernel
theorem dX11_abs_0 : decode cX11_abs 0 = .ok (.iload_n 0, 1) := by decide +kernel
theorem dX11_abs_1 : decode cX11_abs 1 = .ok (.ifCond .ge 8, 3) := by decide +kernel
theorem dX11_abs_4 : decode cX11_abs 4 = .ok (.iload_n 0, 1) := by decide +kernel
theorem dX11_abs_5 : decode cX11_abs 5 = .ok (.ineg, 1) := by decide +kernel
theorem dX11_abs_6 : decode cX11_abs 6 = .ok (.goto 4, 3) := by decide +kernel
theorem dX11_abs_9 : decode cX11_abs 9 = .ok (.iload_n 0, 1) := by decide +kernel
theorem dX11_abs_10 : decode cX11_abs 10 = .ok (.ireturn, 1) := by decide +kernel
theorem dX11_makeImage_0 : decode cX11_makeImage 0 = .ok (.aload_n 0, 1) := by decide +kernel
theorem dX11_makeImage_1 : decode cX11_makeImage 1 = .ok (.getfield 7, 3) := by decide +kernel
theorem dX11_makeImage_4 : decode cX11_makeImage 4 = .ok (.iconst 0, 1) := by decide +kernel
theorem dX11_makeImage_5 : decode cX11_makeImage 5 = .ok (.iload_n 1, 1) := by decide +kernel
theorem dX11_makeImage_6 : decode cX11_makeImage 6 = .ok (.iastore, 1) := by decide +kernel
theorem dX11_makeImage_7 : decode cX11_makeImage 7 = .ok (.aload_n 0, 1) := by decide +kernel
theorem dX11_makeImage_8 : decode cX11_makeImage 8 = .ok (.getfield 7, 3) := by decide +kernel
theorem dX11_makeImage_11 : decode cX11_makeImage 11 = .ok (.iconst 1, 1) := by decide +kernel
theorem dX11_makeImage_12 : decode cX11_makeImage 12 = .ok (.iload_n 2, 1) := by decide +kernel
theorem dX11_makeImage_13 : decode cX11_makeImage 13 = .ok (.iastore, 1) := by decide +kernel
theorem dX11_makeImage_14 : decode cX11_makeImage 14 = .ok (.iconst 0, 1) := by decide +kernel
theorem dX11_makeImage_15 : decode cX11_makeImage 15 = .ok (.istore_n 3, 1) := by decide +kernel
theorem dX11_makeImage_16 : decode cX11_makeImage 16 = .ok (.iload_n 3, 1) := by decide +kernel
theorem dX11_makeImage_17 : decode cX11_makeImage 17 = .ok (.sipush 256, 3) := by decide +kernel
theorem dX11_makeImage_20 : decode cX11_makeImage 20 = .ok (.if_icmp .ge 51, 3) := by decide +kernel
theorem dX11_makeImage_23 : decode cX11_makeImage 23 = .ok (.aload_n 0, 1) := by decide +kernel
theorem dX11_makeImage_24 : decode cX11_makeImage 24 = .ok (.getfield 7, 3) := by decide +kernel
theorem dX11_makeImage_27 : decode cX11_makeImage 27 = .ok (.iconst 2, 1) := by decide +kernel
theorem dX11_makeImage_28 : decode cX11_makeImage 28 = .ok (.iload_n 3, 1) := by decide +kernel
theorem dX11_makeImage_29 : decode cX11_makeImage 29 = .ok (.iadd, 1) := by decide +kernel
theorem dX11_makeImage_30 : decode cX11_makeImage 30 = .ok (.iload_n 3, 1) := by decide +kernel
theorem dX11_makeImage_31 : decode cX11_makeImage 31 = .ok (.iconst 0, 1) := by decide +kernel
theorem dX11_makeImage_32 : decode cX11_makeImage 32 = .ok (.iload_n 1, 1) := by decide +kernel
theorem dX11_makeImage_33 : decode cX11_makeImage 33 = .ok (.iload_n 2, 1) := by decide +kernel
theorem dX11_makeImage_34 : decode cX11_makeImage 34 = .ok (.imul, 1) := by decide +kernel
theorem dX11_makeImage_35 : decode cX11_makeImage 35 = .ok (.iconst 1, 1) := by decide +kernel
theorem dX11_makeImage_36 : decode cX11_makeImage 36 = .ok (.isub, 1) := by decide +kernel
theorem dX11_makeImage_37 : decode cX11_makeImage 37 = .ok (.invokestatic 88, 3) := by decide +kernel
theorem dX11_makeImage_40 : decode cX11_makeImage 40 = .ok (.ifCond .eq 23, 3) := by decide +kernel
theorem dX11_makeImage_43 : decode cX11_makeImage 43 = .ok (.bipush 17, 2) := by decide +kernel
theorem dX11_makeImage_45 : decode cX11_makeImage 45 = .ok (.iload_n 3, 1) := by decide +kernel
theorem dX11_makeImage_46 : decode cX11_makeImage 46 = .ok (.iload_n 1, 1) := by decide +kernel
theorem dX11_makeImage_47 : decode cX11_makeImage 47 = .ok (.irem, 1) := by decide +kernel
theorem dX11_makeImage_48 : decode cX11_makeImage 48 = .ok (.imul, 1) := by decide +kernel
theorem dX11_makeImage_49 : decode cX11_makeImage 49 = .ok (.bipush 29, 2) := by decide +kernel
theorem dX11_makeImage_51 : decode cX11_makeImage 51 = .ok (.iload_n 3, 1) := by decide +kernel
theorem dX11_makeImage_52 : decode cX11_makeImage 52 = .ok (.iload_n 1, 1) := by decide +kernel
theorem dX11_makeImage_53 : decode cX11_makeImage 53 = .ok (.idiv, 1) := by decide +kernel
theorem dX11_makeImage_54 : decode cX11_makeImage 54 = .ok (.imul, 1) := by decide +kernel
theorem dX11_makeImage_55 : decode cX11_makeImage 55 = .ok (.iadd, 1) := by decide +kernel
theorem dX11_makeImage_56 : decode cX11_makeImage 56 = .ok (.sipush 256, 3) := by decide +kernel
theorem dX11_makeImage_59 : decode cX11_makeImage 59 = .ok (.irem, 1) := by decide +kernel
theorem dX11_makeImage_60 : decode cX11_makeImage 60 = .ok (.goto 4, 3) := by decide +kernel
theorem dX11_makeImage_63 : decode cX11_makeImage 63 = .ok (.iconst 0, 1) := by decide +kernel
theorem dX11_makeImage_64 : decode cX11_makeImage 64 = .ok (.iastore, 1) := by decide +kernel
theorem dX11_makeImage_65 : decode cX11_makeImage 65 = .ok (.iinc 3 1, 3) := by decide +kernel
theorem dX11_makeImage_68 : decode cX11_makeImage 68 = .ok (.goto (-52), 3) := by decide +kernel
theorem dX11_makeImage_71 : decode cX11_makeImage 71 = .ok (.return_, 1) := by decide +kernel
theorem dX11_keep_0 : decode cX11_keep 0 = .ok (.aload_n 0, 1) := by decide +kernel
theorem dX11_keep_1 : decode cX11_keep 1 = .ok (.getfield 92, 3) := by decide +kernel
theorem dX11_keep_4 : decode cX11_keep 4 = .ok (.bipush 6, 2) := by decide +kernel
theorem dX11_keep_6 : decode cX11_keep 6 = .ok (.if_icmp .ne 44, 3) := by decide +kernel
theorem dX11_keep_9 : decode cX11_keep 9 = .ok (.iconst 0, 1) := by decide +kernel
theorem dX11_keep_10 : decode cX11_keep 10 = .ok (.istore_n 1, 1) := by decide +kernel
theorem dX11_keep_11 : decode cX11_keep 11 = .ok (.iload_n 1, 1) := by decide +kernel
theorem dX11_keep_12 : decode cX11_keep 12 = .ok (.sipush 2575, 3) := by decide +kernel
theorem dX11_keep_15 : decode cX11_keep 15 = .ok (.if_icmp .ge 25, 3) := by decide +kernel
theorem dX11_keep_18 : decode cX11_keep 18 = .ok (.aload_n 0, 1) := by decide +kernel
theorem dX11_keep_19 : decode cX11_keep 19 = .ok (.getfield 13, 3) := by decide +kernel
theorem dX11_keep_22 : decode cX11_keep 22 = .ok (.iload_n 1, 1) := by decide +kernel
theorem dX11_keep_23 : decode cX11_keep 23 = .ok (.aload_n 0, 1) := by decide +kernel
theorem dX11_keep_24 : decode cX11_keep 24 = .ok (.getfield 13, 3) := by decide +kernel
theorem dX11_keep_27 : decode cX11_keep 27 = .ok (.sipush 515, 3) := by decide +kernel
theorem dX11_keep_30 : decode cX11_keep 30 = .ok (.iload_n 1, 1) := by decide +kernel
theorem dX11_keep_31 : decode cX11_keep 31 = .ok (.iadd, 1) := by decide +kernel
theorem dX11_keep_32 : decode cX11_keep 32 = .ok (.iaload, 1) := by decide +kernel
theorem dX11_keep_33 : decode cX11_keep 33 = .ok (.iastore, 1) := by decide +kernel
theorem dX11_keep_34 : decode cX11_keep 34 = .ok (.iinc 1 1, 3) := by decide +kernel
theorem dX11_keep_37 : decode cX11_keep 37 = .ok (.goto (-26), 3) := by decide +kernel
theorem dX11_keep_40 : decode cX11_keep 40 = .ok (.aload_n 0, 1) := by decide +kernel
theorem dX11_keep_41 : decode cX11_keep 41 = .ok (.dup, 1) := by decide +kernel
theorem dX11_keep_42 : decode cX11_keep 42 = .ok (.getfield 92, 3) := by decide +kernel
theorem dX11_keep_45 : decode cX11_keep 45 = .ok (.iconst 1, 1) := by decide +kernel
theorem dX11_keep_46 : decode cX11_keep 46 = .ok (.isub, 1) := by decide +kernel
theorem dX11_keep_47 : decode cX11_keep 47 = .ok (.putfield 92, 3) := by decide +kernel
theorem dX11_keep_50 : decode cX11_keep 50 = .ok (.iconst 0, 1) := by decide +kernel
theorem dX11_keep_51 : decode cX11_keep 51 = .ok (.istore_n 1, 1) := by decide +kernel
theorem dX11_keep_52 : decode cX11_keep 52 = .ok (.iload_n 1, 1) := by decide +kernel
theorem dX11_keep_53 : decode cX11_keep 53 = .ok (.sipush 515, 3) := by decide +kernel
theorem dX11_keep_56 : decode cX11_keep 56 = .ok (.if_icmp .ge 30, 3) := by decide +kernel
theorem dX11_keep_59 : decode cX11_keep 59 = .ok (.aload_n 0, 1) := by decide +kernel
theorem dX11_keep_60 : decode cX11_keep 60 = .ok (.getfield 13, 3) := by decide +kernel
theorem dX11_keep_63 : decode cX11_keep 63 = .ok (.sipush 515, 3) := by decide +kernel
theorem dX11_keep_66 : decode cX11_keep 66 = .ok (.aload_n 0, 1) := by decide +kernel
theorem dX11_keep_67 : decode cX11_keep 67 = .ok (.getfield 92, 3) := by decide +kernel
theorem dX11_keep_70 : decode cX11_keep 70 = .ok (.imul, 1) := by decide +kernel
theorem dX11_keep_71 : decode cX11_keep 71 = .ok (.iload_n 1, 1) := by decide +kernel
theorem dX11_keep_72 : decode cX11_keep 72 = .ok (.iadd, 1) := by decide +kernel
theorem dX11_keep_73 : decode cX11_keep 73 = .ok (.aload_n 0, 1) := by decide +kernel
theorem dX11_keep_74 : decode cX11_keep 74 = .ok (.getfield 7, 3) := by decide +kernel
theorem dX11_keep_77 : decode cX11_keep 77 = .ok (.iload_n 1, 1) := by decide +kernel
theorem dX11_keep_78 : decode cX11_keep 78 = .ok (.iaload, 1) := by decide +kernel
theorem dX11_keep_79 : decode cX11_keep 79 = .ok (.iastore, 1) := by decide +kernel
theorem dX11_keep_80 : decode cX11_keep 80 = .ok (.iinc 1 1, 3) := by decide +kernel
theorem dX11_keep_83 : decode cX11_keep 83 = .ok (.goto (-31), 3) := by decide +kernel
theorem dX11_keep_86 : decode cX11_keep 86 = .ok (.aload_n 0, 1) := by decide +kernel
theorem dX11_keep_87 : decode cX11_keep 87 = .ok (.dup, 1) := by decide +kernel
theorem dX11_keep_88 : decode cX11_keep 88 = .ok (.getfield 92, 3) := by decide +kernel
theorem dX11_keep_91 : decode cX11_keep 91 = .ok (.iconst 1, 1) := by decide +kernel
theorem dX11_keep_92 : decode cX11_keep 92 = .ok (.iadd, 1) := by decide +kernel
theorem dX11_keep_93 : decode cX11_keep 93 = .ok (.putfield 92, 3) := by decide +kernel
theorem dX11_keep_96 : decode cX11_keep 96 = .ok (.return_, 1) := by decide +kernel
theorem dX11_at_0 : decode cX11_at 0 = .ok (.sipush 259, 3) := by decide +kernel
theorem dX11_at_3 : decode cX11_at 3 = .ok (.bipush 32, 2) := by decide +kernel
theorem dX11_at_5 : decode cX11_at 5 = .ok (.iload_n 0, 1) := by decide +kernel
theorem dX11_at_6 : decode cX11_at 6 = .ok (.imul, 1) := by decide +kernel
theorem dX11_at_7 : decode cX11_at 7 = .ok (.iadd, 1) := by decide +kernel
theorem dX11_at_8 : decode cX11_at 8 = .ok (.ireturn, 1) := by decide +kernel
theorem dX11_isLayer_0 : decode cX11_isLayer 0 = .ok (.iload_n 1, 1) := by decide +kernel
theorem dX11_isLayer_1 : decode cX11_isLayer 1 = .ok (.iconst 0, 1) := by decide +kernel
theorem dX11_isLayer_2 : decode cX11_isLayer 2 = .ok (.aload_n 0, 1) := by decide +kernel
theorem dX11_isLayer_3 : decode cX11_isLayer 3 = .ok (.getfield 7, 3) := by decide +kernel
theorem dX11_isLayer_6 : decode cX11_isLayer 6 = .ok (.sipush 258, 3) := by decide +kernel
theorem dX11_isLayer_9 : decode cX11_isLayer 9 = .ok (.iaload, 1) := by decide +kernel
theorem dX11_isLayer_10 : decode cX11_isLayer 10 = .ok (.iconst 1, 1) := by decide +kernel
theorem dX11_isLayer_11 : decode cX11_isLayer 11 = .ok (.isub, 1) := by decide +kernel
theorem dX11_isLayer_12 : decode cX11_isLayer 12 = .ok (.invokestatic 88, 3) := by decide +kernel
theorem dX11_isLayer_15 : decode cX11_isLayer 15 = .ok (.ireturn, 1) := by decide +kernel
theorem dX11_isPixel_0 : decode cX11_isPixel 0 = .ok (.iload_n 1, 1) := by decide +kernel
theorem dX11_isPixel_1 : decode cX11_isPixel 1 = .ok (.iconst 0, 1) := by decide +kernel
theorem dX11_isPixel_2 : decode cX11_isPixel 2 = .ok (.aload_n 0, 1) := by decide +kernel
theorem dX11_isPixel_3 : decode cX11_isPixel 3 = .ok (.getfield 7, 3) := by decide +kernel
theorem dX11_isPixel_6 : decode cX11_isPixel 6 = .ok (.iconst 0, 1) := by decide +kernel
theorem dX11_isPixel_7 : decode cX11_isPixel 7 = .ok (.iaload, 1) := by decide +kernel
theorem dX11_isPixel_8 : decode cX11_isPixel 8 = .ok (.iconst 1, 1) := by decide +kernel
theorem dX11_isPixel_9 : decode cX11_isPixel 9 = .ok (.isub, 1) := by decide +kernel
theorem dX11_isPixel_10 : decode cX11_isPixel 10 = .ok (.invokestatic 88, 3) := by decide +kernel
theorem dX11_isPixel_13 : decode cX11_isPixel 13 = .ok (.ifCond .eq 23, 3) := by decide +kernel
theorem dX11_isPixel_16 : decode cX11_isPixel 16 = .ok (.iload_n 2, 1) := by decide +kernel
theorem dX11_isPixel_17 : decode cX11_isPixel 17 = .ok (.iconst 0, 1) := by decide +kernel
theorem dX11_isPixel_18 : decode cX11_isPixel 18 = .ok (.aload_n 0, 1) := by decide +kernel
theorem dX11_isPixel_19 : decode cX11_isPixel 19 = .ok (.getfield 7, 3) := by decide +kernel
theorem dX11_isPixel_22 : decode cX11_isPixel 22 = .ok (.iconst 1, 1) := by decide +kernel
theorem dX11_isPixel_23 : decode cX11_isPixel 23 = .ok (.iaload, 1) := by decide +kernel
theorem dX11_isPixel_24 : decode cX11_isPixel 24 = .ok (.iconst 1, 1) := by decide +kernel
theorem dX11_isPixel_25 : decode cX11_isPixel 25 = .ok (.isub, 1) := by decide +kernel
theorem dX11_isPixel_26 : decode cX11_isPixel 26 = .ok (.invokestatic 88, 3) := by decide +kernel
theorem dX11_isPixel_29 : decode cX11_isPixel 29 = .ok (.ifCond .eq 7, 3) := by decide +kernel
theorem dX11_isPixel_32 : decode cX11_isPixel 32 = .ok (.iconst 1, 1) := by decide +kernel
theorem dX11_isPixel_33 : decode cX11_isPixel 33 = .ok (.goto 4, 3) := by decide +kernel
theorem dX11_isPixel_36 : decode cX11_isPixel 36 = .ok (.iconst 0, 1) := by decide +kernel
theorem dX11_isPixel_37 : decode cX11_isPixel 37 = .ok (.ireturn, 1) := by decide +kernel
theorem dX11_isOn_0 : decode cX11_isOn 0 = .ok (.aload_n 0, 1) := by decide +kernel
theorem dX11_isOn_1 : decode cX11_isOn 1 = .ok (.getfield 7, 3) := by decide +kernel
theorem dX11_isOn_4 : decode cX11_isOn 4 = .ok (.iload_n 1, 1) := by decide +kernel
theorem dX11_isOn_5 : decode cX11_isOn 5 = .ok (.invokestatic 95, 3) := by decide +kernel
theorem dX11_isOn_8 : decode cX11_isOn 8 = .ok (.iconst 5, 1) := by decide +kernel
theorem dX11_isOn_9 : decode cX11_isOn 9 = .ok (.iadd, 1) := by decide +kernel
theorem dX11_isOn_10 : decode cX11_isOn 10 = .ok (.iaload, 1) := by decide +kernel
theorem dX11_isOn_11 : decode cX11_isOn 11 = .ok (.iconst 1, 1) := by decide +kernel
theorem dX11_isOn_12 : decode cX11_isOn 12 = .ok (.if_icmp .ne 7, 3) := by decide +kernel
theorem dX11_isOn_15 : decode cX11_isOn 15 = .ok (.iconst 1, 1) := by decide +kernel
theorem dX11_isOn_16 : decode cX11_isOn 16 = .ok (.goto 4, 3) := by decide +kernel
theorem dX11_isOn_19 : decode cX11_isOn 19 = .ok (.iconst 0, 1) := by decide +kernel
theorem dX11_isOn_20 : decode cX11_isOn 20 = .ok (.ireturn, 1) := by decide +kernel
theorem dX11_columns_0 : decode cX11_columns 0 = .ok (.aload_n 0, 1) := by decide +kernel
theorem dX11_columns_1 : decode cX11_columns 1 = .ok (.getfield 7, 3) := by decide +kernel
theorem dX11_columns_4 : decode cX11_columns 4 = .ok (.iconst 0, 1) := by decide +kernel
theorem dX11_columns_5 : decode cX11_columns 5 = .ok (.iaload, 1) := by decide +kernel
theorem dX11_columns_6 : decode cX11_columns 6 = .ok (.aload_n 0, 1) := by decide +kernel
theorem dX11_columns_7 : decode cX11_columns 7 = .ok (.getfield 26, 3) := by decide +kernel
theorem dX11_columns_10 : decode cX11_columns 10 = .ok (.iadd, 1) := by decide +kernel
theorem dX11_columns_11 : decode cX11_columns 11 = .ok (.iconst 1, 1) := by decide +kernel
theorem dX11_columns_12 : decode cX11_columns 12 = .ok (.isub, 1) := by decide +kernel
theorem dX11_columns_13 : decode cX11_columns 13 = .ok (.aload_n 0, 1) := by decide +kernel
theorem dX11_columns_14 : decode cX11_columns 14 = .ok (.getfield 26, 3) := by decide +kernel
theorem dX11_columns_17 : decode cX11_columns 17 = .ok (.idiv, 1) := by decide +kernel
theorem dX11_columns_18 : decode cX11_columns 18 = .ok (.ireturn, 1) := by decide +kernel
theorem dX11_rows_0 : decode cX11_rows 0 = .ok (.aload_n 0, 1) := by decide +kernel
theorem dX11_rows_1 : decode cX11_rows 1 = .ok (.getfield 7, 3) := by decide +kernel
theorem dX11_rows_4 : decode cX11_rows 4 = .ok (.iconst 1, 1) := by decide +kernel
theorem dX11_rows_5 : decode cX11_rows 5 = .ok (.iaload, 1) := by decide +kernel
theorem dX11_rows_6 : decode cX11_rows 6 = .ok (.aload_n 0, 1) := by decide +kernel
theorem dX11_rows_7 : decode cX11_rows 7 = .ok (.getfield 26, 3) := by decide +kernel
theorem dX11_rows_10 : decode cX11_rows 10 = .ok (.iadd, 1) := by decide +kernel
theorem dX11_rows_11 : decode cX11_rows 11 = .ok (.iconst 1, 1) := by decide +kernel
theorem dX11_rows_12 : decode cX11_rows 12 = .ok (.isub, 1) := by decide +kernel
theorem dX11_rows_13 : decode cX11_rows 13 = .ok (.aload_n 0, 1) := by decide +kernel
theorem dX11_rows_14 : decode cX11_rows 14 = .ok (.getfield 26, 3) := by decide +kernel
theorem dX11_rows_17 : decode cX11_rows 17 = .ok (.idiv, 1) := by decide +kernel
theorem dX11_rows_18 : decode cX11_rows 18 = .ok (.ireturn, 1) := by decide +kernel
theorem dX11_cached_0 : decode cX11_cached 0 = .ok (.iconst 0, 1) := by decide +kernel
theorem dX11_cached_1 : decode cX11_cached 1 = .ok (.istore_n 1, 1) := by decide +kernel
theorem dX11_cached_2 : decode cX11_cached 2 = .ok (.iconst 0, 1) := by decide +kernel
theorem dX11_cached_3 : decode cX11_cached 3 = .ok (.istore_n 2, 1) := by decide +kernel
theorem dX11_cached_4 : decode cX11_cached 4 = .ok (.iload_n 2, 1) := by decide +kernel
theorem dX11_cached_5 : decode cX11_cached 5 = .ok (.sipush 512, 3) := by decide +kernel
theorem dX11_cached_8 : decode cX11_cached 8 = .ok (.if_icmp .ge 26, 3) := by decide +kernel
theorem dX11_cached_11 : decode cX11_cached 11 = .ok (.iload_n 1, 1) := by decide +kernel
theorem dX11_cached_12 : decode cX11_cached 12 = .ok (.aload_n 0, 1) := by decide +kernel
theorem dX11_cached_13 : decode cX11_cached 13 = .ok (.getfield 33, 3) := by decide +kernel
theorem dX11_cached_16 : decode cX11_cached 16 = .ok (.iload_n 2, 1) := by decide +kernel
theorem dX11_cached_17 : decode cX11_cached 17 = .ok (.iaload, 1) := by decide +kernel
theorem dX11_cached_18 : decode cX11_cached 18 = .ok (.ifCond .le 7, 3) := by decide +kernel
theorem dX11_cached_21 : decode cX11_cached 21 = .ok (.iconst 1, 1) := by decide +kernel
theorem dX11_cached_22 : decode cX11_cached 22 = .ok (.goto 4, 3) := by decide +kernel
theorem dX11_cached_25 : decode cX11_cached 25 = .ok (.iconst 0, 1) := by decide +kernel
theorem dX11_cached_26 : decode cX11_cached 26 = .ok (.iadd, 1) := by decide +kernel
theorem dX11_cached_27 : decode cX11_cached 27 = .ok (.istore_n 1, 1) := by decide +kernel
theorem dX11_cached_28 : decode cX11_cached 28 = .ok (.iinc 2 1, 3) := by decide +kernel
theorem dX11_cached_31 : decode cX11_cached 31 = .ok (.goto (-27), 3) := by decide +kernel
theorem dX11_cached_34 : decode cX11_cached 34 = .ok (.iload_n 1, 1) := by decide +kernel
theorem dX11_cached_35 : decode cX11_cached 35 = .ok (.ireturn, 1) := by decide +kernel
theorem dX11_removeTiles_0 : decode cX11_removeTiles 0 = .ok (.iconst 0, 1) := by decide +kernel
theorem dX11_removeTiles_1 : decode cX11_removeTiles 1 = .ok (.istore_n 3, 1) := by decide +kernel
theorem dX11_removeTiles_2 : decode cX11_removeTiles 2 = .ok (.bipush 64, 2) := by decide +kernel
theorem dX11_removeTiles_4 : decode cX11_removeTiles 4 = .ok (.iload_n 1, 1) := by decide +kernel
theorem dX11_removeTiles_5 : decode cX11_removeTiles 5 = .ok (.imul, 1) := by decide +kernel
theorem dX11_removeTiles_6 : decode cX11_removeTiles 6 = .ok (.istore 4, 2) := by decide +kernel
theorem dX11_removeTiles_8 : decode cX11_removeTiles 8 = .ok (.iload 4, 2) := by decide +kernel
theorem dX11_removeTiles_10 : decode cX11_removeTiles 10 = .ok (.bipush 64, 2) := by decide +kernel
theorem dX11_removeTiles_12 : decode cX11_removeTiles 12 = .ok (.iload_n 2, 1) := by decide +kernel
theorem dX11_removeTiles_13 : decode cX11_removeTiles 13 = .ok (.iconst 1, 1) := by decide +kernel
theorem dX11_removeTiles_14 : decode cX11_removeTiles 14 = .ok (.iadd, 1) := by decide +kernel
theorem dX11_removeTiles_15 : decode cX11_removeTiles 15 = .ok (.imul, 1) := by decide +kernel
theorem dX11_removeTiles_16 : decode cX11_removeTiles 16 = .ok (.if_icmp .ge 35, 3) := by decide +kernel
theorem dX11_removeTiles_19 : decode cX11_removeTiles 19 = .ok (.iload_n 3, 1) := by decide +kernel
theorem dX11_removeTiles_20 : decode cX11_removeTiles 20 = .ok (.aload_n 0, 1) := by decide +kernel
theorem dX11_removeTiles_21 : decode cX11_removeTiles 21 = .ok (.getfield 33, 3) := by decide +kernel
theorem dX11_removeTiles_24 : decode cX11_removeTiles 24 = .ok (.iload 4, 2) := by decide +kernel
theorem dX11_removeTiles_26 : decode cX11_removeTiles 26 = .ok (.iaload, 1) := by decide +kernel
theorem dX11_removeTiles_27 : decode cX11_removeTiles 27 = .ok (.ifCond .le 7, 3) := by decide +kernel
theorem dX11_removeTiles_30 : decode cX11_removeTiles 30 = .ok (.iconst 1, 1) := by decide +kernel
theorem dX11_removeTiles_31 : decode cX11_removeTiles 31 = .ok (.goto 4, 3) := by decide +kernel
theorem dX11_removeTiles_34 : decode cX11_removeTiles 34 = .ok (.iconst 0, 1) := by decide +kernel
theorem dX11_removeTiles_35 : decode cX11_removeTiles 35 = .ok (.iadd, 1) := by decide +kernel
theorem dX11_removeTiles_36 : decode cX11_removeTiles 36 = .ok (.istore_n 3, 1) := by decide +kernel
theorem dX11_removeTiles_37 : decode cX11_removeTiles 37 = .ok (.aload_n 0, 1) := by decide +kernel
theorem dX11_removeTiles_38 : decode cX11_removeTiles 38 = .ok (.getfield 33, 3) := by decide +kernel
theorem dX11_removeTiles_41 : decode cX11_removeTiles 41 = .ok (.iload 4, 2) := by decide +kernel
theorem dX11_removeTiles_43 : decode cX11_removeTiles 43 = .ok (.iconst 0, 1) := by decide +kernel
theorem dX11_removeTiles_44 : decode cX11_removeTiles 44 = .ok (.iastore, 1) := by decide +kernel
theorem dX11_removeTiles_45 : decode cX11_removeTiles 45 = .ok (.iinc 4 1, 3) := by decide +kernel
theorem dX11_removeTiles_48 : decode cX11_removeTiles 48 = .ok (.goto (-40), 3) := by decide +kernel
theorem dX11_removeTiles_51 : decode cX11_removeTiles 51 = .ok (.iload_n 3, 1) := by decide +kernel
theorem dX11_removeTiles_52 : decode cX11_removeTiles 52 = .ok (.ireturn, 1) := by decide +kernel
theorem dX11_reach_0 : decode cX11_reach 0 = .ok (.aload_n 0, 1) := by decide +kernel
theorem dX11_reach_1 : decode cX11_reach 1 = .ok (.getfield 7, 3) := by decide +kernel
theorem dX11_reach_4 : decode cX11_reach 4 = .ok (.iload_n 1, 1) := by decide +kernel
theorem dX11_reach_5 : decode cX11_reach 5 = .ok (.invokestatic 95, 3) := by decide +kernel
theorem dX11_reach_8 : decode cX11_reach 8 = .ok (.iconst 0, 1) := by decide +kernel
theorem dX11_reach_9 : decode cX11_reach 9 = .ok (.iadd, 1) := by decide +kernel
theorem dX11_reach_10 : decode cX11_reach 10 = .ok (.iaload, 1) := by decide +kernel
theorem dX11_reach_11 : decode cX11_reach 11 = .ok (.istore_n 2, 1) := by decide +kernel
theorem dX11_reach_12 : decode cX11_reach 12 = .ok (.aload_n 0, 1) := by decide +kernel
theorem dX11_reach_13 : decode cX11_reach 13 = .ok (.getfield 7, 3) := by decide +kernel
theorem dX11_reach_16 : decode cX11_reach 16 = .ok (.iload_n 1, 1) := by decide +kernel
theorem dX11_reach_17 : decode cX11_reach 17 = .ok (.invokestatic 95, 3) := by decide +kernel
theorem dX11_reach_20 : decode cX11_reach 20 = .ok (.iconst 1, 1) := by decide +kernel
theorem dX11_reach_21 : decode cX11_reach 21 = .ok (.iadd, 1) := by decide +kernel
theorem dX11_reach_22 : decode cX11_reach 22 = .ok (.iaload, 1) := by decide +kernel
theorem dX11_reach_23 : decode cX11_reach 23 = .ok (.istore_n 3, 1) := by decide +kernel
theorem dX11_reach_24 : decode cX11_reach 24 = .ok (.aload_n 0, 1) := by decide +kernel
theorem dX11_reach_25 : decode cX11_reach 25 = .ok (.getfield 7, 3) := by decide +kernel
theorem dX11_reach_28 : decode cX11_reach 28 = .ok (.iload_n 1, 1) := by decide +kernel
theorem dX11_reach_29 : decode cX11_reach 29 = .ok (.invokestatic 95, 3) := by decide +kernel
theorem dX11_reach_32 : decode cX11_reach 32 = .ok (.iconst 2, 1) := by decide +kernel
theorem dX11_reach_33 : decode cX11_reach 33 = .ok (.iadd, 1) := by decide +kernel
theorem dX11_reach_34 : decode cX11_reach 34 = .ok (.iaload, 1) := by decide +kernel
theorem dX11_reach_35 : decode cX11_reach 35 = .ok (.istore 4, 2) := by decide +kernel
theorem dX11_reach_37 : decode cX11_reach 37 = .ok (.iload_n 2, 1) := by decide +kernel
theorem dX11_reach_38 : decode cX11_reach 38 = .ok (.bipush 11, 2) := by decide +kernel
theorem dX11_reach_40 : decode cX11_reach 40 = .ok (.if_icmp .ne 28, 3) := by decide +kernel
theorem dX11_reach_43 : decode cX11_reach 43 = .ok (.iload_n 3, 1) := by decide +kernel
theorem dX11_reach_44 : decode cX11_reach 44 = .ok (.invokestatic 99, 3) := by decide +kernel
theorem dX11_reach_47 : decode cX11_reach 47 = .ok (.iload 4, 2) := by decide +kernel
theorem dX11_reach_49 : decode cX11_reach 49 = .ok (.invokestatic 99, 3) := by decide +kernel
theorem dX11_reach_52 : decode cX11_reach 52 = .ok (.if_icmp .le 10, 3) := by decide +kernel
theorem dX11_reach_55 : decode cX11_reach 55 = .ok (.iload_n 3, 1) := by decide +kernel
theorem dX11_reach_56 : decode cX11_reach 56 = .ok (.invokestatic 99, 3) := by decide +kernel
theorem dX11_reach_59 : decode cX11_reach 59 = .ok (.goto 8, 3) := by decide +kernel
theorem dX11_reach_62 : decode cX11_reach 62 = .ok (.iload 4, 2) := by decide +kernel
theorem dX11_reach_64 : decode cX11_reach 64 = .ok (.invokestatic 99, 3) := by decide +kernel
theorem dX11_reach_67 : decode cX11_reach 67 = .ok (.ireturn, 1) := by decide +kernel
theorem dX11_reach_68 : decode cX11_reach 68 = .ok (.iload_n 2, 1) := by decide +kernel
theorem dX11_reach_69 : decode cX11_reach 69 = .ok (.bipush 13, 2) := by decide +kernel
theorem dX11_reach_71 : decode cX11_reach 71 = .ok (.if_icmp .ne 8, 3) := by decide +kernel
theorem dX11_reach_74 : decode cX11_reach 74 = .ok (.bipush 16, 2) := by decide +kernel
theorem dX11_reach_76 : decode cX11_reach 76 = .ok (.goto 19, 3) := by decide +kernel
theorem dX11_reach_79 : decode cX11_reach 79 = .ok (.iload_n 2, 1) := by decide +kernel
theorem dX11_reach_80 : decode cX11_reach 80 = .ok (.bipush 6, 2) := by decide +kernel
theorem dX11_reach_82 : decode cX11_reach 82 = .ok (.bipush 10, 2) := by decide +kernel
theorem dX11_reach_84 : decode cX11_reach 84 = .ok (.invokestatic 88, 3) := by decide +kernel
theorem dX11_reach_87 : decode cX11_reach 87 = .ok (.ifCond .eq 7, 3) := by decide +kernel
theorem dX11_reach_90 : decode cX11_reach 90 = .ok (.iload_n 3, 1) := by decide +kernel
theorem dX11_reach_91 : decode cX11_reach 91 = .ok (.goto 4, 3) := by decide +kernel
theorem dX11_reach_94 : decode cX11_reach 94 = .ok (.iconst 0, 1) := by decide +kernel
theorem dX11_reach_95 : decode cX11_reach 95 = .ok (.ireturn, 1) := by decide +kernel
theorem dX11_removeAfter_0 : decode cX11_removeAfter 0 = .ok (.iconst 0, 1) := by decide +kernel
theorem dX11_removeAfter_1 : decode cX11_removeAfter 1 = .ok (.istore 5, 2) := by decide +kernel
theorem dX11_removeAfter_3 : decode cX11_removeAfter 3 = .ok (.iload_n 1, 1) := by decide +kernel
theorem dX11_removeAfter_4 : decode cX11_removeAfter 4 = .ok (.istore 6, 2) := by decide +kernel
theorem dX11_removeAfter_6 : decode cX11_removeAfter 6 = .ok (.iload_n 1, 1) := by decide +kernel
theorem dX11_removeAfter_7 : decode cX11_removeAfter 7 = .ok (.iload_n 3, 1) := by decide +kernel
theorem dX11_removeAfter_8 : decode cX11_removeAfter 8 = .ok (.iadd, 1) := by decide +kernel
theorem dX11_removeAfter_9 : decode cX11_removeAfter 9 = .ok (.iconst 1, 1) := by decide +kernel
theorem dX11_removeAfter_10 : decode cX11_removeAfter 10 = .ok (.isub, 1) := by decide +kernel
theorem dX11_removeAfter_11 : decode cX11_removeAfter 11 = .ok (.istore 7, 2) := by decide +kernel
theorem dX11_removeAfter_13 : decode cX11_removeAfter 13 = .ok (.iload_n 2, 1) := by decide +kernel
theorem dX11_removeAfter_14 : decode cX11_removeAfter 14 = .ok (.istore 8, 2) := by decide +kernel
theorem dX11_removeAfter_16 : decode cX11_removeAfter 16 = .ok (.iload_n 2, 1) := by decide +kernel
theorem dX11_removeAfter_17 : decode cX11_removeAfter 17 = .ok (.iload 4, 2) := by decide +kernel
theorem dX11_removeAfter_19 : decode cX11_removeAfter 19 = .ok (.iadd, 1) := by decide +kernel
theorem dX11_removeAfter_20 : decode cX11_removeAfter 20 = .ok (.iconst 1, 1) := by decide +kernel
theorem dX11_removeAfter_21 : decode cX11_removeAfter 21 = .ok (.isub, 1) := by decide +kernel
theorem dX11_removeAfter_22 : decode cX11_removeAfter 22 = .ok (.istore 9, 2) := by decide +kernel
theorem dX11_removeAfter_24 : decode cX11_removeAfter 24 = .ok (.iconst 0, 1) := by decide +kernel
theorem dX11_removeAfter_25 : decode cX11_removeAfter 25 = .ok (.istore 10, 2) := by decide +kernel
theorem dX11_removeAfter_27 : decode cX11_removeAfter 27 = .ok (.iload 10, 2) := by decide +kernel
theorem dX11_removeAfter_29 : decode cX11_removeAfter 29 = .ok (.aload_n 0, 1) := by decide +kernel
theorem dX11_removeAfter_30 : decode cX11_removeAfter 30 = .ok (.getfield 7, 3) := by decide +kernel
theorem dX11_removeAfter_33 : decode cX11_removeAfter 33 = .ok (.sipush 258, 3) := by decide +kernel
theorem dX11_removeAfter_36 : decode cX11_removeAfter 36 = .ok (.iaload, 1) := by decide +kernel
theorem dX11_removeAfter_37 : decode cX11_removeAfter 37 = .ok (.if_icmp .ge 226, 3) := by decide +kernel
theorem dX11_removeAfter_40 : decode cX11_removeAfter 40 = .ok (.aload_n 0, 1) := by decide +kernel
theorem dX11_removeAfter_41 : decode cX11_removeAfter 41 = .ok (.iload 10, 2) := by decide +kernel
theorem dX11_removeAfter_43 : decode cX11_removeAfter 43 = .ok (.invokevirtual 102, 3) := by decide +kernel
theorem dX11_removeAfter_46 : decode cX11_removeAfter 46 = .ok (.ifCond .eq 211, 3) := by decide +kernel
theorem dX11_removeAfter_49 : decode cX11_removeAfter 49 = .ok (.aload_n 0, 1) := by decide +kernel
theorem dX11_removeAfter_50 : decode cX11_removeAfter 50 = .ok (.iload 10, 2) := by decide +kernel
theorem dX11_removeAfter_52 : decode cX11_removeAfter 52 = .ok (.invokevirtual 106, 3) := by decide +kernel
theorem dX11_removeAfter_55 : decode cX11_removeAfter 55 = .ok (.istore 11, 2) := by decide +kernel
theorem dX11_removeAfter_57 : decode cX11_removeAfter 57 = .ok (.iload 6, 2) := by decide +kernel
theorem dX11_removeAfter_59 : decode cX11_removeAfter 59 = .ok (.iload 11, 2) := by decide +kernel
theorem dX11_removeAfter_61 : decode cX11_removeAfter 61 = .ok (.isub, 1) := by decide +kernel
theorem dX11_removeAfter_62 : decode cX11_removeAfter 62 = .ok (.ifCond .ge 7, 3) := by decide +kernel
theorem dX11_removeAfter_65 : decode cX11_removeAfter 65 = .ok (.iconst 0, 1) := by decide +kernel
theorem dX11_removeAfter_66 : decode cX11_removeAfter 66 = .ok (.goto 8, 3) := by decide +kernel
theorem dX11_removeAfter_69 : decode cX11_removeAfter 69 = .ok (.iload 6, 2) := by decide +kernel
theorem dX11_removeAfter_71 : decode cX11_removeAfter 71 = .ok (.iload 11, 2) := by decide +kernel
theorem dX11_removeAfter_73 : decode cX11_removeAfter 73 = .ok (.isub, 1) := by decide +kernel
theorem dX11_removeAfter_74 : decode cX11_removeAfter 74 = .ok (.istore 6, 2) := by decide +kernel
theorem dX11_removeAfter_76 : decode cX11_removeAfter 76 = .ok (.iload 8, 2) := by decide +kernel
theorem dX11_removeAfter_78 : decode cX11_removeAfter 78 = .ok (.iload 11, 2) := by decide +kernel
theorem dX11_removeAfter_80 : decode cX11_removeAfter 80 = .ok (.isub, 1) := by decide +kernel
theorem dX11_removeAfter_81 : decode cX11_removeAfter 81 = .ok (.ifCond .ge 7, 3) := by decide +kernel
theorem dX11_removeAfter_84 : decode cX11_removeAfter 84 = .ok (.iconst 0, 1) := by decide +kernel
theorem dX11_removeAfter_85 : decode cX11_removeAfter 85 = .ok (.goto 8, 3) := by decide +kernel
theorem dX11_removeAfter_88 : decode cX11_removeAfter 88 = .ok (.iload 8, 2) := by decide +kernel
theorem dX11_removeAfter_90 : decode cX11_removeAfter 90 = .ok (.iload 11, 2) := by decide +kernel
theorem dX11_removeAfter_92 : decode cX11_removeAfter 92 = .ok (.isub, 1) := by decide +kernel
theorem dX11_removeAfter_93 : decode cX11_removeAfter 93 = .ok (.istore 8, 2) := by decide +kernel
theorem dX11_removeAfter_95 : decode cX11_removeAfter 95 = .ok (.iload 7, 2) := by decide +kernel
theorem dX11_removeAfter_97 : decode cX11_removeAfter 97 = .ok (.iload 11, 2) := by decide +kernel
theorem dX11_removeAfter_99 : decode cX11_removeAfter 99 = .ok (.iadd, 1) := by decide +kernel
theorem dX11_removeAfter_100 : decode cX11_removeAfter 100 = .ok (.aload_n 0, 1) := by decide +kernel
theorem dX11_removeAfter_101 : decode cX11_removeAfter 101 = .ok (.getfield 7, 3) := by decide +kernel
theorem dX11_removeAfter_104 : decode cX11_removeAfter 104 = .ok (.iconst 0, 1) := by decide +kernel
theorem dX11_removeAfter_105 : decode cX11_removeAfter 105 = .ok (.iaload, 1) := by decide +kernel
theorem dX11_removeAfter_106 : decode cX11_removeAfter 106 = .ok (.if_icmp .lt 14, 3) := by decide +kernel
theorem dX11_removeAfter_109 : decode cX11_removeAfter 109 = .ok (.aload_n 0, 1) := by decide +kernel
theorem dX11_removeAfter_110 : decode cX11_removeAfter 110 = .ok (.getfield 7, 3) := by decide +kernel
theorem dX11_removeAfter_113 : decode cX11_removeAfter 113 = .ok (.iconst 0, 1) := by decide +kernel
theorem dX11_removeAfter_114 : decode cX11_removeAfter 114 = .ok (.iaload, 1) := by decide +kernel
theorem dX11_removeAfter_115 : decode cX11_removeAfter 115 = .ok (.iconst 1, 1) := by decide +kernel
theorem dX11_removeAfter_116 : decode cX11_removeAfter 116 = .ok (.isub, 1) := by decide +kernel
theorem dX11_removeAfter_117 : decode cX11_removeAfter 117 = .ok (.goto 8, 3) := by decide +kernel
theorem dX11_removeAfter_120 : decode cX11_removeAfter 120 = .ok (.iload 7, 2) := by decide +kernel
theorem dX11_removeAfter_122 : decode cX11_removeAfter 122 = .ok (.iload 11, 2) := by decide +kernel
theorem dX11_removeAfter_124 : decode cX11_removeAfter 124 = .ok (.iadd, 1) := by decide +kernel
theorem dX11_removeAfter_125 : decode cX11_removeAfter 125 = .ok (.istore 7, 2) := by decide +kernel
theorem dX11_removeAfter_127 : decode cX11_removeAfter 127 = .ok (.iload 9, 2) := by decide +kernel
theorem dX11_removeAfter_129 : decode cX11_removeAfter 129 = .ok (.iload 11, 2) := by decide +kernel
theorem dX11_removeAfter_131 : decode cX11_removeAfter 131 = .ok (.iadd, 1) := by decide +kernel
theorem dX11_removeAfter_132 : decode cX11_removeAfter 132 = .ok (.aload_n 0, 1) := by decide +kernel
theorem dX11_removeAfter_133 : decode cX11_removeAfter 133 = .ok (.getfield 7, 3) := by decide +kernel
theorem dX11_removeAfter_136 : decode cX11_removeAfter 136 = .ok (.iconst 1, 1) := by decide +kernel
theorem dX11_removeAfter_137 : decode cX11_removeAfter 137 = .ok (.iaload, 1) := by decide +kernel
theorem dX11_removeAfter_138 : decode cX11_removeAfter 138 = .ok (.if_icmp .lt 14, 3) := by decide +kernel
theorem dX11_removeAfter_141 : decode cX11_removeAfter 141 = .ok (.aload_n 0, 1) := by decide +kernel
theorem dX11_removeAfter_142 : decode cX11_removeAfter 142 = .ok (.getfield 7, 3) := by decide +kernel
theorem dX11_removeAfter_145 : decode cX11_removeAfter 145 = .ok (.iconst 1, 1) := by decide +kernel
theorem dX11_removeAfter_146 : decode cX11_removeAfter 146 = .ok (.iaload, 1) := by decide +kernel
theorem dX11_removeAfter_147 : decode cX11_removeAfter 147 = .ok (.iconst 1, 1) := by decide +kernel
theorem dX11_removeAfter_148 : decode cX11_removeAfter 148 = .ok (.isub, 1) := by decide +kernel
theorem dX11_removeAfter_149 : decode cX11_removeAfter 149 = .ok (.goto 8, 3) := by decide +kernel
theorem dX11_removeAfter_152 : decode cX11_removeAfter 152 = .ok (.iload 9, 2) := by decide +kernel
theorem dX11_removeAfter_154 : decode cX11_removeAfter 154 = .ok (.iload 11, 2) := by decide +kernel
theorem dX11_removeAfter_156 : decode cX11_removeAfter 156 = .ok (.iadd, 1) := by decide +kernel
theorem dX11_removeAfter_157 : decode cX11_removeAfter 157 = .ok (.istore 9, 2) := by decide +kernel
theorem dX11_removeAfter_159 : decode cX11_removeAfter 159 = .ok (.iload 8, 2) := by decide +kernel
theorem dX11_removeAfter_161 : decode cX11_removeAfter 161 = .ok (.aload_n 0, 1) := by decide +kernel
theorem dX11_removeAfter_162 : decode cX11_removeAfter 162 = .ok (.getfield 26, 3) := by decide +kernel
theorem dX11_removeAfter_165 : decode cX11_removeAfter 165 = .ok (.idiv, 1) := by decide +kernel
theorem dX11_removeAfter_166 : decode cX11_removeAfter 166 = .ok (.istore 12, 2) := by decide +kernel
theorem dX11_removeAfter_168 : decode cX11_removeAfter 168 = .ok (.iload 12, 2) := by decide +kernel
theorem dX11_removeAfter_170 : decode cX11_removeAfter 170 = .ok (.iload 9, 2) := by decide +kernel
theorem dX11_removeAfter_172 : decode cX11_removeAfter 172 = .ok (.aload_n 0, 1) := by decide +kernel
theorem dX11_removeAfter_173 : decode cX11_removeAfter 173 = .ok (.getfield 26, 3) := by decide +kernel
theorem dX11_removeAfter_176 : decode cX11_removeAfter 176 = .ok (.idiv, 1) := by decide +kernel
theorem dX11_removeAfter_177 : decode cX11_removeAfter 177 = .ok (.if_icmp .gt 80, 3) := by decide +kernel
theorem dX11_removeAfter_180 : decode cX11_removeAfter 180 = .ok (.iload 6, 2) := by decide +kernel
theorem dX11_removeAfter_182 : decode cX11_removeAfter 182 = .ok (.aload_n 0, 1) := by decide +kernel
theorem dX11_removeAfter_183 : decode cX11_removeAfter 183 = .ok (.getfield 26, 3) := by decide +kernel
theorem dX11_removeAfter_186 : decode cX11_removeAfter 186 = .ok (.idiv, 1) := by decide +kernel
theorem dX11_removeAfter_187 : decode cX11_removeAfter 187 = .ok (.istore 13, 2) := by decide +kernel
theorem dX11_removeAfter_189 : decode cX11_removeAfter 189 = .ok (.iload 13, 2) := by decide +kernel
theorem dX11_removeAfter_191 : decode cX11_removeAfter 191 = .ok (.iload 7, 2) := by decide +kernel
theorem dX11_removeAfter_193 : decode cX11_removeAfter 193 = .ok (.aload_n 0, 1) := by decide +kernel
theorem dX11_removeAfter_194 : decode cX11_removeAfter 194 = .ok (.getfield 26, 3) := by decide +kernel
theorem dX11_removeAfter_197 : decode cX11_removeAfter 197 = .ok (.idiv, 1) := by decide +kernel
theorem dX11_removeAfter_198 : decode cX11_removeAfter 198 = .ok (.if_icmp .gt 53, 3) := by decide +kernel
theorem dX11_removeAfter_201 : decode cX11_removeAfter 201 = .ok (.bipush 64, 2) := by decide +kernel
theorem dX11_removeAfter_203 : decode cX11_removeAfter 203 = .ok (.iload 10, 2) := by decide +kernel
theorem dX11_removeAfter_205 : decode cX11_removeAfter 205 = .ok (.imul, 1) := by decide +kernel
theorem dX11_removeAfter_206 : decode cX11_removeAfter 206 = .ok (.bipush 8, 2) := by decide +kernel
theorem dX11_removeAfter_208 : decode cX11_removeAfter 208 = .ok (.iload 12, 2) := by decide +kernel
theorem dX11_removeAfter_210 : decode cX11_removeAfter 210 = .ok (.imul, 1) := by decide +kernel
theorem dX11_removeAfter_211 : decode cX11_removeAfter 211 = .ok (.iadd, 1) := by decide +kernel
theorem dX11_removeAfter_212 : decode cX11_removeAfter 212 = .ok (.iload 13, 2) := by decide +kernel
theorem dX11_removeAfter_214 : decode cX11_removeAfter 214 = .ok (.iadd, 1) := by decide +kernel
theorem dX11_removeAfter_215 : decode cX11_removeAfter 215 = .ok (.istore 14, 2) := by decide +kernel
theorem dX11_removeAfter_217 : decode cX11_removeAfter 217 = .ok (.iload 5, 2) := by decide +kernel
theorem dX11_removeAfter_219 : decode cX11_removeAfter 219 = .ok (.aload_n 0, 1) := by decide +kernel
theorem dX11_removeAfter_220 : decode cX11_removeAfter 220 = .ok (.getfield 33, 3) := by decide +kernel
theorem dX11_removeAfter_223 : decode cX11_removeAfter 223 = .ok (.iload 14, 2) := by decide +kernel
theorem dX11_removeAfter_225 : decode cX11_removeAfter 225 = .ok (.iaload, 1) := by decide +kernel
theorem dX11_removeAfter_226 : decode cX11_removeAfter 226 = .ok (.ifCond .le 7, 3) := by decide +kernel
theorem dX11_removeAfter_229 : decode cX11_removeAfter 229 = .ok (.iconst 1, 1) := by decide +kernel
theorem dX11_removeAfter_230 : decode cX11_removeAfter 230 = .ok (.goto 4, 3) := by decide +kernel
theorem dX11_removeAfter_233 : decode cX11_removeAfter 233 = .ok (.iconst 0, 1) := by decide +kernel
theorem dX11_removeAfter_234 : decode cX11_removeAfter 234 = .ok (.iadd, 1) := by decide +kernel
theorem dX11_removeAfter_235 : decode cX11_removeAfter 235 = .ok (.istore 5, 2) := by decide +kernel
theorem dX11_removeAfter_237 : decode cX11_removeAfter 237 = .ok (.aload_n 0, 1) := by decide +kernel
theorem dX11_removeAfter_238 : decode cX11_removeAfter 238 = .ok (.getfield 33, 3) := by decide +kernel
theorem dX11_removeAfter_241 : decode cX11_removeAfter 241 = .ok (.iload 14, 2) := by decide +kernel
theorem dX11_removeAfter_243 : decode cX11_removeAfter 243 = .ok (.iconst 0, 1) := by decide +kernel
theorem dX11_removeAfter_244 : decode cX11_removeAfter 244 = .ok (.iastore, 1) := by decide +kernel
theorem dX11_removeAfter_245 : decode cX11_removeAfter 245 = .ok (.iinc 13 1, 3) := by decide +kernel
theorem dX11_removeAfter_248 : decode cX11_removeAfter 248 = .ok (.goto (-59), 3) := by decide +kernel
theorem dX11_removeAfter_251 : decode cX11_removeAfter 251 = .ok (.iinc 12 1, 3) := by decide +kernel
theorem dX11_removeAfter_254 : decode cX11_removeAfter 254 = .ok (.goto (-86), 3) := by decide +kernel
theorem dX11_removeAfter_257 : decode cX11_removeAfter 257 = .ok (.iinc 10 1, 3) := by decide +kernel
theorem dX11_removeAfter_260 : decode cX11_removeAfter 260 = .ok (.goto (-233), 3) := by decide +kernel
theorem dX11_removeAfter_263 : decode cX11_removeAfter 263 = .ok (.iload 5, 2) := by decide +kernel
theorem dX11_removeAfter_265 : decode cX11_removeAfter 265 = .ok (.ireturn, 1) := by decide +kernel
theorem dX11_oldest_0 : decode cX11_oldest 0 = .ok (.sipush (-1009), 3) := by decide +kernel
theorem dX11_oldest_3 : decode cX11_oldest 3 = .ok (.istore_n 1, 1) := by decide +kernel
theorem dX11_oldest_4 : decode cX11_oldest 4 = .ok (.iconst 0, 1) := by decide +kernel
theorem dX11_oldest_5 : decode cX11_oldest 5 = .ok (.istore_n 2, 1) := by decide +kernel
theorem dX11_oldest_6 : decode cX11_oldest 6 = .ok (.iload_n 2, 1) := by decide +kernel
theorem dX11_oldest_7 : decode cX11_oldest 7 = .ok (.sipush 512, 3) := by decide +kernel
theorem dX11_oldest_10 : decode cX11_oldest 10 = .ok (.if_icmp .ge 46, 3) := by decide +kernel
theorem dX11_oldest_13 : decode cX11_oldest 13 = .ok (.aload_n 0, 1) := by decide +kernel
theorem dX11_oldest_14 : decode cX11_oldest 14 = .ok (.getfield 33, 3) := by decide +kernel
theorem dX11_oldest_17 : decode cX11_oldest 17 = .ok (.iload_n 2, 1) := by decide +kernel
theorem dX11_oldest_18 : decode cX11_oldest 18 = .ok (.iaload, 1) := by decide +kernel
theorem dX11_oldest_19 : decode cX11_oldest 19 = .ok (.ifCond .le 29, 3) := by decide +kernel
theorem dX11_oldest_22 : decode cX11_oldest 22 = .ok (.iload_n 1, 1) := by decide +kernel
theorem dX11_oldest_23 : decode cX11_oldest 23 = .ok (.sipush (-1009), 3) := by decide +kernel
theorem dX11_oldest_26 : decode cX11_oldest 26 = .ok (.if_icmp .eq 18, 3) := by decide +kernel
theorem dX11_oldest_29 : decode cX11_oldest 29 = .ok (.aload_n 0, 1) := by decide +kernel
theorem dX11_oldest_30 : decode cX11_oldest 30 = .ok (.getfield 33, 3) := by decide +kernel
theorem dX11_oldest_33 : decode cX11_oldest 33 = .ok (.iload_n 2, 1) := by decide +kernel
theorem dX11_oldest_34 : decode cX11_oldest 34 = .ok (.iaload, 1) := by decide +kernel
theorem dX11_oldest_35 : decode cX11_oldest 35 = .ok (.aload_n 0, 1) := by decide +kernel
theorem dX11_oldest_36 : decode cX11_oldest 36 = .ok (.getfield 33, 3) := by decide +kernel
theorem dX11_oldest_39 : decode cX11_oldest 39 = .ok (.iload_n 1, 1) := by decide +kernel
theorem dX11_oldest_40 : decode cX11_oldest 40 = .ok (.iaload, 1) := by decide +kernel
theorem dX11_oldest_41 : decode cX11_oldest 41 = .ok (.if_icmp .ge 7, 3) := by decide +kernel
theorem dX11_oldest_44 : decode cX11_oldest 44 = .ok (.iload_n 2, 1) := by decide +kernel
theorem dX11_oldest_45 : decode cX11_oldest 45 = .ok (.goto 4, 3) := by decide +kernel
theorem dX11_oldest_48 : decode cX11_oldest 48 = .ok (.iload_n 1, 1) := by decide +kernel
theorem dX11_oldest_49 : decode cX11_oldest 49 = .ok (.istore_n 1, 1) := by decide +kernel
theorem dX11_oldest_50 : decode cX11_oldest 50 = .ok (.iinc 2 1, 3) := by decide +kernel
theorem dX11_oldest_53 : decode cX11_oldest 53 = .ok (.goto (-47), 3) := by decide +kernel
theorem dX11_oldest_56 : decode cX11_oldest 56 = .ok (.iload_n 1, 1) := by decide +kernel
theorem dX11_oldest_57 : decode cX11_oldest 57 = .ok (.ireturn, 1) := by decide +kernel
theorem dX11_trim_0 : decode cX11_trim 0 = .ok (.iconst 0, 1) := by decide +kernel
theorem dX11_trim_1 : decode cX11_trim 1 = .ok (.istore_n 1, 1) := by decide +kernel
theorem dX11_trim_2 : decode cX11_trim 2 = .ok (.aload_n 0, 1) := by decide +kernel
theorem dX11_trim_3 : decode cX11_trim 3 = .ok (.invokevirtual 109, 3) := by decide +kernel
theorem dX11_trim_6 : decode cX11_trim 6 = .ok (.aload_n 0, 1) := by decide +kernel
theorem dX11_trim_7 : decode cX11_trim 7 = .ok (.getfield 30, 3) := by decide +kernel
theorem dX11_trim_10 : decode cX11_trim 10 = .ok (.isub, 1) := by decide +kernel
theorem dX11_trim_11 : decode cX11_trim 11 = .ok (.istore_n 2, 1) := by decide +kernel
theorem dX11_trim_12 : decode cX11_trim 12 = .ok (.iload_n 2, 1) := by decide +kernel
theorem dX11_trim_13 : decode cX11_trim 13 = .ok (.ifCond .le 32, 3) := by decide +kernel
theorem dX11_trim_16 : decode cX11_trim 16 = .ok (.aload_n 0, 1) := by decide +kernel
theorem dX11_trim_17 : decode cX11_trim 17 = .ok (.getfield 33, 3) := by decide +kernel
theorem dX11_trim_20 : decode cX11_trim 20 = .ok (.aload_n 0, 1) := by decide +kernel
theorem dX11_trim_21 : decode cX11_trim 21 = .ok (.invokevirtual 113, 3) := by decide +kernel
theorem dX11_trim_24 : decode cX11_trim 24 = .ok (.iconst 0, 1) := by decide +kernel
theorem dX11_trim_25 : decode cX11_trim 25 = .ok (.iastore, 1) := by decide +kernel
theorem dX11_trim_26 : decode cX11_trim 26 = .ok (.aload_n 0, 1) := by decide +kernel
theorem dX11_trim_27 : decode cX11_trim 27 = .ok (.getfield 36, 3) := by decide +kernel
theorem dX11_trim_30 : decode cX11_trim 30 = .ok (.iconst 2, 1) := by decide +kernel
theorem dX11_trim_31 : decode cX11_trim 31 = .ok (.dup2, 1) := by decide +kernel
theorem dX11_trim_32 : decode cX11_trim 32 = .ok (.iaload, 1) := by decide +kernel
theorem dX11_trim_33 : decode cX11_trim 33 = .ok (.iconst 1, 1) := by decide +kernel
theorem dX11_trim_34 : decode cX11_trim 34 = .ok (.iadd, 1) := by decide +kernel
theorem dX11_trim_35 : decode cX11_trim 35 = .ok (.iastore, 1) := by decide +kernel
theorem dX11_trim_36 : decode cX11_trim 36 = .ok (.iinc 1 1, 3) := by decide +kernel
theorem dX11_trim_39 : decode cX11_trim 39 = .ok (.iinc 2 (-1), 3) := by decide +kernel
theorem dX11_trim_42 : decode cX11_trim 42 = .ok (.goto (-30), 3) := by decide +kernel
theorem dX11_trim_45 : decode cX11_trim 45 = .ok (.iload_n 1, 1) := by decide +kernel
theorem dX11_trim_46 : decode cX11_trim 46 = .ok (.ireturn, 1) := by decide +kernel
theorem dX11_enabledFrom_0 : decode cX11_enabledFrom 0 = .ok (.iload_n 1, 1) := by decide +kernel
theorem dX11_enabledFrom_1 : decode cX11_enabledFrom 1 = .ok (.istore_n 2, 1) := by decide +kernel
theorem dX11_enabledFrom_2 : decode cX11_enabledFrom 2 = .ok (.iload_n 2, 1) := by decide +kernel
theorem dX11_enabledFrom_3 : decode cX11_enabledFrom 3 = .ok (.ifCond .lt 17, 3) := by decide +kernel
theorem dX11_enabledFrom_6 : decode cX11_enabledFrom 6 = .ok (.aload_n 0, 1) := by decide +kernel
theorem dX11_enabledFrom_7 : decode cX11_enabledFrom 7 = .ok (.iload_n 2, 1) := by decide +kernel
theorem dX11_enabledFrom_8 : decode cX11_enabledFrom 8 = .ok (.invokevirtual 102, 3) := by decide +kernel
theorem dX11_enabledFrom_11 : decode cX11_enabledFrom 11 = .ok (.ifCond .ne 9, 3) := by decide +kernel
theorem dX11_enabledFrom_14 : decode cX11_enabledFrom 14 = .ok (.iinc 2 (-1), 3) := by decide +kernel
theorem dX11_enabledFrom_17 : decode cX11_enabledFrom 17 = .ok (.goto (-15), 3) := by decide +kernel
theorem dX11_enabledFrom_20 : decode cX11_enabledFrom 20 = .ok (.iload_n 2, 1) := by decide +kernel
theorem dX11_enabledFrom_21 : decode cX11_enabledFrom 21 = .ok (.ireturn, 1) := by decide +kernel
theorem dX11_push_0 : decode cX11_push 0 = .ok (.aload_n 0, 1) := by decide +kernel
theorem dX11_push_1 : decode cX11_push 1 = .ok (.getfield 39, 3) := by decide +kernel
theorem dX11_push_4 : decode cX11_push 4 = .ok (.aload_n 0, 1) := by decide +kernel
theorem dX11_push_5 : decode cX11_push 5 = .ok (.getfield 116, 3) := by decide +kernel
theorem dX11_push_8 : decode cX11_push 8 = .ok (.iload_n 1, 1) := by decide +kernel
theorem dX11_push_9 : decode cX11_push 9 = .ok (.iastore, 1) := by decide +kernel
theorem dX11_push_10 : decode cX11_push 10 = .ok (.aload_n 0, 1) := by decide +kernel
theorem dX11_push_11 : decode cX11_push 11 = .ok (.getfield 42, 3) := by decide +kernel
theorem dX11_push_14 : decode cX11_push 14 = .ok (.aload_n 0, 1) := by decide +kernel
theorem dX11_push_15 : decode cX11_push 15 = .ok (.getfield 116, 3) := by decide +kernel
theorem dX11_push_18 : decode cX11_push 18 = .ok (.iload_n 2, 1) := by decide +kernel
theorem dX11_push_19 : decode cX11_push 19 = .ok (.iastore, 1) := by decide +kernel
theorem dX11_push_20 : decode cX11_push 20 = .ok (.aload_n 0, 1) := by decide +kernel
theorem dX11_push_21 : decode cX11_push 21 = .ok (.getfield 63, 3) := by decide +kernel
theorem dX11_push_24 : decode cX11_push 24 = .ok (.aload_n 0, 1) := by decide +kernel
theorem dX11_push_25 : decode cX11_push 25 = .ok (.getfield 116, 3) := by decide +kernel
theorem dX11_push_28 : decode cX11_push 28 = .ok (.iconst 0, 1) := by decide +kernel
theorem dX11_push_29 : decode cX11_push 29 = .ok (.bastore, 1) := by decide +kernel
theorem dX11_push_30 : decode cX11_push 30 = .ok (.aload_n 0, 1) := by decide +kernel
theorem dX11_push_31 : decode cX11_push 31 = .ok (.dup, 1) := by decide +kernel
theorem dX11_push_32 : decode cX11_push 32 = .ok (.getfield 116, 3) := by decide +kernel
theorem dX11_push_35 : decode cX11_push 35 = .ok (.iconst 1, 1) := by decide +kernel
theorem dX11_push_36 : decode cX11_push 36 = .ok (.iadd, 1) := by decide +kernel
theorem dX11_push_37 : decode cX11_push 37 = .ok (.putfield 116, 3) := by decide +kernel
theorem dX11_push_40 : decode cX11_push 40 = .ok (.return_, 1) := by decide +kernel
theorem dX11_begin_0 : decode cX11_begin 0 = .ok (.aload_n 0, 1) := by decide +kernel
theorem dX11_begin_1 : decode cX11_begin 1 = .ok (.getfield 63, 3) := by decide +kernel
theorem dX11_begin_4 : decode cX11_begin 4 = .ok (.iload_n 1, 1) := by decide +kernel
theorem dX11_begin_5 : decode cX11_begin 5 = .ok (.iconst 1, 1) := by decide +kernel
theorem dX11_begin_6 : decode cX11_begin 6 = .ok (.bastore, 1) := by decide +kernel
theorem dX11_begin_7 : decode cX11_begin 7 = .ok (.aload_n 0, 1) := by decide +kernel
theorem dX11_begin_8 : decode cX11_begin 8 = .ok (.getfield 45, 3) := by decide +kernel
theorem dX11_begin_11 : decode cX11_begin 11 = .ok (.iload_n 1, 1) := by decide +kernel
theorem dX11_begin_12 : decode cX11_begin 12 = .ok (.aload_n 0, 1) := by decide +kernel
theorem dX11_begin_13 : decode cX11_begin 13 = .ok (.aload_n 0, 1) := by decide +kernel
theorem dX11_begin_14 : decode cX11_begin 14 = .ok (.getfield 39, 3) := by decide +kernel
theorem dX11_begin_17 : decode cX11_begin 17 = .ok (.iload_n 1, 1) := by decide +kernel
theorem dX11_begin_18 : decode cX11_begin 18 = .ok (.iaload, 1) := by decide +kernel
theorem dX11_begin_19 : decode cX11_begin 19 = .ok (.iconst 1, 1) := by decide +kernel
theorem dX11_begin_20 : decode cX11_begin 20 = .ok (.isub, 1) := by decide +kernel
theorem dX11_begin_21 : decode cX11_begin 21 = .ok (.invokevirtual 119, 3) := by decide +kernel
theorem dX11_begin_24 : decode cX11_begin 24 = .ok (.iastore, 1) := by decide +kernel
theorem dX11_begin_25 : decode cX11_begin 25 = .ok (.aload_n 0, 1) := by decide +kernel
theorem dX11_begin_26 : decode cX11_begin 26 = .ok (.aload_n 0, 1) := by decide +kernel
theorem dX11_begin_27 : decode cX11_begin 27 = .ok (.getfield 39, 3) := by decide +kernel
theorem dX11_begin_30 : decode cX11_begin 30 = .ok (.iload_n 1, 1) := by decide +kernel
theorem dX11_begin_31 : decode cX11_begin 31 = .ok (.iaload, 1) := by decide +kernel
theorem dX11_begin_32 : decode cX11_begin 32 = .ok (.invokevirtual 106, 3) := by decide +kernel
theorem dX11_begin_35 : decode cX11_begin 35 = .ok (.istore_n 2, 1) := by decide +kernel
theorem dX11_begin_36 : decode cX11_begin 36 = .ok (.aload_n 0, 1) := by decide +kernel
theorem dX11_begin_37 : decode cX11_begin 37 = .ok (.getfield 42, 3) := by decide +kernel
theorem dX11_begin_40 : decode cX11_begin 40 = .ok (.iload_n 1, 1) := by decide +kernel
theorem dX11_begin_41 : decode cX11_begin 41 = .ok (.iaload, 1) := by decide +kernel
theorem dX11_begin_42 : decode cX11_begin 42 = .ok (.bipush 8, 2) := by decide +kernel
theorem dX11_begin_44 : decode cX11_begin 44 = .ok (.irem, 1) := by decide +kernel
theorem dX11_begin_45 : decode cX11_begin 45 = .ok (.istore_n 3, 1) := by decide +kernel
theorem dX11_begin_46 : decode cX11_begin 46 = .ok (.aload_n 0, 1) := by decide +kernel
theorem dX11_begin_47 : decode cX11_begin 47 = .ok (.getfield 42, 3) := by decide +kernel
theorem dX11_begin_50 : decode cX11_begin 50 = .ok (.iload_n 1, 1) := by decide +kernel
theorem dX11_begin_51 : decode cX11_begin 51 = .ok (.iaload, 1) := by decide +kernel
theorem dX11_begin_52 : decode cX11_begin 52 = .ok (.bipush 8, 2) := by decide +kernel
theorem dX11_begin_54 : decode cX11_begin 54 = .ok (.idiv, 1) := by decide +kernel
theorem dX11_begin_55 : decode cX11_begin 55 = .ok (.istore 4, 2) := by decide +kernel
theorem dX11_begin_57 : decode cX11_begin 57 = .ok (.iload_n 3, 1) := by decide +kernel
theorem dX11_begin_58 : decode cX11_begin 58 = .ok (.aload_n 0, 1) := by decide +kernel
theorem dX11_begin_59 : decode cX11_begin 59 = .ok (.getfield 26, 3) := by decide +kernel
theorem dX11_begin_62 : decode cX11_begin 62 = .ok (.imul, 1) := by decide +kernel
theorem dX11_begin_63 : decode cX11_begin 63 = .ok (.iload_n 2, 1) := by decide +kernel
theorem dX11_begin_64 : decode cX11_begin 64 = .ok (.isub, 1) := by decide +kernel
theorem dX11_begin_65 : decode cX11_begin 65 = .ok (.istore 5, 2) := by decide +kernel
theorem dX11_begin_67 : decode cX11_begin 67 = .ok (.iload 4, 2) := by decide +kernel
theorem dX11_begin_69 : decode cX11_begin 69 = .ok (.aload_n 0, 1) := by decide +kernel
theorem dX11_begin_70 : decode cX11_begin 70 = .ok (.getfield 26, 3) := by decide +kernel
theorem dX11_begin_73 : decode cX11_begin 73 = .ok (.imul, 1) := by decide +kernel
theorem dX11_begin_74 : decode cX11_begin 74 = .ok (.iload_n 2, 1) := by decide +kernel
theorem dX11_begin_75 : decode cX11_begin 75 = .ok (.isub, 1) := by decide +kernel
theorem dX11_begin_76 : decode cX11_begin 76 = .ok (.istore 6, 2) := by decide +kernel
theorem dX11_begin_78 : decode cX11_begin 78 = .ok (.iload_n 3, 1) := by decide +kernel
theorem dX11_begin_79 : decode cX11_begin 79 = .ok (.aload_n 0, 1) := by decide +kernel
theorem dX11_begin_80 : decode cX11_begin 80 = .ok (.getfield 26, 3) := by decide +kernel
theorem dX11_begin_83 : decode cX11_begin 83 = .ok (.imul, 1) := by decide +kernel
theorem dX11_begin_84 : decode cX11_begin 84 = .ok (.aload_n 0, 1) := by decide +kernel
theorem dX11_begin_85 : decode cX11_begin 85 = .ok (.getfield 26, 3) := by decide +kernel
theorem dX11_begin_88 : decode cX11_begin 88 = .ok (.iadd, 1) := by decide +kernel
theorem dX11_begin_89 : decode cX11_begin 89 = .ok (.iconst 1, 1) := by decide +kernel
theorem dX11_begin_90 : decode cX11_begin 90 = .ok (.isub, 1) := by decide +kernel
theorem dX11_begin_91 : decode cX11_begin 91 = .ok (.istore 7, 2) := by decide +kernel
theorem dX11_begin_93 : decode cX11_begin 93 = .ok (.iload 4, 2) := by decide +kernel
theorem dX11_begin_95 : decode cX11_begin 95 = .ok (.aload_n 0, 1) := by decide +kernel
theorem dX11_begin_96 : decode cX11_begin 96 = .ok (.getfield 26, 3) := by decide +kernel
theorem dX11_begin_99 : decode cX11_begin 99 = .ok (.imul, 1) := by decide +kernel
theorem dX11_begin_100 : decode cX11_begin 100 = .ok (.aload_n 0, 1) := by decide +kernel
