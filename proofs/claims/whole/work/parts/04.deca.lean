theorem dX0_init_0 : decode cX0_init 0 = .ok (.aload_n 0, 1) := by decide +kernel
theorem dX0_init_1 : decode cX0_init 1 = .ok (.invokespecial 3, 3) := by decide +kernel
theorem dX0_init_4 : decode cX0_init 4 = .ok (.aload_n 0, 1) := by decide +kernel
theorem dX0_init_5 : decode cX0_init 5 = .ok (.bipush 12, 2) := by decide +kernel
theorem dX0_init_7 : decode cX0_init 7 = .ok (.newarray .int, 2) := by decide +kernel
theorem dX0_init_9 : decode cX0_init 9 = .ok (.putfield 9, 3) := by decide +kernel
theorem dX0_init_12 : decode cX0_init 12 = .ok (.aload_n 0, 1) := by decide +kernel
theorem dX0_init_13 : decode cX0_init 13 = .ok (.iconst 4, 1) := by decide +kernel
theorem dX0_init_14 : decode cX0_init 14 = .ok (.newarray .int, 2) := by decide +kernel
theorem dX0_init_16 : decode cX0_init 16 = .ok (.putfield 15, 3) := by decide +kernel
theorem dX0_init_19 : decode cX0_init 19 = .ok (.aload_n 0, 1) := by decide +kernel
theorem dX0_init_20 : decode cX0_init 20 = .ok (.iconst 0, 1) := by decide +kernel
theorem dX0_init_21 : decode cX0_init 21 = .ok (.invokevirtual 18, 3) := by decide +kernel
theorem dX0_init_24 : decode cX0_init 24 = .ok (.return_, 1) := by decide +kernel
theorem dX0_clear_0 : decode cX0_clear 0 = .ok (.iconst 0, 1) := by decide +kernel
theorem dX0_clear_1 : decode cX0_clear 1 = .ok (.istore_n 2, 1) := by decide +kernel
theorem dX0_clear_2 : decode cX0_clear 2 = .ok (.iload_n 2, 1) := by decide +kernel
theorem dX0_clear_3 : decode cX0_clear 3 = .ok (.iconst 4, 1) := by decide +kernel
theorem dX0_clear_4 : decode cX0_clear 4 = .ok (.if_icmp .ge 18, 3) := by decide +kernel
theorem dX0_clear_7 : decode cX0_clear 7 = .ok (.aload_n 0, 1) := by decide +kernel
theorem dX0_clear_8 : decode cX0_clear 8 = .ok (.getfield 15, 3) := by decide +kernel
theorem dX0_clear_11 : decode cX0_clear 11 = .ok (.iload_n 2, 1) := by decide +kernel
theorem dX0_clear_12 : decode cX0_clear 12 = .ok (.iconst 0, 1) := by decide +kernel
theorem dX0_clear_13 : decode cX0_clear 13 = .ok (.invokestatic 22, 3) := by decide +kernel
theorem dX0_clear_16 : decode cX0_clear 16 = .ok (.iinc 2 1, 3) := by decide +kernel
theorem dX0_clear_19 : decode cX0_clear 19 = .ok (.goto (-17), 3) := by decide +kernel
theorem dX0_clear_22 : decode cX0_clear 22 = .ok (.aload_n 0, 1) := by decide +kernel
theorem dX0_clear_23 : decode cX0_clear 23 = .ok (.iconst 0, 1) := by decide +kernel
theorem dX0_clear_24 : decode cX0_clear 24 = .ok (.putfield 26, 3) := by decide +kernel
theorem dX0_clear_27 : decode cX0_clear 27 = .ok (.aload_n 0, 1) := by decide +kernel
theorem dX0_clear_28 : decode cX0_clear 28 = .ok (.iconst 0, 1) := by decide +kernel
theorem dX0_clear_29 : decode cX0_clear 29 = .ok (.putfield 30, 3) := by decide +kernel
theorem dX0_clear_32 : decode cX0_clear 32 = .ok (.aload_n 0, 1) := by decide +kernel
theorem dX0_clear_33 : decode cX0_clear 33 = .ok (.iload_n 1, 1) := by decide +kernel
theorem dX0_clear_34 : decode cX0_clear 34 = .ok (.putfield 33, 3) := by decide +kernel
theorem dX0_clear_37 : decode cX0_clear 37 = .ok (.aload_n 0, 1) := by decide +kernel
theorem dX0_clear_38 : decode cX0_clear 38 = .ok (.iconst 0, 1) := by decide +kernel
theorem dX0_clear_39 : decode cX0_clear 39 = .ok (.putfield 36, 3) := by decide +kernel
theorem dX0_clear_42 : decode cX0_clear 42 = .ok (.aload_n 0, 1) := by decide +kernel
theorem dX0_clear_43 : decode cX0_clear 43 = .ok (.iconst 0, 1) := by decide +kernel
theorem dX0_clear_44 : decode cX0_clear 44 = .ok (.putfield 39, 3) := by decide +kernel
theorem dX0_clear_47 : decode cX0_clear 47 = .ok (.aload_n 0, 1) := by decide +kernel
theorem dX0_clear_48 : decode cX0_clear 48 = .ok (.iconst 0, 1) := by decide +kernel
theorem dX0_clear_49 : decode cX0_clear 49 = .ok (.putfield 42, 3) := by decide +kernel
theorem dX0_clear_52 : decode cX0_clear 52 = .ok (.return_, 1) := by decide +kernel
theorem dX0_copyFrom_0 : decode cX0_copyFrom 0 = .ok (.aload_n 1, 1) := by decide +kernel
theorem dX0_copyFrom_1 : decode cX0_copyFrom 1 = .ok (.getfield 9, 3) := by decide +kernel
theorem dX0_copyFrom_4 : decode cX0_copyFrom 4 = .ok (.aload_n 0, 1) := by decide +kernel
theorem dX0_copyFrom_5 : decode cX0_copyFrom 5 = .ok (.getfield 9, 3) := by decide +kernel
theorem dX0_copyFrom_8 : decode cX0_copyFrom 8 = .ok (.invokestatic 45, 3) := by decide +kernel
theorem dX0_copyFrom_11 : decode cX0_copyFrom 11 = .ok (.aload_n 1, 1) := by decide +kernel
theorem dX0_copyFrom_12 : decode cX0_copyFrom 12 = .ok (.getfield 15, 3) := by decide +kernel
theorem dX0_copyFrom_15 : decode cX0_copyFrom 15 = .ok (.aload_n 0, 1) := by decide +kernel
theorem dX0_copyFrom_16 : decode cX0_copyFrom 16 = .ok (.getfield 15, 3) := by decide +kernel
theorem dX0_copyFrom_19 : decode cX0_copyFrom 19 = .ok (.invokestatic 45, 3) := by decide +kernel
theorem dX0_copyFrom_22 : decode cX0_copyFrom 22 = .ok (.aload_n 0, 1) := by decide +kernel
theorem dX0_copyFrom_23 : decode cX0_copyFrom 23 = .ok (.aload_n 1, 1) := by decide +kernel
theorem dX0_copyFrom_24 : decode cX0_copyFrom 24 = .ok (.getfield 26, 3) := by decide +kernel
theorem dX0_copyFrom_27 : decode cX0_copyFrom 27 = .ok (.putfield 26, 3) := by decide +kernel
theorem dX0_copyFrom_30 : decode cX0_copyFrom 30 = .ok (.aload_n 0, 1) := by decide +kernel
theorem dX0_copyFrom_31 : decode cX0_copyFrom 31 = .ok (.aload_n 1, 1) := by decide +kernel
theorem dX0_copyFrom_32 : decode cX0_copyFrom 32 = .ok (.getfield 30, 3) := by decide +kernel
theorem dX0_copyFrom_35 : decode cX0_copyFrom 35 = .ok (.putfield 30, 3) := by decide +kernel
theorem dX0_copyFrom_38 : decode cX0_copyFrom 38 = .ok (.aload_n 0, 1) := by decide +kernel
theorem dX0_copyFrom_39 : decode cX0_copyFrom 39 = .ok (.aload_n 1, 1) := by decide +kernel
theorem dX0_copyFrom_40 : decode cX0_copyFrom 40 = .ok (.getfield 33, 3) := by decide +kernel
theorem dX0_copyFrom_43 : decode cX0_copyFrom 43 = .ok (.putfield 33, 3) := by decide +kernel
theorem dX0_copyFrom_46 : decode cX0_copyFrom 46 = .ok (.aload_n 0, 1) := by decide +kernel
theorem dX0_copyFrom_47 : decode cX0_copyFrom 47 = .ok (.aload_n 1, 1) := by decide +kernel
theorem dX0_copyFrom_48 : decode cX0_copyFrom 48 = .ok (.getfield 36, 3) := by decide +kernel
theorem dX0_copyFrom_51 : decode cX0_copyFrom 51 = .ok (.putfield 36, 3) := by decide +kernel
theorem dX0_copyFrom_54 : decode cX0_copyFrom 54 = .ok (.aload_n 0, 1) := by decide +kernel
theorem dX0_copyFrom_55 : decode cX0_copyFrom 55 = .ok (.aload_n 1, 1) := by decide +kernel
theorem dX0_copyFrom_56 : decode cX0_copyFrom 56 = .ok (.getfield 39, 3) := by decide +kernel
theorem dX0_copyFrom_59 : decode cX0_copyFrom 59 = .ok (.putfield 39, 3) := by decide +kernel
theorem dX0_copyFrom_62 : decode cX0_copyFrom 62 = .ok (.aload_n 0, 1) := by decide +kernel
theorem dX0_copyFrom_63 : decode cX0_copyFrom 63 = .ok (.aload_n 1, 1) := by decide +kernel
theorem dX0_copyFrom_64 : decode cX0_copyFrom 64 = .ok (.getfield 42, 3) := by decide +kernel
theorem dX0_copyFrom_67 : decode cX0_copyFrom 67 = .ok (.putfield 42, 3) := by decide +kernel
theorem dX0_copyFrom_70 : decode cX0_copyFrom 70 = .ok (.return_, 1) := by decide +kernel
theorem dX0_isCovered_0 : decode cX0_isCovered 0 = .ok (.aload_n 0, 1) := by decide +kernel
theorem dX0_isCovered_1 : decode cX0_isCovered 1 = .ok (.getfield 30, 3) := by decide +kernel
theorem dX0_isCovered_4 : decode cX0_isCovered 4 = .ok (.aload_n 1, 1) := by decide +kernel
theorem dX0_isCovered_5 : decode cX0_isCovered 5 = .ok (.getfield 49, 3) := by decide +kernel
theorem dX0_isCovered_8 : decode cX0_isCovered 8 = .ok (.if_icmp .lt 7, 3) := by decide +kernel
theorem dX0_isCovered_11 : decode cX0_isCovered 11 = .ok (.iconst 1, 1) := by decide +kernel
theorem dX0_isCovered_12 : decode cX0_isCovered 12 = .ok (.goto 4, 3) := by decide +kernel
theorem dX0_isCovered_15 : decode cX0_isCovered 15 = .ok (.iconst 0, 1) := by decide +kernel
theorem dX0_isCovered_16 : decode cX0_isCovered 16 = .ok (.ireturn, 1) := by decide +kernel
theorem dX0_canCut_0 : decode cX0_canCut 0 = .ok (.iload_n 2, 1) := by decide +kernel
theorem dX0_canCut_1 : decode cX0_canCut 1 = .ok (.aload_n 1, 1) := by decide +kernel
theorem dX0_canCut_2 : decode cX0_canCut 2 = .ok (.getfield 54, 3) := by decide +kernel
theorem dX0_canCut_5 : decode cX0_canCut 5 = .ok (.if_icmp .gt 36, 3) := by decide +kernel
theorem dX0_canCut_8 : decode cX0_canCut 8 = .ok (.iload_n 2, 1) := by decide +kernel
theorem dX0_canCut_9 : decode cX0_canCut 9 = .ok (.aload_n 1, 1) := by decide +kernel
theorem dX0_canCut_10 : decode cX0_canCut 10 = .ok (.getfield 49, 3) := by decide +kernel
theorem dX0_canCut_13 : decode cX0_canCut 13 = .ok (.aload_n 0, 1) := by decide +kernel
theorem dX0_canCut_14 : decode cX0_canCut 14 = .ok (.getfield 30, 3) := by decide +kernel
theorem dX0_canCut_17 : decode cX0_canCut 17 = .ok (.isub, 1) := by decide +kernel
theorem dX0_canCut_18 : decode cX0_canCut 18 = .ok (.if_icmp .gt 23, 3) := by decide +kernel
theorem dX0_canCut_21 : decode cX0_canCut 21 = .ok (.aload_n 1, 1) := by decide +kernel
theorem dX0_canCut_22 : decode cX0_canCut 22 = .ok (.aload_n 0, 1) := by decide +kernel
theorem dX0_canCut_23 : decode cX0_canCut 23 = .ok (.getfield 30, 3) := by decide +kernel
theorem dX0_canCut_26 : decode cX0_canCut 26 = .ok (.iload_n 2, 1) := by decide +kernel
theorem dX0_canCut_27 : decode cX0_canCut 27 = .ok (.invokevirtual 57, 3) := by decide +kernel
theorem dX0_canCut_30 : decode cX0_canCut 30 = .ok (.aload_n 0, 1) := by decide +kernel
theorem dX0_canCut_31 : decode cX0_canCut 31 = .ok (.getfield 33, 3) := by decide +kernel
theorem dX0_canCut_34 : decode cX0_canCut 34 = .ok (.if_icmp .gt 7, 3) := by decide +kernel
theorem dX0_canCut_37 : decode cX0_canCut 37 = .ok (.iconst 1, 1) := by decide +kernel
theorem dX0_canCut_38 : decode cX0_canCut 38 = .ok (.goto 4, 3) := by decide +kernel
theorem dX0_canCut_41 : decode cX0_canCut 41 = .ok (.iconst 0, 1) := by decide +kernel
theorem dX0_canCut_42 : decode cX0_canCut 42 = .ok (.ireturn, 1) := by decide +kernel
theorem dX0_cutFor_0 : decode cX0_cutFor 0 = .ok (.aload_n 1, 1) := by decide +kernel
theorem dX0_cutFor_1 : decode cX0_cutFor 1 = .ok (.aload_n 0, 1) := by decide +kernel
theorem dX0_cutFor_2 : decode cX0_cutFor 2 = .ok (.getfield 30, 3) := by decide +kernel
theorem dX0_cutFor_5 : decode cX0_cutFor 5 = .ok (.iload_n 2, 1) := by decide +kernel
theorem dX0_cutFor_6 : decode cX0_cutFor 6 = .ok (.invokevirtual 57, 3) := by decide +kernel
theorem dX0_cutFor_9 : decode cX0_cutFor 9 = .ok (.istore_n 3, 1) := by decide +kernel
theorem dX0_cutFor_10 : decode cX0_cutFor 10 = .ok (.aload_n 0, 1) := by decide +kernel
theorem dX0_cutFor_11 : decode cX0_cutFor 11 = .ok (.getfield 9, 3) := by decide +kernel
theorem dX0_cutFor_14 : decode cX0_cutFor 14 = .ok (.aload_n 0, 1) := by decide +kernel
theorem dX0_cutFor_15 : decode cX0_cutFor 15 = .ok (.getfield 26, 3) := by decide +kernel
theorem dX0_cutFor_18 : decode cX0_cutFor 18 = .ok (.iload_n 2, 1) := by decide +kernel
theorem dX0_cutFor_19 : decode cX0_cutFor 19 = .ok (.invokestatic 22, 3) := by decide +kernel
theorem dX0_cutFor_22 : decode cX0_cutFor 22 = .ok (.aload_n 0, 1) := by decide +kernel
theorem dX0_cutFor_23 : decode cX0_cutFor 23 = .ok (.dup, 1) := by decide +kernel
theorem dX0_cutFor_24 : decode cX0_cutFor 24 = .ok (.getfield 26, 3) := by decide +kernel
theorem dX0_cutFor_27 : decode cX0_cutFor 27 = .ok (.iconst 1, 1) := by decide +kernel
theorem dX0_cutFor_28 : decode cX0_cutFor 28 = .ok (.iadd, 1) := by decide +kernel
theorem dX0_cutFor_29 : decode cX0_cutFor 29 = .ok (.putfield 26, 3) := by decide +kernel
theorem dX0_cutFor_32 : decode cX0_cutFor 32 = .ok (.aload_n 0, 1) := by decide +kernel
theorem dX0_cutFor_33 : decode cX0_cutFor 33 = .ok (.dup, 1) := by decide +kernel
theorem dX0_cutFor_34 : decode cX0_cutFor 34 = .ok (.getfield 30, 3) := by decide +kernel
theorem dX0_cutFor_37 : decode cX0_cutFor 37 = .ok (.iload_n 2, 1) := by decide +kernel
theorem dX0_cutFor_38 : decode cX0_cutFor 38 = .ok (.iadd, 1) := by decide +kernel
theorem dX0_cutFor_39 : decode cX0_cutFor 39 = .ok (.putfield 30, 3) := by decide +kernel
theorem dX0_cutFor_42 : decode cX0_cutFor 42 = .ok (.aload_n 0, 1) := by decide +kernel
theorem dX0_cutFor_43 : decode cX0_cutFor 43 = .ok (.dup, 1) := by decide +kernel
theorem dX0_cutFor_44 : decode cX0_cutFor 44 = .ok (.getfield 33, 3) := by decide +kernel
theorem dX0_cutFor_47 : decode cX0_cutFor 47 = .ok (.iload_n 3, 1) := by decide +kernel
theorem dX0_cutFor_48 : decode cX0_cutFor 48 = .ok (.isub, 1) := by decide +kernel
theorem dX0_cutFor_49 : decode cX0_cutFor 49 = .ok (.putfield 33, 3) := by decide +kernel
theorem dX0_cutFor_52 : decode cX0_cutFor 52 = .ok (.iload_n 3, 1) := by decide +kernel
theorem dX0_cutFor_53 : decode cX0_cutFor 53 = .ok (.ireturn, 1) := by decide +kernel
theorem dX0_lengthOver_0 : decode cX0_lengthOver 0 = .ok (.iconst 0, 1) := by decide +kernel
theorem dX0_lengthOver_1 : decode cX0_lengthOver 1 = .ok (.istore_n 2, 1) := by decide +kernel
theorem dX0_lengthOver_2 : decode cX0_lengthOver 2 = .ok (.iconst 0, 1) := by decide +kernel
theorem dX0_lengthOver_3 : decode cX0_lengthOver 3 = .ok (.istore_n 3, 1) := by decide +kernel
theorem dX0_lengthOver_4 : decode cX0_lengthOver 4 = .ok (.iload_n 3, 1) := by decide +kernel
theorem dX0_lengthOver_5 : decode cX0_lengthOver 5 = .ok (.aload_n 0, 1) := by decide +kernel
theorem dX0_lengthOver_6 : decode cX0_lengthOver 6 = .ok (.getfield 26, 3) := by decide +kernel
theorem dX0_lengthOver_9 : decode cX0_lengthOver 9 = .ok (.if_icmp .ge 27, 3) := by decide +kernel
theorem dX0_lengthOver_12 : decode cX0_lengthOver 12 = .ok (.iload_n 2, 1) := by decide +kernel
theorem dX0_lengthOver_13 : decode cX0_lengthOver 13 = .ok (.aload_n 0, 1) := by decide +kernel
theorem dX0_lengthOver_14 : decode cX0_lengthOver 14 = .ok (.getfield 9, 3) := by decide +kernel
theorem dX0_lengthOver_17 : decode cX0_lengthOver 17 = .ok (.iload_n 3, 1) := by decide +kernel
theorem dX0_lengthOver_18 : decode cX0_lengthOver 18 = .ok (.invokestatic 61, 3) := by decide +kernel
theorem dX0_lengthOver_21 : decode cX0_lengthOver 21 = .ok (.iadd, 1) := by decide +kernel
theorem dX0_lengthOver_22 : decode cX0_lengthOver 22 = .ok (.istore_n 2, 1) := by decide +kernel
theorem dX0_lengthOver_23 : decode cX0_lengthOver 23 = .ok (.iload_n 1, 1) := by decide +kernel
theorem dX0_lengthOver_24 : decode cX0_lengthOver 24 = .ok (.iload_n 2, 1) := by decide +kernel
theorem dX0_lengthOver_25 : decode cX0_lengthOver 25 = .ok (.if_icmp .ge 5, 3) := by decide +kernel
theorem dX0_lengthOver_28 : decode cX0_lengthOver 28 = .ok (.iload_n 3, 1) := by decide +kernel
theorem dX0_lengthOver_29 : decode cX0_lengthOver 29 = .ok (.ireturn, 1) := by decide +kernel
theorem dX0_lengthOver_30 : decode cX0_lengthOver 30 = .ok (.iinc 3 1, 3) := by decide +kernel
theorem dX0_lengthOver_33 : decode cX0_lengthOver 33 = .ok (.goto (-29), 3) := by decide +kernel
theorem dX0_lengthOver_36 : decode cX0_lengthOver 36 = .ok (.bipush (-4), 2) := by decide +kernel
theorem dX0_lengthOver_38 : decode cX0_lengthOver 38 = .ok (.ireturn, 1) := by decide +kernel
theorem dX0_isSeamAt_0 : decode cX0_isSeamAt 0 = .ok (.aload_n 0, 1) := by decide +kernel
theorem dX0_isSeamAt_1 : decode cX0_isSeamAt 1 = .ok (.iload_n 1, 1) := by decide +kernel
theorem dX0_isSeamAt_2 : decode cX0_isSeamAt 2 = .ok (.invokevirtual 65, 3) := by decide +kernel
theorem dX0_isSeamAt_5 : decode cX0_isSeamAt 5 = .ok (.istore_n 2, 1) := by decide +kernel
theorem dX0_isSeamAt_6 : decode cX0_isSeamAt 6 = .ok (.aload_n 0, 1) := by decide +kernel
theorem dX0_isSeamAt_7 : decode cX0_isSeamAt 7 = .ok (.iload_n 1, 1) := by decide +kernel
theorem dX0_isSeamAt_8 : decode cX0_isSeamAt 8 = .ok (.iconst 1, 1) := by decide +kernel
theorem dX0_isSeamAt_9 : decode cX0_isSeamAt 9 = .ok (.iadd, 1) := by decide +kernel
theorem dX0_isSeamAt_10 : decode cX0_isSeamAt 10 = .ok (.invokevirtual 65, 3) := by decide +kernel
theorem dX0_isSeamAt_13 : decode cX0_isSeamAt 13 = .ok (.istore_n 3, 1) := by decide +kernel
theorem dX0_isSeamAt_14 : decode cX0_isSeamAt 14 = .ok (.iload_n 2, 1) := by decide +kernel
theorem dX0_isSeamAt_15 : decode cX0_isSeamAt 15 = .ok (.bipush (-4), 2) := by decide +kernel
theorem dX0_isSeamAt_17 : decode cX0_isSeamAt 17 = .ok (.if_icmp .eq 18, 3) := by decide +kernel
theorem dX0_isSeamAt_20 : decode cX0_isSeamAt 20 = .ok (.iload_n 3, 1) := by decide +kernel
theorem dX0_isSeamAt_21 : decode cX0_isSeamAt 21 = .ok (.bipush (-4), 2) := by decide +kernel
theorem dX0_isSeamAt_23 : decode cX0_isSeamAt 23 = .ok (.if_icmp .eq 12, 3) := by decide +kernel
theorem dX0_isSeamAt_26 : decode cX0_isSeamAt 26 = .ok (.iload_n 2, 1) := by decide +kernel
theorem dX0_isSeamAt_27 : decode cX0_isSeamAt 27 = .ok (.iload_n 3, 1) := by decide +kernel
theorem dX0_isSeamAt_28 : decode cX0_isSeamAt 28 = .ok (.if_icmp .eq 7, 3) := by decide +kernel
theorem dX0_isSeamAt_31 : decode cX0_isSeamAt 31 = .ok (.iconst 1, 1) := by decide +kernel
theorem dX0_isSeamAt_32 : decode cX0_isSeamAt 32 = .ok (.goto 4, 3) := by decide +kernel
theorem dX0_isSeamAt_35 : decode cX0_isSeamAt 35 = .ok (.iconst 0, 1) := by decide +kernel
theorem dX0_isSeamAt_36 : decode cX0_isSeamAt 36 = .ok (.ireturn, 1) := by decide +kernel
theorem dX0_hasRestFor_0 : decode cX0_hasRestFor 0 = .ok (.iconst 0, 1) := by decide +kernel
theorem dX0_hasRestFor_1 : decode cX0_hasRestFor 1 = .ok (.istore 4, 2) := by decide +kernel
theorem dX0_hasRestFor_3 : decode cX0_hasRestFor 3 = .ok (.iconst 0, 1) := by decide +kernel
theorem dX0_hasRestFor_4 : decode cX0_hasRestFor 4 = .ok (.istore 5, 2) := by decide +kernel
theorem dX0_hasRestFor_6 : decode cX0_hasRestFor 6 = .ok (.iload 5, 2) := by decide +kernel
theorem dX0_hasRestFor_8 : decode cX0_hasRestFor 8 = .ok (.aload_n 0, 1) := by decide +kernel
theorem dX0_hasRestFor_9 : decode cX0_hasRestFor 9 = .ok (.getfield 26, 3) := by decide +kernel
theorem dX0_hasRestFor_12 : decode cX0_hasRestFor 12 = .ok (.if_icmp .ge 52, 3) := by decide +kernel
theorem dX0_hasRestFor_15 : decode cX0_hasRestFor 15 = .ok (.aload_n 0, 1) := by decide +kernel
theorem dX0_hasRestFor_16 : decode cX0_hasRestFor 16 = .ok (.getfield 9, 3) := by decide +kernel
theorem dX0_hasRestFor_19 : decode cX0_hasRestFor 19 = .ok (.iload 5, 2) := by decide +kernel
theorem dX0_hasRestFor_21 : decode cX0_hasRestFor 21 = .ok (.invokestatic 61, 3) := by decide +kernel
theorem dX0_hasRestFor_24 : decode cX0_hasRestFor 24 = .ok (.istore 6, 2) := by decide +kernel
theorem dX0_hasRestFor_26 : decode cX0_hasRestFor 26 = .ok (.aload_n 1, 1) := by decide +kernel
theorem dX0_hasRestFor_27 : decode cX0_hasRestFor 27 = .ok (.getfield 54, 3) := by decide +kernel
theorem dX0_hasRestFor_30 : decode cX0_hasRestFor 30 = .ok (.iload 6, 2) := by decide +kernel
theorem dX0_hasRestFor_32 : decode cX0_hasRestFor 32 = .ok (.isub, 1) := by decide +kernel
theorem dX0_hasRestFor_33 : decode cX0_hasRestFor 33 = .ok (.iload_n 2, 1) := by decide +kernel
theorem dX0_hasRestFor_34 : decode cX0_hasRestFor 34 = .ok (.if_icmp .lt 17, 3) := by decide +kernel
theorem dX0_hasRestFor_37 : decode cX0_hasRestFor 37 = .ok (.aload_n 1, 1) := by decide +kernel
theorem dX0_hasRestFor_38 : decode cX0_hasRestFor 38 = .ok (.iload 4, 2) := by decide +kernel
theorem dX0_hasRestFor_40 : decode cX0_hasRestFor 40 = .ok (.iload 6, 2) := by decide +kernel
theorem dX0_hasRestFor_42 : decode cX0_hasRestFor 42 = .ok (.invokevirtual 57, 3) := by decide +kernel
theorem dX0_hasRestFor_45 : decode cX0_hasRestFor 45 = .ok (.iload_n 3, 1) := by decide +kernel
theorem dX0_hasRestFor_46 : decode cX0_hasRestFor 46 = .ok (.if_icmp .lt 5, 3) := by decide +kernel
theorem dX0_hasRestFor_49 : decode cX0_hasRestFor 49 = .ok (.iconst 1, 1) := by decide +kernel
theorem dX0_hasRestFor_50 : decode cX0_hasRestFor 50 = .ok (.ireturn, 1) := by decide +kernel
theorem dX0_hasRestFor_51 : decode cX0_hasRestFor 51 = .ok (.iload 4, 2) := by decide +kernel
theorem dX0_hasRestFor_53 : decode cX0_hasRestFor 53 = .ok (.iload 6, 2) := by decide +kernel
theorem dX0_hasRestFor_55 : decode cX0_hasRestFor 55 = .ok (.iadd, 1) := by decide +kernel
theorem dX0_hasRestFor_56 : decode cX0_hasRestFor 56 = .ok (.istore 4, 2) := by decide +kernel
theorem dX0_hasRestFor_58 : decode cX0_hasRestFor 58 = .ok (.iinc 5 1, 3) := by decide +kernel
theorem dX0_hasRestFor_61 : decode cX0_hasRestFor 61 = .ok (.goto (-55), 3) := by decide +kernel
theorem dX0_hasRestFor_64 : decode cX0_hasRestFor 64 = .ok (.iconst 0, 1) := by decide +kernel
theorem dX0_hasRestFor_65 : decode cX0_hasRestFor 65 = .ok (.ireturn, 1) := by decide +kernel
theorem dX0_areaOfRests_0 : decode cX0_areaOfRests 0 = .ok (.iconst 0, 1) := by decide +kernel
theorem dX0_areaOfRests_1 : decode cX0_areaOfRests 1 = .ok (.istore_n 2, 1) := by decide +kernel
theorem dX0_areaOfRests_2 : decode cX0_areaOfRests 2 = .ok (.iconst 0, 1) := by decide +kernel
theorem dX0_areaOfRests_3 : decode cX0_areaOfRests 3 = .ok (.istore_n 3, 1) := by decide +kernel
theorem dX0_areaOfRests_4 : decode cX0_areaOfRests 4 = .ok (.iconst 0, 1) := by decide +kernel
theorem dX0_areaOfRests_5 : decode cX0_areaOfRests 5 = .ok (.istore 4, 2) := by decide +kernel
theorem dX0_areaOfRests_7 : decode cX0_areaOfRests 7 = .ok (.iload 4, 2) := by decide +kernel
theorem dX0_areaOfRests_9 : decode cX0_areaOfRests 9 = .ok (.aload_n 0, 1) := by decide +kernel
theorem dX0_areaOfRests_10 : decode cX0_areaOfRests 10 = .ok (.getfield 26, 3) := by decide +kernel
theorem dX0_areaOfRests_13 : decode cX0_areaOfRests 13 = .ok (.if_icmp .ge 43, 3) := by decide +kernel
theorem dX0_areaOfRests_16 : decode cX0_areaOfRests 16 = .ok (.aload_n 0, 1) := by decide +kernel
theorem dX0_areaOfRests_17 : decode cX0_areaOfRests 17 = .ok (.getfield 9, 3) := by decide +kernel
theorem dX0_areaOfRests_20 : decode cX0_areaOfRests 20 = .ok (.iload 4, 2) := by decide +kernel
theorem dX0_areaOfRests_22 : decode cX0_areaOfRests 22 = .ok (.invokestatic 61, 3) := by decide +kernel
theorem dX0_areaOfRests_25 : decode cX0_areaOfRests 25 = .ok (.istore 5, 2) := by decide +kernel
theorem dX0_areaOfRests_27 : decode cX0_areaOfRests 27 = .ok (.iload_n 3, 1) := by decide +kernel
theorem dX0_areaOfRests_28 : decode cX0_areaOfRests 28 = .ok (.aload_n 1, 1) := by decide +kernel
theorem dX0_areaOfRests_29 : decode cX0_areaOfRests 29 = .ok (.getfield 54, 3) := by decide +kernel
theorem dX0_areaOfRests_32 : decode cX0_areaOfRests 32 = .ok (.iload 5, 2) := by decide +kernel
theorem dX0_areaOfRests_34 : decode cX0_areaOfRests 34 = .ok (.isub, 1) := by decide +kernel
theorem dX0_areaOfRests_35 : decode cX0_areaOfRests 35 = .ok (.aload_n 1, 1) := by decide +kernel
theorem dX0_areaOfRests_36 : decode cX0_areaOfRests 36 = .ok (.iload_n 2, 1) := by decide +kernel
theorem dX0_areaOfRests_37 : decode cX0_areaOfRests 37 = .ok (.iload 5, 2) := by decide +kernel
theorem dX0_areaOfRests_39 : decode cX0_areaOfRests 39 = .ok (.invokevirtual 57, 3) := by decide +kernel
theorem dX0_areaOfRests_42 : decode cX0_areaOfRests 42 = .ok (.imul, 1) := by decide +kernel
theorem dX0_areaOfRests_43 : decode cX0_areaOfRests 43 = .ok (.iadd, 1) := by decide +kernel
theorem dX0_areaOfRests_44 : decode cX0_areaOfRests 44 = .ok (.istore_n 3, 1) := by decide +kernel
theorem dX0_areaOfRests_45 : decode cX0_areaOfRests 45 = .ok (.iload_n 2, 1) := by decide +kernel
theorem dX0_areaOfRests_46 : decode cX0_areaOfRests 46 = .ok (.iload 5, 2) := by decide +kernel
theorem dX0_areaOfRests_48 : decode cX0_areaOfRests 48 = .ok (.iadd, 1) := by decide +kernel
theorem dX0_areaOfRests_49 : decode cX0_areaOfRests 49 = .ok (.istore_n 2, 1) := by decide +kernel
theorem dX0_areaOfRests_50 : decode cX0_areaOfRests 50 = .ok (.iinc 4 1, 3) := by decide +kernel
theorem dX0_areaOfRests_53 : decode cX0_areaOfRests 53 = .ok (.goto (-46), 3) := by decide +kernel
theorem dX0_areaOfRests_56 : decode cX0_areaOfRests 56 = .ok (.iload_n 3, 1) := by decide +kernel
theorem dX0_areaOfRests_57 : decode cX0_areaOfRests 57 = .ok (.ireturn, 1) := by decide +kernel
theorem dX0_tightness_0 : decode cX0_tightness 0 = .ok (.aload_n 0, 1) := by decide +kernel
theorem dX0_tightness_1 : decode cX0_tightness 1 = .ok (.getfield 15, 3) := by decide +kernel
theorem dX0_tightness_4 : decode cX0_tightness 4 = .ok (.iload_n 1, 1) := by decide +kernel
theorem dX0_tightness_5 : decode cX0_tightness 5 = .ok (.invokestatic 61, 3) := by decide +kernel
theorem dX0_tightness_8 : decode cX0_tightness 8 = .ok (.ireturn, 1) := by decide +kernel
theorem dX0_isHooked_0 : decode cX0_isHooked 0 = .ok (.aload_n 0, 1) := by decide +kernel
theorem dX0_isHooked_1 : decode cX0_isHooked 1 = .ok (.getfield 36, 3) := by decide +kernel
theorem dX0_isHooked_4 : decode cX0_isHooked 4 = .ok (.iload_n 1, 1) := by decide +kernel
theorem dX0_isHooked_5 : decode cX0_isHooked 5 = .ok (.ishr, 1) := by decide +kernel
theorem dX0_isHooked_6 : decode cX0_isHooked 6 = .ok (.iconst 1, 1) := by decide +kernel
theorem dX0_isHooked_7 : decode cX0_isHooked 7 = .ok (.iand, 1) := by decide +kernel
theorem dX0_isHooked_8 : decode cX0_isHooked 8 = .ok (.iconst 1, 1) := by decide +kernel
theorem dX0_isHooked_9 : decode cX0_isHooked 9 = .ok (.if_icmp .ne 7, 3) := by decide +kernel
theorem dX0_isHooked_12 : decode cX0_isHooked 12 = .ok (.iconst 1, 1) := by decide +kernel
theorem dX0_isHooked_13 : decode cX0_isHooked 13 = .ok (.goto 4, 3) := by decide +kernel
theorem dX0_isHooked_16 : decode cX0_isHooked 16 = .ok (.iconst 0, 1) := by decide +kernel
theorem dX0_isHooked_17 : decode cX0_isHooked 17 = .ok (.ireturn, 1) := by decide +kernel
theorem dX0_isTorn_0 : decode cX0_isTorn 0 = .ok (.aload_n 0, 1) := by decide +kernel
theorem dX0_isTorn_1 : decode cX0_isTorn 1 = .ok (.getfield 39, 3) := by decide +kernel
theorem dX0_isTorn_4 : decode cX0_isTorn 4 = .ok (.iload_n 1, 1) := by decide +kernel
theorem dX0_isTorn_5 : decode cX0_isTorn 5 = .ok (.ishr, 1) := by decide +kernel
theorem dX0_isTorn_6 : decode cX0_isTorn 6 = .ok (.iconst 1, 1) := by decide +kernel
theorem dX0_isTorn_7 : decode cX0_isTorn 7 = .ok (.iand, 1) := by decide +kernel
theorem dX0_isTorn_8 : decode cX0_isTorn 8 = .ok (.iconst 1, 1) := by decide +kernel
theorem dX0_isTorn_9 : decode cX0_isTorn 9 = .ok (.if_icmp .ne 7, 3) := by decide +kernel
theorem dX0_isTorn_12 : decode cX0_isTorn 12 = .ok (.iconst 1, 1) := by decide +kernel
theorem dX0_isTorn_13 : decode cX0_isTorn 13 = .ok (.goto 4, 3) := by decide +kernel
theorem dX0_isTorn_16 : decode cX0_isTorn 16 = .ok (.iconst 0, 1) := by decide +kernel
theorem dX0_isTorn_17 : decode cX0_isTorn 17 = .ok (.ireturn, 1) := by decide +kernel
theorem dX0_isFree_0 : decode cX0_isFree 0 = .ok (.aload_n 0, 1) := by decide +kernel
theorem dX0_isFree_1 : decode cX0_isFree 1 = .ok (.iload_n 1, 1) := by decide +kernel
theorem dX0_isFree_2 : decode cX0_isFree 2 = .ok (.invokevirtual 69, 3) := by decide +kernel
theorem dX0_isFree_5 : decode cX0_isFree 5 = .ok (.ifCond .ne 15, 3) := by decide +kernel
theorem dX0_isFree_8 : decode cX0_isFree 8 = .ok (.aload_n 0, 1) := by decide +kernel
theorem dX0_isFree_9 : decode cX0_isFree 9 = .ok (.iload_n 1, 1) := by decide +kernel
theorem dX0_isFree_10 : decode cX0_isFree 10 = .ok (.invokevirtual 73, 3) := by decide +kernel
theorem dX0_isFree_13 : decode cX0_isFree 13 = .ok (.ifCond .ne 7, 3) := by decide +kernel
theorem dX0_isFree_16 : decode cX0_isFree 16 = .ok (.iconst 1, 1) := by decide +kernel
theorem dX0_isFree_17 : decode cX0_isFree 17 = .ok (.goto 4, 3) := by decide +kernel
theorem dX0_isFree_20 : decode cX0_isFree 20 = .ok (.iconst 0, 1) := by decide +kernel
theorem dX0_isFree_21 : decode cX0_isFree 21 = .ok (.ireturn, 1) := by decide +kernel
theorem dX0_isWaving_0 : decode cX0_isWaving 0 = .ok (.aload_n 0, 1) := by decide +kernel
theorem dX0_isWaving_1 : decode cX0_isWaving 1 = .ok (.iload_n 1, 1) := by decide +kernel
theorem dX0_isWaving_2 : decode cX0_isWaving 2 = .ok (.invokevirtual 69, 3) := by decide +kernel
theorem dX0_isWaving_5 : decode cX0_isWaving 5 = .ok (.ifCond .eq 16, 3) := by decide +kernel
theorem dX0_isWaving_8 : decode cX0_isWaving 8 = .ok (.aload_n 0, 1) := by decide +kernel
theorem dX0_isWaving_9 : decode cX0_isWaving 9 = .ok (.iload_n 1, 1) := by decide +kernel
theorem dX0_isWaving_10 : decode cX0_isWaving 10 = .ok (.invokevirtual 76, 3) := by decide +kernel
theorem dX0_isWaving_13 : decode cX0_isWaving 13 = .ok (.iconst 2, 1) := by decide +kernel
theorem dX0_isWaving_14 : decode cX0_isWaving 14 = .ok (.if_icmp .ge 7, 3) := by decide +kernel
theorem dX0_isWaving_17 : decode cX0_isWaving 17 = .ok (.iconst 1, 1) := by decide +kernel
theorem dX0_isWaving_18 : decode cX0_isWaving 18 = .ok (.goto 4, 3) := by decide +kernel
theorem dX0_isWaving_21 : decode cX0_isWaving 21 = .ok (.iconst 0, 1) := by decide +kernel
theorem dX0_isWaving_22 : decode cX0_isWaving 22 = .ok (.ireturn, 1) := by decide +kernel
theorem dX0_tightnessInAll_0 : decode cX0_tightnessInAll 0 = .ok (.iconst 0, 1) := by decide +kernel
theorem dX0_tightnessInAll_1 : decode cX0_tightnessInAll 1 = .ok (.istore_n 1, 1) := by decide +kernel
theorem dX0_tightnessInAll_2 : decode cX0_tightnessInAll 2 = .ok (.iconst 0, 1) := by decide +kernel
theorem dX0_tightnessInAll_3 : decode cX0_tightnessInAll 3 = .ok (.istore_n 2, 1) := by decide +kernel
theorem dX0_tightnessInAll_4 : decode cX0_tightnessInAll 4 = .ok (.iload_n 2, 1) := by decide +kernel
theorem dX0_tightnessInAll_5 : decode cX0_tightnessInAll 5 = .ok (.iconst 4, 1) := by decide +kernel
theorem dX0_tightnessInAll_6 : decode cX0_tightnessInAll 6 = .ok (.if_icmp .ge 17, 3) := by decide +kernel
theorem dX0_tightnessInAll_9 : decode cX0_tightnessInAll 9 = .ok (.iload_n 1, 1) := by decide +kernel
theorem dX0_tightnessInAll_10 : decode cX0_tightnessInAll 10 = .ok (.aload_n 0, 1) := by decide +kernel
theorem dX0_tightnessInAll_11 : decode cX0_tightnessInAll 11 = .ok (.iload_n 2, 1) := by decide +kernel
theorem dX0_tightnessInAll_12 : decode cX0_tightnessInAll 12 = .ok (.invokevirtual 76, 3) := by decide +kernel
theorem dX0_tightnessInAll_15 : decode cX0_tightnessInAll 15 = .ok (.iadd, 1) := by decide +kernel
theorem dX0_tightnessInAll_16 : decode cX0_tightnessInAll 16 = .ok (.istore_n 1, 1) := by decide +kernel
theorem dX0_tightnessInAll_17 : decode cX0_tightnessInAll 17 = .ok (.iinc 2 1, 3) := by decide +kernel
theorem dX0_tightnessInAll_20 : decode cX0_tightnessInAll 20 = .ok (.goto (-16), 3) := by decide +kernel
theorem dX0_tightnessInAll_23 : decode cX0_tightnessInAll 23 = .ok (.iload_n 1, 1) := by decide +kernel
theorem dX0_tightnessInAll_24 : decode cX0_tightnessInAll 24 = .ok (.ireturn, 1) := by decide +kernel
theorem dX0_tightnessBy_0 : decode cX0_tightnessBy 0 = .ok (.aload_n 0, 1) := by decide +kernel
theorem dX0_tightnessBy_1 : decode cX0_tightnessBy 1 = .ok (.getfield 36, 3) := by decide +kernel
theorem dX0_tightnessBy_4 : decode cX0_tightnessBy 4 = .ok (.ifCond .ne 5, 3) := by decide +kernel
theorem dX0_tightnessBy_7 : decode cX0_tightnessBy 7 = .ok (.iconst 2, 1) := by decide +kernel
theorem dX0_tightnessBy_8 : decode cX0_tightnessBy 8 = .ok (.ireturn, 1) := by decide +kernel
theorem dX0_tightnessBy_9 : decode cX0_tightnessBy 9 = .ok (.iload_n 2, 1) := by decide +kernel
theorem dX0_tightnessBy_10 : decode cX0_tightnessBy 10 = .ok (.iconst 2, 1) := by decide +kernel
theorem dX0_tightnessBy_11 : decode cX0_tightnessBy 11 = .ok (.iadd, 1) := by decide +kernel
theorem dX0_tightnessBy_12 : decode cX0_tightnessBy 12 = .ok (.iconst 4, 1) := by decide +kernel
theorem dX0_tightnessBy_13 : decode cX0_tightnessBy 13 = .ok (.irem, 1) := by decide +kernel
theorem dX0_tightnessBy_14 : decode cX0_tightnessBy 14 = .ok (.istore 4, 2) := by decide +kernel
theorem dX0_tightnessBy_16 : decode cX0_tightnessBy 16 = .ok (.aload_n 1, 1) := by decide +kernel
theorem dX0_tightnessBy_17 : decode cX0_tightnessBy 17 = .ok (.getfield 79, 3) := by decide +kernel
theorem dX0_tightnessBy_20 : decode cX0_tightnessBy 20 = .ok (.aload_n 1, 1) := by decide +kernel
theorem dX0_tightnessBy_21 : decode cX0_tightnessBy 21 = .ok (.getfield 82, 3) := by decide +kernel
theorem dX0_tightnessBy_24 : decode cX0_tightnessBy 24 = .ok (.aload_n 0, 1) := by decide +kernel
theorem dX0_tightnessBy_25 : decode cX0_tightnessBy 25 = .ok (.getfield 36, 3) := by decide +kernel
theorem dX0_tightnessBy_28 : decode cX0_tightnessBy 28 = .ok (.invokestatic 85, 3) := by decide +kernel
theorem dX0_tightnessBy_31 : decode cX0_tightnessBy 31 = .ok (.invokestatic 90, 3) := by decide +kernel
theorem dX0_tightnessBy_34 : decode cX0_tightnessBy 34 = .ok (.istore 5, 2) := by decide +kernel
theorem dX0_tightnessBy_36 : decode cX0_tightnessBy 36 = .ok (.iconst 0, 1) := by decide +kernel
theorem dX0_tightnessBy_37 : decode cX0_tightnessBy 37 = .ok (.iload_n 3, 1) := by decide +kernel
theorem dX0_tightnessBy_38 : decode cX0_tightnessBy 38 = .ok (.aload_n 0, 1) := by decide +kernel
theorem dX0_tightnessBy_39 : decode cX0_tightnessBy 39 = .ok (.iload 4, 2) := by decide +kernel
theorem dX0_tightnessBy_41 : decode cX0_tightnessBy 41 = .ok (.invokevirtual 76, 3) := by decide +kernel
theorem dX0_tightnessBy_44 : decode cX0_tightnessBy 44 = .ok (.iconst 2, 1) := by decide +kernel
theorem dX0_tightnessBy_45 : decode cX0_tightnessBy 45 = .ok (.idiv, 1) := by decide +kernel
theorem dX0_tightnessBy_46 : decode cX0_tightnessBy 46 = .ok (.iadd, 1) := by decide +kernel
theorem dX0_tightnessBy_47 : decode cX0_tightnessBy 47 = .ok (.iload 5, 2) := by decide +kernel
theorem dX0_tightnessBy_49 : decode cX0_tightnessBy 49 = .ok (.isub, 1) := by decide +kernel
theorem dX0_tightnessBy_50 : decode cX0_tightnessBy 50 = .ok (.invokestatic 94, 3) := by decide +kernel
theorem dX0_tightnessBy_53 : decode cX0_tightnessBy 53 = .ok (.ireturn, 1) := by decide +kernel
theorem dX0_leastKick_0 : decode cX0_leastKick 0 = .ok (.iconst 0, 1) := by decide +kernel
theorem dX0_leastKick_1 : decode cX0_leastKick 1 = .ok (.istore 4, 2) := by decide +kernel
theorem dX0_leastKick_3 : decode cX0_leastKick 3 = .ok (.iload 4, 2) := by decide +kernel
theorem dX0_leastKick_5 : decode cX0_leastKick 5 = .ok (.bipush 20, 2) := by decide +kernel
theorem dX0_leastKick_7 : decode cX0_leastKick 7 = .ok (.if_icmp .gt 37, 3) := by decide +kernel
theorem dX0_leastKick_10 : decode cX0_leastKick 10 = .ok (.aload_n 0, 1) := by decide +kernel
theorem dX0_leastKick_11 : decode cX0_leastKick 11 = .ok (.aload_n 1, 1) := by decide +kernel
theorem dX0_leastKick_12 : decode cX0_leastKick 12 = .ok (.iload_n 2, 1) := by decide +kernel
theorem dX0_leastKick_13 : decode cX0_leastKick 13 = .ok (.iload 4, 2) := by decide +kernel
theorem dX0_leastKick_15 : decode cX0_leastKick 15 = .ok (.invokevirtual 99, 3) := by decide +kernel
theorem dX0_leastKick_18 : decode cX0_leastKick 18 = .ok (.istore 5, 2) := by decide +kernel
theorem dX0_leastKick_20 : decode cX0_leastKick 20 = .ok (.iload 5, 2) := by decide +kernel
theorem dX0_leastKick_22 : decode cX0_leastKick 22 = .ok (.iload_n 3, 1) := by decide +kernel
theorem dX0_leastKick_23 : decode cX0_leastKick 23 = .ok (.if_icmp .lt 15, 3) := by decide +kernel
theorem dX0_leastKick_26 : decode cX0_leastKick 26 = .ok (.iload 5, 2) := by decide +kernel
theorem dX0_leastKick_28 : decode cX0_leastKick 28 = .ok (.aload_n 1, 1) := by decide +kernel
theorem dX0_leastKick_29 : decode cX0_leastKick 29 = .ok (.getfield 103, 3) := by decide +kernel
theorem dX0_leastKick_32 : decode cX0_leastKick 32 = .ok (.if_icmp .gt 6, 3) := by decide +kernel
theorem dX0_leastKick_35 : decode cX0_leastKick 35 = .ok (.iload 4, 2) := by decide +kernel
theorem dX0_leastKick_37 : decode cX0_leastKick 37 = .ok (.ireturn, 1) := by decide +kernel
theorem dX0_leastKick_38 : decode cX0_leastKick 38 = .ok (.iinc 4 1, 3) := by decide +kernel
theorem dX0_leastKick_41 : decode cX0_leastKick 41 = .ok (.goto (-38), 3) := by decide +kernel
theorem dX0_leastKick_44 : decode cX0_leastKick 44 = .ok (.bipush (-4), 2) := by decide +kernel
theorem dX0_leastKick_46 : decode cX0_leastKick 46 = .ok (.ireturn, 1) := by decide +kernel
theorem dX0_hookOn_0 : decode cX0_hookOn 0 = .ok (.aload_n 0, 1) := by decide +kernel
theorem dX0_hookOn_1 : decode cX0_hookOn 1 = .ok (.aload_n 1, 1) := by decide +kernel
theorem dX0_hookOn_2 : decode cX0_hookOn 2 = .ok (.iload_n 2, 1) := by decide +kernel
theorem dX0_hookOn_3 : decode cX0_hookOn 3 = .ok (.iload_n 3, 1) := by decide +kernel
theorem dX0_hookOn_4 : decode cX0_hookOn 4 = .ok (.invokevirtual 99, 3) := by decide +kernel
theorem dX0_hookOn_7 : decode cX0_hookOn 7 = .ok (.istore 4, 2) := by decide +kernel
theorem dX0_hookOn_9 : decode cX0_hookOn 9 = .ok (.iload 4, 2) := by decide +kernel
theorem dX0_hookOn_11 : decode cX0_hookOn 11 = .ok (.aload_n 1, 1) := by decide +kernel
theorem dX0_hookOn_12 : decode cX0_hookOn 12 = .ok (.getfield 103, 3) := by decide +kernel
theorem dX0_hookOn_15 : decode cX0_hookOn 15 = .ok (.if_icmp .le 17, 3) := by decide +kernel
theorem dX0_hookOn_18 : decode cX0_hookOn 18 = .ok (.aload_n 0, 1) := by decide +kernel
theorem dX0_hookOn_19 : decode cX0_hookOn 19 = .ok (.dup, 1) := by decide +kernel
theorem dX0_hookOn_20 : decode cX0_hookOn 20 = .ok (.getfield 39, 3) := by decide +kernel
theorem dX0_hookOn_23 : decode cX0_hookOn 23 = .ok (.iconst 1, 1) := by decide +kernel
theorem dX0_hookOn_24 : decode cX0_hookOn 24 = .ok (.iload_n 2, 1) := by decide +kernel
theorem dX0_hookOn_25 : decode cX0_hookOn 25 = .ok (.ishl, 1) := by decide +kernel
theorem dX0_hookOn_26 : decode cX0_hookOn 26 = .ok (.ior, 1) := by decide +kernel
theorem dX0_hookOn_27 : decode cX0_hookOn 27 = .ok (.putfield 39, 3) := by decide +kernel
theorem dX0_hookOn_30 : decode cX0_hookOn 30 = .ok (.iconst 0, 1) := by decide +kernel
theorem dX0_hookOn_31 : decode cX0_hookOn 31 = .ok (.ireturn, 1) := by decide +kernel
theorem dX0_hookOn_32 : decode cX0_hookOn 32 = .ok (.aload_n 0, 1) := by decide +kernel
theorem dX0_hookOn_33 : decode cX0_hookOn 33 = .ok (.dup, 1) := by decide +kernel
theorem dX0_hookOn_34 : decode cX0_hookOn 34 = .ok (.getfield 36, 3) := by decide +kernel
theorem dX0_hookOn_37 : decode cX0_hookOn 37 = .ok (.iconst 1, 1) := by decide +kernel
theorem dX0_hookOn_38 : decode cX0_hookOn 38 = .ok (.iload_n 2, 1) := by decide +kernel
theorem dX0_hookOn_39 : decode cX0_hookOn 39 = .ok (.ishl, 1) := by decide +kernel
theorem dX0_hookOn_40 : decode cX0_hookOn 40 = .ok (.ior, 1) := by decide +kernel
theorem dX0_hookOn_41 : decode cX0_hookOn 41 = .ok (.putfield 36, 3) := by decide +kernel
theorem dX0_hookOn_44 : decode cX0_hookOn 44 = .ok (.aload_n 0, 1) := by decide +kernel
theorem dX0_hookOn_45 : decode cX0_hookOn 45 = .ok (.getfield 15, 3) := by decide +kernel
theorem dX0_hookOn_48 : decode cX0_hookOn 48 = .ok (.iload_n 2, 1) := by decide +kernel
theorem dX0_hookOn_49 : decode cX0_hookOn 49 = .ok (.iload 4, 2) := by decide +kernel
theorem dX0_hookOn_51 : decode cX0_hookOn 51 = .ok (.invokestatic 22, 3) := by decide +kernel
theorem dX0_hookOn_54 : decode cX0_hookOn 54 = .ok (.iload 4, 2) := by decide +kernel
theorem dX0_hookOn_56 : decode cX0_hookOn 56 = .ok (.ireturn, 1) := by decide +kernel
theorem dX0_unhook_0 : decode cX0_unhook 0 = .ok (.aload_n 0, 1) := by decide +kernel
theorem dX0_unhook_1 : decode cX0_unhook 1 = .ok (.iload_n 1, 1) := by decide +kernel
theorem dX0_unhook_2 : decode cX0_unhook 2 = .ok (.invokevirtual 76, 3) := by decide +kernel
theorem dX0_unhook_5 : decode cX0_unhook 5 = .ok (.istore_n 2, 1) := by decide +kernel
theorem dX0_unhook_6 : decode cX0_unhook 6 = .ok (.aload_n 0, 1) := by decide +kernel
theorem dX0_unhook_7 : decode cX0_unhook 7 = .ok (.dup, 1) := by decide +kernel
theorem dX0_unhook_8 : decode cX0_unhook 8 = .ok (.getfield 36, 3) := by decide +kernel
theorem dX0_unhook_11 : decode cX0_unhook 11 = .ok (.iconst 1, 1) := by decide +kernel
theorem dX0_unhook_12 : decode cX0_unhook 12 = .ok (.iload_n 1, 1) := by decide +kernel
theorem dX0_unhook_13 : decode cX0_unhook 13 = .ok (.ishl, 1) := by decide +kernel
theorem dX0_unhook_14 : decode cX0_unhook 14 = .ok (.iconst (-1), 1) := by decide +kernel
theorem dX0_unhook_15 : decode cX0_unhook 15 = .ok (.ixor, 1) := by decide +kernel
theorem dX0_unhook_16 : decode cX0_unhook 16 = .ok (.iand, 1) := by decide +kernel
theorem dX0_unhook_17 : decode cX0_unhook 17 = .ok (.putfield 36, 3) := by decide +kernel
theorem dX0_unhook_20 : decode cX0_unhook 20 = .ok (.aload_n 0, 1) := by decide +kernel
theorem dX0_unhook_21 : decode cX0_unhook 21 = .ok (.getfield 15, 3) := by decide +kernel
theorem dX0_unhook_24 : decode cX0_unhook 24 = .ok (.iload_n 1, 1) := by decide +kernel
theorem dX0_unhook_25 : decode cX0_unhook 25 = .ok (.iconst 0, 1) := by decide +kernel
theorem dX0_unhook_26 : decode cX0_unhook 26 = .ok (.invokestatic 22, 3) := by decide +kernel
theorem dX0_unhook_29 : decode cX0_unhook 29 = .ok (.iload_n 2, 1) := by decide +kernel
theorem dX0_unhook_30 : decode cX0_unhook 30 = .ok (.ireturn, 1) := by decide +kernel
theorem dX0_passMonth_0 : decode cX0_passMonth 0 = .ok (.aload_n 1, 1) := by decide +kernel
theorem dX0_passMonth_1 : decode cX0_passMonth 1 = .ok (.aload_n 0, 1) := by decide +kernel
theorem dX0_passMonth_2 : decode cX0_passMonth 2 = .ok (.getfield 42, 3) := by decide +kernel
theorem dX0_passMonth_5 : decode cX0_passMonth 5 = .ok (.invokevirtual 106, 3) := by decide +kernel
theorem dX0_passMonth_8 : decode cX0_passMonth 8 = .ok (.istore_n 2, 1) := by decide +kernel
theorem dX0_passMonth_9 : decode cX0_passMonth 9 = .ok (.iconst 0, 1) := by decide +kernel
theorem dX0_passMonth_10 : decode cX0_passMonth 10 = .ok (.istore_n 3, 1) := by decide +kernel
theorem dX0_passMonth_11 : decode cX0_passMonth 11 = .ok (.iload_n 3, 1) := by decide +kernel
theorem dX0_passMonth_12 : decode cX0_passMonth 12 = .ok (.iconst 4, 1) := by decide +kernel
theorem dX0_passMonth_13 : decode cX0_passMonth 13 = .ok (.if_icmp .ge 28, 3) := by decide +kernel
theorem dX0_passMonth_16 : decode cX0_passMonth 16 = .ok (.aload_n 0, 1) := by decide +kernel
theorem dX0_passMonth_17 : decode cX0_passMonth 17 = .ok (.getfield 15, 3) := by decide +kernel
theorem dX0_passMonth_20 : decode cX0_passMonth 20 = .ok (.iload_n 3, 1) := by decide +kernel
theorem dX0_passMonth_21 : decode cX0_passMonth 21 = .ok (.iconst 0, 1) := by decide +kernel
theorem dX0_passMonth_22 : decode cX0_passMonth 22 = .ok (.aload_n 0, 1) := by decide +kernel
theorem dX0_passMonth_23 : decode cX0_passMonth 23 = .ok (.iload_n 3, 1) := by decide +kernel
theorem dX0_passMonth_24 : decode cX0_passMonth 24 = .ok (.invokevirtual 76, 3) := by decide +kernel
theorem dX0_passMonth_27 : decode cX0_passMonth 27 = .ok (.iload_n 2, 1) := by decide +kernel
theorem dX0_passMonth_28 : decode cX0_passMonth 28 = .ok (.isub, 1) := by decide +kernel
theorem dX0_passMonth_29 : decode cX0_passMonth 29 = .ok (.invokestatic 94, 3) := by decide +kernel
theorem dX0_passMonth_32 : decode cX0_passMonth 32 = .ok (.invokestatic 22, 3) := by decide +kernel
theorem dX0_passMonth_35 : decode cX0_passMonth 35 = .ok (.iinc 3 1, 3) := by decide +kernel
theorem dX0_passMonth_38 : decode cX0_passMonth 38 = .ok (.goto (-27), 3) := by decide +kernel
theorem dX0_passMonth_41 : decode cX0_passMonth 41 = .ok (.aload_n 0, 1) := by decide +kernel
theorem dX0_passMonth_42 : decode cX0_passMonth 42 = .ok (.dup, 1) := by decide +kernel
theorem dX0_passMonth_43 : decode cX0_passMonth 43 = .ok (.getfield 42, 3) := by decide +kernel
theorem dX0_passMonth_46 : decode cX0_passMonth 46 = .ok (.iconst 1, 1) := by decide +kernel
theorem dX0_passMonth_47 : decode cX0_passMonth 47 = .ok (.iadd, 1) := by decide +kernel
theorem dX0_passMonth_48 : decode cX0_passMonth 48 = .ok (.putfield 42, 3) := by decide +kernel
theorem dX0_passMonth_51 : decode cX0_passMonth 51 = .ok (.return_, 1) := by decide +kernel
theorem dX0_monthsToWave_0 : decode cX0_monthsToWave 0 = .ok (.aload_n 0, 1) := by decide +kernel
theorem dX0_monthsToWave_1 : decode cX0_monthsToWave 1 = .ok (.iload_n 2, 1) := by decide +kernel
theorem dX0_monthsToWave_2 : decode cX0_monthsToWave 2 = .ok (.invokevirtual 76, 3) := by decide +kernel
theorem dX0_monthsToWave_5 : decode cX0_monthsToWave 5 = .ok (.istore_n 3, 1) := by decide +kernel
theorem dX0_monthsToWave_6 : decode cX0_monthsToWave 6 = .ok (.iconst 0, 1) := by decide +kernel
theorem dX0_monthsToWave_7 : decode cX0_monthsToWave 7 = .ok (.istore 4, 2) := by decide +kernel
theorem dX0_monthsToWave_9 : decode cX0_monthsToWave 9 = .ok (.iload 4, 2) := by decide +kernel
theorem dX0_monthsToWave_11 : decode cX0_monthsToWave 11 = .ok (.bipush 60, 2) := by decide +kernel
theorem dX0_monthsToWave_13 : decode cX0_monthsToWave 13 = .ok (.if_icmp .gt 31, 3) := by decide +kernel
theorem dX0_monthsToWave_16 : decode cX0_monthsToWave 16 = .ok (.iload_n 3, 1) := by decide +kernel
theorem dX0_monthsToWave_17 : decode cX0_monthsToWave 17 = .ok (.iconst 2, 1) := by decide +kernel
theorem dX0_monthsToWave_18 : decode cX0_monthsToWave 18 = .ok (.if_icmp .ge 6, 3) := by decide +kernel
theorem dX0_monthsToWave_21 : decode cX0_monthsToWave 21 = .ok (.iload 4, 2) := by decide +kernel
theorem dX0_monthsToWave_23 : decode cX0_monthsToWave 23 = .ok (.ireturn, 1) := by decide +kernel
theorem dX0_monthsToWave_24 : decode cX0_monthsToWave 24 = .ok (.iload_n 3, 1) := by decide +kernel
theorem dX0_monthsToWave_25 : decode cX0_monthsToWave 25 = .ok (.aload_n 1, 1) := by decide +kernel
theorem dX0_monthsToWave_26 : decode cX0_monthsToWave 26 = .ok (.aload_n 0, 1) := by decide +kernel
theorem dX0_monthsToWave_27 : decode cX0_monthsToWave 27 = .ok (.getfield 42, 3) := by decide +kernel
theorem dX0_monthsToWave_30 : decode cX0_monthsToWave 30 = .ok (.iload 4, 2) := by decide +kernel
theorem dX0_monthsToWave_32 : decode cX0_monthsToWave 32 = .ok (.iadd, 1) := by decide +kernel
theorem dX0_monthsToWave_33 : decode cX0_monthsToWave 33 = .ok (.invokevirtual 106, 3) := by decide +kernel
theorem dX0_monthsToWave_36 : decode cX0_monthsToWave 36 = .ok (.isub, 1) := by decide +kernel
theorem dX0_monthsToWave_37 : decode cX0_monthsToWave 37 = .ok (.istore_n 3, 1) := by decide +kernel
theorem dX0_monthsToWave_38 : decode cX0_monthsToWave 38 = .ok (.iinc 4 1, 3) := by decide +kernel
theorem dX0_monthsToWave_41 : decode cX0_monthsToWave 41 = .ok (.goto (-32), 3) := by decide +kernel
theorem dX0_monthsToWave_44 : decode cX0_monthsToWave 44 = .ok (.bipush 61, 2) := by decide +kernel
theorem dX0_monthsToWave_46 : decode cX0_monthsToWave 46 = .ok (.ireturn, 1) := by decide +kernel
theorem dX0_takeStep_0 : decode cX0_takeStep 0 = .ok (.iload_n 2, 1) := by decide +kernel
theorem dX0_takeStep_1 : decode cX0_takeStep 1 = .ok (.iconst 4, 1) := by decide +kernel
theorem dX0_takeStep_2 : decode cX0_takeStep 2 = .ok (.irem, 1) := by decide +kernel
theorem dX0_takeStep_3 : decode cX0_takeStep 3 = .ok (.istore_n 3, 1) := by decide +kernel
theorem dX0_takeStep_4 : decode cX0_takeStep 4 = .ok (.aload_n 0, 1) := by decide +kernel
theorem dX0_takeStep_5 : decode cX0_takeStep 5 = .ok (.iload_n 3, 1) := by decide +kernel
theorem dX0_takeStep_6 : decode cX0_takeStep 6 = .ok (.invokevirtual 69, 3) := by decide +kernel
theorem dX0_takeStep_9 : decode cX0_takeStep 9 = .ok (.ifCond .eq 20, 3) := by decide +kernel
theorem dX0_takeStep_12 : decode cX0_takeStep 12 = .ok (.iload_n 2, 1) := by decide +kernel
theorem dX0_takeStep_13 : decode cX0_takeStep 13 = .ok (.iconst 4, 1) := by decide +kernel
theorem dX0_takeStep_14 : decode cX0_takeStep 14 = .ok (.idiv, 1) := by decide +kernel
theorem dX0_takeStep_15 : decode cX0_takeStep 15 = .ok (.iconst 5, 1) := by decide +kernel
theorem dX0_takeStep_16 : decode cX0_takeStep 16 = .ok (.irem, 1) := by decide +kernel
theorem dX0_takeStep_17 : decode cX0_takeStep 17 = .ok (.ifCond .ne 34, 3) := by decide +kernel
theorem dX0_takeStep_20 : decode cX0_takeStep 20 = .ok (.aload_n 0, 1) := by decide +kernel
theorem dX0_takeStep_21 : decode cX0_takeStep 21 = .ok (.iload_n 3, 1) := by decide +kernel
theorem dX0_takeStep_22 : decode cX0_takeStep 22 = .ok (.invokevirtual 109, 3) := by decide +kernel
theorem dX0_takeStep_25 : decode cX0_takeStep 25 = .ok (.pop, 1) := by decide +kernel
theorem dX0_takeStep_26 : decode cX0_takeStep 26 = .ok (.goto 25, 3) := by decide +kernel
theorem dX0_takeStep_29 : decode cX0_takeStep 29 = .ok (.aload_n 0, 1) := by decide +kernel
theorem dX0_takeStep_30 : decode cX0_takeStep 30 = .ok (.iload_n 3, 1) := by decide +kernel
theorem dX0_takeStep_31 : decode cX0_takeStep 31 = .ok (.invokevirtual 112, 3) := by decide +kernel
theorem dX0_takeStep_34 : decode cX0_takeStep 34 = .ok (.ifCond .eq 17, 3) := by decide +kernel
theorem dX0_takeStep_37 : decode cX0_takeStep 37 = .ok (.aload_n 0, 1) := by decide +kernel
theorem dX0_takeStep_38 : decode cX0_takeStep 38 = .ok (.aload_n 1, 1) := by decide +kernel
theorem dX0_takeStep_39 : decode cX0_takeStep 39 = .ok (.iload_n 3, 1) := by decide +kernel
theorem dX0_takeStep_40 : decode cX0_takeStep 40 = .ok (.iload_n 2, 1) := by decide +kernel
theorem dX0_takeStep_41 : decode cX0_takeStep 41 = .ok (.bipush 32, 2) := by decide +kernel
theorem dX0_takeStep_43 : decode cX0_takeStep 43 = .ok (.idiv, 1) := by decide +kernel
theorem dX0_takeStep_44 : decode cX0_takeStep 44 = .ok (.bipush 16, 2) := by decide +kernel
theorem dX0_takeStep_46 : decode cX0_takeStep 46 = .ok (.irem, 1) := by decide +kernel
theorem dX0_takeStep_47 : decode cX0_takeStep 47 = .ok (.invokevirtual 115, 3) := by decide +kernel
theorem dX0_takeStep_50 : decode cX0_takeStep 50 = .ok (.pop, 1) := by decide +kernel
theorem dX0_takeStep_51 : decode cX0_takeStep 51 = .ok (.iload_n 2, 1) := by decide +kernel
theorem dX0_takeStep_52 : decode cX0_takeStep 52 = .ok (.sipush 512, 3) := by decide +kernel
theorem dX0_takeStep_55 : decode cX0_takeStep 55 = .ok (.idiv, 1) := by decide +kernel
theorem dX0_takeStep_56 : decode cX0_takeStep 56 = .ok (.iconst 3, 1) := by decide +kernel
theorem dX0_takeStep_57 : decode cX0_takeStep 57 = .ok (.irem, 1) := by decide +kernel
theorem dX0_takeStep_58 : decode cX0_takeStep 58 = .ok (.ifCond .ne 8, 3) := by decide +kernel
theorem dX0_takeStep_61 : decode cX0_takeStep 61 = .ok (.aload_n 0, 1) := by decide +kernel
theorem dX0_takeStep_62 : decode cX0_takeStep 62 = .ok (.aload_n 1, 1) := by decide +kernel
theorem dX0_takeStep_63 : decode cX0_takeStep 63 = .ok (.invokevirtual 118, 3) := by decide +kernel
theorem dX0_takeStep_66 : decode cX0_takeStep 66 = .ok (.return_, 1) := by decide +kernel
theorem dX1_init_0 : decode cX1_init 0 = .ok (.aload_n 0, 1) := by decide +kernel
theorem dX1_init_1 : decode cX1_init 1 = .ok (.invokespecial 3, 3) := by decide +kernel
theorem dX1_init_4 : decode cX1_init 4 = .ok (.aload_n 0, 1) := by decide +kernel
theorem dX1_init_5 : decode cX1_init 5 = .ok (.bipush 13, 2) := by decide +kernel
theorem dX1_init_7 : decode cX1_init 7 = .ok (.newarray .int, 2) := by decide +kernel
theorem dX1_init_9 : decode cX1_init 9 = .ok (.putfield 9, 3) := by decide +kernel
theorem dX1_init_12 : decode cX1_init 12 = .ok (.aload_n 0, 1) := by decide +kernel
theorem dX1_init_13 : decode cX1_init 13 = .ok (.bipush 13, 2) := by decide +kernel
theorem dX1_init_15 : decode cX1_init 15 = .ok (.newarray .int, 2) := by decide +kernel
theorem dX1_init_17 : decode cX1_init 17 = .ok (.putfield 15, 3) := by decide +kernel
theorem dX1_init_20 : decode cX1_init 20 = .ok (.aload_n 0, 1) := by decide +kernel
theorem dX1_init_21 : decode cX1_init 21 = .ok (.bipush 13, 2) := by decide +kernel
theorem dX1_init_23 : decode cX1_init 23 = .ok (.newarray .int, 2) := by decide +kernel
theorem dX1_init_25 : decode cX1_init 25 = .ok (.putfield 18, 3) := by decide +kernel
theorem dX1_init_28 : decode cX1_init 28 = .ok (.aload_n 0, 1) := by decide +kernel
theorem dX1_init_29 : decode cX1_init 29 = .ok (.iconst 0, 1) := by decide +kernel
theorem dX1_init_30 : decode cX1_init 30 = .ok (.putfield 21, 3) := by decide +kernel
theorem dX1_init_33 : decode cX1_init 33 = .ok (.return_, 1) := by decide +kernel
theorem dX1_make_0 : decode cX1_make 0 = .ok (.aload_n 0, 1) := by decide +kernel
theorem dX1_make_1 : decode cX1_make 1 = .ok (.aload_n 2, 1) := by decide +kernel
theorem dX1_make_2 : decode cX1_make 2 = .ok (.getfield 25, 3) := by decide +kernel
theorem dX1_make_5 : decode cX1_make 5 = .ok (.putfield 31, 3) := by decide +kernel
theorem dX1_make_8 : decode cX1_make 8 = .ok (.aload_n 0, 1) := by decide +kernel
theorem dX1_make_9 : decode cX1_make 9 = .ok (.aload_n 1, 1) := by decide +kernel
theorem dX1_make_10 : decode cX1_make 10 = .ok (.getfield 34, 3) := by decide +kernel
theorem dX1_make_13 : decode cX1_make 13 = .ok (.putfield 39, 3) := by decide +kernel
theorem dX1_make_16 : decode cX1_make 16 = .ok (.aload_n 0, 1) := by decide +kernel
theorem dX1_make_17 : decode cX1_make 17 = .ok (.getfield 9, 3) := by decide +kernel
theorem dX1_make_20 : decode cX1_make 20 = .ok (.aload_n 0, 1) := by decide +kernel
theorem dX1_make_21 : decode cX1_make 21 = .ok (.getfield 39, 3) := by decide +kernel
theorem dX1_make_24 : decode cX1_make 24 = .ok (.iconst 0, 1) := by decide +kernel
theorem dX1_make_25 : decode cX1_make 25 = .ok (.invokestatic 42, 3) := by decide +kernel
theorem dX1_make_28 : decode cX1_make 28 = .ok (.aload_n 0, 1) := by decide +kernel
theorem dX1_make_29 : decode cX1_make 29 = .ok (.getfield 15, 3) := by decide +kernel
theorem dX1_make_32 : decode cX1_make 32 = .ok (.aload_n 0, 1) := by decide +kernel
theorem dX1_make_33 : decode cX1_make 33 = .ok (.getfield 39, 3) := by decide +kernel
theorem dX1_make_36 : decode cX1_make 36 = .ok (.iconst 0, 1) := by decide +kernel
theorem dX1_make_37 : decode cX1_make 37 = .ok (.invokestatic 42, 3) := by decide +kernel
theorem dX1_make_40 : decode cX1_make 40 = .ok (.aload_n 0, 1) := by decide +kernel
theorem dX1_make_41 : decode cX1_make 41 = .ok (.getfield 39, 3) := by decide +kernel
theorem dX1_make_44 : decode cX1_make 44 = .ok (.iconst 1, 1) := by decide +kernel
theorem dX1_make_45 : decode cX1_make 45 = .ok (.isub, 1) := by decide +kernel
theorem dX1_make_46 : decode cX1_make 46 = .ok (.istore_n 3, 1) := by decide +kernel
theorem dX1_make_47 : decode cX1_make 47 = .ok (.iload_n 3, 1) := by decide +kernel
theorem dX1_make_48 : decode cX1_make 48 = .ok (.aload_n 0, 1) := by decide +kernel
theorem dX1_make_49 : decode cX1_make 49 = .ok (.getfield 31, 3) := by decide +kernel
theorem dX1_make_52 : decode cX1_make 52 = .ok (.if_icmp .lt 15, 3) := by decide +kernel
theorem dX1_make_55 : decode cX1_make 55 = .ok (.aload_n 0, 1) := by decide +kernel
theorem dX1_make_56 : decode cX1_make 56 = .ok (.aload_n 1, 1) := by decide +kernel
theorem dX1_make_57 : decode cX1_make 57 = .ok (.iload_n 3, 1) := by decide +kernel
theorem dX1_make_58 : decode cX1_make 58 = .ok (.invokevirtual 46, 3) := by decide +kernel
theorem dX1_make_61 : decode cX1_make 61 = .ok (.iinc 3 (-1), 3) := by decide +kernel
theorem dX1_make_64 : decode cX1_make 64 = .ok (.goto (-17), 3) := by decide +kernel
theorem dX1_make_67 : decode cX1_make 67 = .ok (.aload_n 0, 1) := by decide +kernel
theorem dX1_make_68 : decode cX1_make 68 = .ok (.aload_n 0, 1) := by decide +kernel
theorem dX1_make_69 : decode cX1_make 69 = .ok (.getfield 9, 3) := by decide +kernel
theorem dX1_make_72 : decode cX1_make 72 = .ok (.aload_n 0, 1) := by decide +kernel
theorem dX1_make_73 : decode cX1_make 73 = .ok (.getfield 31, 3) := by decide +kernel
theorem dX1_make_76 : decode cX1_make 76 = .ok (.invokestatic 50, 3) := by decide +kernel
theorem dX1_make_79 : decode cX1_make 79 = .ok (.putfield 54, 3) := by decide +kernel
theorem dX1_make_82 : decode cX1_make 82 = .ok (.aload_n 0, 1) := by decide +kernel
theorem dX1_make_83 : decode cX1_make 83 = .ok (.aload_n 0, 1) := by decide +kernel
theorem dX1_make_84 : decode cX1_make 84 = .ok (.getfield 15, 3) := by decide +kernel
theorem dX1_make_87 : decode cX1_make 87 = .ok (.aload_n 0, 1) := by decide +kernel
theorem dX1_make_88 : decode cX1_make 88 = .ok (.getfield 31, 3) := by decide +kernel
theorem dX1_make_91 : decode cX1_make 91 = .ok (.invokestatic 50, 3) := by decide +kernel
theorem dX1_make_94 : decode cX1_make 94 = .ok (.putfield 57, 3) := by decide +kernel
theorem dX1_make_97 : decode cX1_make 97 = .ok (.aload_n 0, 1) := by decide +kernel
theorem dX1_make_98 : decode cX1_make 98 = .ok (.aload_n 0, 1) := by decide +kernel
theorem dX1_make_99 : decode cX1_make 99 = .ok (.getfield 54, 3) := by decide +kernel
theorem dX1_make_102 : decode cX1_make 102 = .ok (.aload_n 2, 1) := by decide +kernel
theorem dX1_make_103 : decode cX1_make 103 = .ok (.getfield 60, 3) := by decide +kernel
theorem dX1_make_106 : decode cX1_make 106 = .ok (.if_icmp .gt 7, 3) := by decide +kernel
theorem dX1_make_109 : decode cX1_make 109 = .ok (.iconst 1, 1) := by decide +kernel
theorem dX1_make_110 : decode cX1_make 110 = .ok (.goto 4, 3) := by decide +kernel
theorem dX1_make_113 : decode cX1_make 113 = .ok (.iconst 0, 1) := by decide +kernel
theorem dX1_make_114 : decode cX1_make 114 = .ok (.putfield 21, 3) := by decide +kernel
theorem dX1_make_117 : decode cX1_make 117 = .ok (.return_, 1) := by decide +kernel
theorem dX1_choose_0 : decode cX1_choose 0 = .ok (.iload_n 2, 1) := by decide +kernel
theorem dX1_choose_1 : decode cX1_choose 1 = .ok (.ifCond .le 21, 3) := by decide +kernel
theorem dX1_choose_4 : decode cX1_choose 4 = .ok (.aload_n 1, 1) := by decide +kernel
theorem dX1_choose_5 : decode cX1_choose 5 = .ok (.iload_n 2, 1) := by decide +kernel
theorem dX1_choose_6 : decode cX1_choose 6 = .ok (.iconst 1, 1) := by decide +kernel
theorem dX1_choose_7 : decode cX1_choose 7 = .ok (.isub, 1) := by decide +kernel
theorem dX1_choose_8 : decode cX1_choose 8 = .ok (.invokevirtual 63, 3) := by decide +kernel
theorem dX1_choose_11 : decode cX1_choose 11 = .ok (.aload_n 1, 1) := by decide +kernel
theorem dX1_choose_12 : decode cX1_choose 12 = .ok (.iload_n 2, 1) := by decide +kernel
theorem dX1_choose_13 : decode cX1_choose 13 = .ok (.iconst 1, 1) := by decide +kernel
theorem dX1_choose_14 : decode cX1_choose 14 = .ok (.isub, 1) := by decide +kernel
theorem dX1_choose_15 : decode cX1_choose 15 = .ok (.invokevirtual 67, 3) := by decide +kernel
theorem dX1_choose_18 : decode cX1_choose 18 = .ok (.iadd, 1) := by decide +kernel
theorem dX1_choose_19 : decode cX1_choose 19 = .ok (.goto 4, 3) := by decide +kernel
theorem dX1_choose_22 : decode cX1_choose 22 = .ok (.iconst 0, 1) := by decide +kernel
theorem dX1_choose_23 : decode cX1_choose 23 = .ok (.istore_n 3, 1) := by decide +kernel
theorem dX1_choose_24 : decode cX1_choose 24 = .ok (.aload_n 1, 1) := by decide +kernel
theorem dX1_choose_25 : decode cX1_choose 25 = .ok (.getfield 70, 3) := by decide +kernel
theorem dX1_choose_28 : decode cX1_choose 28 = .ok (.aload_n 0, 1) := by decide +kernel
theorem dX1_choose_29 : decode cX1_choose 29 = .ok (.getfield 39, 3) := by decide +kernel
theorem dX1_choose_32 : decode cX1_choose 32 = .ok (.iload_n 2, 1) := by decide +kernel
theorem dX1_choose_33 : decode cX1_choose 33 = .ok (.isub, 1) := by decide +kernel
theorem dX1_choose_34 : decode cX1_choose 34 = .ok (.invokestatic 73, 3) := by decide +kernel
theorem dX1_choose_37 : decode cX1_choose 37 = .ok (.istore 4, 2) := by decide +kernel
theorem dX1_choose_39 : decode cX1_choose 39 = .ok (.iconst 1, 1) := by decide +kernel
theorem dX1_choose_40 : decode cX1_choose 40 = .ok (.istore 5, 2) := by decide +kernel
theorem dX1_choose_42 : decode cX1_choose 42 = .ok (.iload 5, 2) := by decide +kernel
theorem dX1_choose_44 : decode cX1_choose 44 = .ok (.iload 4, 2) := by decide +kernel
theorem dX1_choose_46 : decode cX1_choose 46 = .ok (.if_icmp .gt 93, 3) := by decide +kernel
theorem dX1_choose_49 : decode cX1_choose 49 = .ok (.aload_n 1, 1) := by decide +kernel
theorem dX1_choose_50 : decode cX1_choose 50 = .ok (.iload_n 2, 1) := by decide +kernel
theorem dX1_choose_51 : decode cX1_choose 51 = .ok (.iload 5, 2) := by decide +kernel
theorem dX1_choose_53 : decode cX1_choose 53 = .ok (.invokevirtual 79, 3) := by decide +kernel
theorem dX1_choose_56 : decode cX1_choose 56 = .ok (.aload_n 0, 1) := by decide +kernel
theorem dX1_choose_57 : decode cX1_choose 57 = .ok (.getfield 9, 3) := by decide +kernel
theorem dX1_choose_60 : decode cX1_choose 60 = .ok (.iload_n 2, 1) := by decide +kernel
theorem dX1_choose_61 : decode cX1_choose 61 = .ok (.iload 5, 2) := by decide +kernel
theorem dX1_choose_63 : decode cX1_choose 63 = .ok (.iadd, 1) := by decide +kernel
theorem dX1_choose_64 : decode cX1_choose 64 = .ok (.invokestatic 50, 3) := by decide +kernel
theorem dX1_choose_67 : decode cX1_choose 67 = .ok (.iadd, 1) := by decide +kernel
theorem dX1_choose_68 : decode cX1_choose 68 = .ok (.istore 6, 2) := by decide +kernel
theorem dX1_choose_70 : decode cX1_choose 70 = .ok (.iload_n 3, 1) := by decide +kernel
theorem dX1_choose_71 : decode cX1_choose 71 = .ok (.aload_n 0, 1) := by decide +kernel
theorem dX1_choose_72 : decode cX1_choose 72 = .ok (.getfield 15, 3) := by decide +kernel
theorem dX1_choose_75 : decode cX1_choose 75 = .ok (.iload_n 2, 1) := by decide +kernel
theorem dX1_choose_76 : decode cX1_choose 76 = .ok (.iload 5, 2) := by decide +kernel
theorem dX1_choose_78 : decode cX1_choose 78 = .ok (.iadd, 1) := by decide +kernel
theorem dX1_choose_79 : decode cX1_choose 79 = .ok (.invokestatic 50, 3) := by decide +kernel
theorem dX1_choose_82 : decode cX1_choose 82 = .ok (.iadd, 1) := by decide +kernel
theorem dX1_choose_83 : decode cX1_choose 83 = .ok (.istore 7, 2) := by decide +kernel
theorem dX1_choose_85 : decode cX1_choose 85 = .ok (.iload 5, 2) := by decide +kernel
theorem dX1_choose_87 : decode cX1_choose 87 = .ok (.iconst 1, 1) := by decide +kernel
theorem dX1_choose_88 : decode cX1_choose 88 = .ok (.if_icmp .eq 15, 3) := by decide +kernel
theorem dX1_choose_91 : decode cX1_choose 91 = .ok (.aload_n 0, 1) := by decide +kernel
theorem dX1_choose_92 : decode cX1_choose 92 = .ok (.iload 6, 2) := by decide +kernel
theorem dX1_choose_94 : decode cX1_choose 94 = .ok (.iload 7, 2) := by decide +kernel
theorem dX1_choose_96 : decode cX1_choose 96 = .ok (.iload_n 2, 1) := by decide +kernel
theorem dX1_choose_97 : decode cX1_choose 97 = .ok (.invokevirtual 82, 3) := by decide +kernel
theorem dX1_choose_100 : decode cX1_choose 100 = .ok (.ifCond .eq 33, 3) := by decide +kernel
theorem dX1_choose_103 : decode cX1_choose 103 = .ok (.aload_n 0, 1) := by decide +kernel
theorem dX1_choose_104 : decode cX1_choose 104 = .ok (.getfield 9, 3) := by decide +kernel
theorem dX1_choose_107 : decode cX1_choose 107 = .ok (.iload_n 2, 1) := by decide +kernel
theorem dX1_choose_108 : decode cX1_choose 108 = .ok (.iload 6, 2) := by decide +kernel
theorem dX1_choose_110 : decode cX1_choose 110 = .ok (.invokestatic 42, 3) := by decide +kernel
theorem dX1_choose_113 : decode cX1_choose 113 = .ok (.aload_n 0, 1) := by decide +kernel
theorem dX1_choose_114 : decode cX1_choose 114 = .ok (.getfield 15, 3) := by decide +kernel
theorem dX1_choose_117 : decode cX1_choose 117 = .ok (.iload_n 2, 1) := by decide +kernel
theorem dX1_choose_118 : decode cX1_choose 118 = .ok (.iload 7, 2) := by decide +kernel
theorem dX1_choose_120 : decode cX1_choose 120 = .ok (.invokestatic 42, 3) := by decide +kernel
theorem dX1_choose_123 : decode cX1_choose 123 = .ok (.aload_n 0, 1) := by decide +kernel
theorem dX1_choose_124 : decode cX1_choose 124 = .ok (.getfield 18, 3) := by decide +kernel
theorem dX1_choose_127 : decode cX1_choose 127 = .ok (.iload_n 2, 1) := by decide +kernel
theorem dX1_choose_128 : decode cX1_choose 128 = .ok (.iload 5, 2) := by decide +kernel
theorem dX1_choose_130 : decode cX1_choose 130 = .ok (.invokestatic 42, 3) := by decide +kernel
theorem dX1_choose_133 : decode cX1_choose 133 = .ok (.iinc 5 1, 3) := by decide +kernel
theorem dX1_choose_136 : decode cX1_choose 136 = .ok (.goto (-94), 3) := by decide +kernel
theorem dX1_choose_139 : decode cX1_choose 139 = .ok (.return_, 1) := by decide +kernel
theorem dX1_isLess_0 : decode cX1_isLess 0 = .ok (.aload_n 0, 1) := by decide +kernel
theorem dX1_isLess_1 : decode cX1_isLess 1 = .ok (.getfield 9, 3) := by decide +kernel
theorem dX1_isLess_4 : decode cX1_isLess 4 = .ok (.iload_n 3, 1) := by decide +kernel
theorem dX1_isLess_5 : decode cX1_isLess 5 = .ok (.invokestatic 50, 3) := by decide +kernel
theorem dX1_isLess_8 : decode cX1_isLess 8 = .ok (.istore 4, 2) := by decide +kernel
theorem dX1_isLess_10 : decode cX1_isLess 10 = .ok (.iload_n 1, 1) := by decide +kernel
theorem dX1_isLess_11 : decode cX1_isLess 11 = .ok (.iload 4, 2) := by decide +kernel
theorem dX1_isLess_13 : decode cX1_isLess 13 = .ok (.if_icmp .lt 21, 3) := by decide +kernel
theorem dX1_isLess_16 : decode cX1_isLess 16 = .ok (.iload_n 1, 1) := by decide +kernel
theorem dX1_isLess_17 : decode cX1_isLess 17 = .ok (.iload 4, 2) := by decide +kernel
theorem dX1_isLess_19 : decode cX1_isLess 19 = .ok (.if_icmp .ne 19, 3) := by decide +kernel
theorem dX1_isLess_22 : decode cX1_isLess 22 = .ok (.iload_n 2, 1) := by decide +kernel
theorem dX1_isLess_23 : decode cX1_isLess 23 = .ok (.aload_n 0, 1) := by decide +kernel
theorem dX1_isLess_24 : decode cX1_isLess 24 = .ok (.getfield 15, 3) := by decide +kernel
theorem dX1_isLess_27 : decode cX1_isLess 27 = .ok (.iload_n 3, 1) := by decide +kernel
theorem dX1_isLess_28 : decode cX1_isLess 28 = .ok (.invokestatic 50, 3) := by decide +kernel
theorem dX1_isLess_31 : decode cX1_isLess 31 = .ok (.if_icmp .ge 7, 3) := by decide +kernel
theorem dX1_isLess_34 : decode cX1_isLess 34 = .ok (.iconst 1, 1) := by decide +kernel
theorem dX1_isLess_35 : decode cX1_isLess 35 = .ok (.goto 4, 3) := by decide +kernel
theorem dX1_isLess_38 : decode cX1_isLess 38 = .ok (.iconst 0, 1) := by decide +kernel
theorem dX1_isLess_39 : decode cX1_isLess 39 = .ok (.ireturn, 1) := by decide +kernel
theorem dX1_breadthOf_0 : decode cX1_breadthOf 0 = .ok (.aload_n 0, 1) := by decide +kernel
theorem dX1_breadthOf_1 : decode cX1_breadthOf 1 = .ok (.getfield 31, 3) := by decide +kernel
theorem dX1_breadthOf_4 : decode cX1_breadthOf 4 = .ok (.istore_n 2, 1) := by decide +kernel
theorem dX1_breadthOf_5 : decode cX1_breadthOf 5 = .ok (.iconst 0, 1) := by decide +kernel
theorem dX1_breadthOf_6 : decode cX1_breadthOf 6 = .ok (.istore_n 3, 1) := by decide +kernel
theorem dX1_breadthOf_7 : decode cX1_breadthOf 7 = .ok (.iload_n 3, 1) := by decide +kernel
theorem dX1_breadthOf_8 : decode cX1_breadthOf 8 = .ok (.bipush 12, 2) := by decide +kernel
theorem dX1_breadthOf_10 : decode cX1_breadthOf 10 = .ok (.if_icmp .ge 40, 3) := by decide +kernel
theorem dX1_breadthOf_13 : decode cX1_breadthOf 13 = .ok (.iload_n 2, 1) := by decide +kernel
theorem dX1_breadthOf_14 : decode cX1_breadthOf 14 = .ok (.aload_n 0, 1) := by decide +kernel
theorem dX1_breadthOf_15 : decode cX1_breadthOf 15 = .ok (.getfield 39, 3) := by decide +kernel
theorem dX1_breadthOf_18 : decode cX1_breadthOf 18 = .ok (.if_icmp .ge 32, 3) := by decide +kernel
theorem dX1_breadthOf_21 : decode cX1_breadthOf 21 = .ok (.aload_n 0, 1) := by decide +kernel
theorem dX1_breadthOf_22 : decode cX1_breadthOf 22 = .ok (.getfield 18, 3) := by decide +kernel
theorem dX1_breadthOf_25 : decode cX1_breadthOf 25 = .ok (.iload_n 2, 1) := by decide +kernel
theorem dX1_breadthOf_26 : decode cX1_breadthOf 26 = .ok (.invokestatic 50, 3) := by decide +kernel
theorem dX1_breadthOf_29 : decode cX1_breadthOf 29 = .ok (.istore 4, 2) := by decide +kernel
theorem dX1_breadthOf_31 : decode cX1_breadthOf 31 = .ok (.iload_n 3, 1) := by decide +kernel
theorem dX1_breadthOf_32 : decode cX1_breadthOf 32 = .ok (.iload_n 1, 1) := by decide +kernel
theorem dX1_breadthOf_33 : decode cX1_breadthOf 33 = .ok (.if_icmp .ne 6, 3) := by decide +kernel
theorem dX1_breadthOf_36 : decode cX1_breadthOf 36 = .ok (.iload 4, 2) := by decide +kernel
theorem dX1_breadthOf_38 : decode cX1_breadthOf 38 = .ok (.ireturn, 1) := by decide +kernel
theorem dX1_breadthOf_39 : decode cX1_breadthOf 39 = .ok (.iload_n 2, 1) := by decide +kernel
theorem dX1_breadthOf_40 : decode cX1_breadthOf 40 = .ok (.iload 4, 2) := by decide +kernel
theorem dX1_breadthOf_42 : decode cX1_breadthOf 42 = .ok (.iadd, 1) := by decide +kernel
theorem dX1_breadthOf_43 : decode cX1_breadthOf 43 = .ok (.istore_n 2, 1) := by decide +kernel
theorem dX1_breadthOf_44 : decode cX1_breadthOf 44 = .ok (.iinc 3 1, 3) := by decide +kernel
theorem dX1_breadthOf_47 : decode cX1_breadthOf 47 = .ok (.goto (-40), 3) := by decide +kernel
theorem dX1_breadthOf_50 : decode cX1_breadthOf 50 = .ok (.bipush (-4), 2) := by decide +kernel
theorem dX1_breadthOf_52 : decode cX1_breadthOf 52 = .ok (.ireturn, 1) := by decide +kernel
theorem dX2_init_0 : decode cX2_init 0 = .ok (.aload_n 0, 1) := by decide +kernel
theorem dX2_init_1 : decode cX2_init 1 = .ok (.invokespecial 3, 3) := by decide +kernel
theorem dX2_init_4 : decode cX2_init 4 = .ok (.aload_n 0, 1) := by decide +kernel
theorem dX2_init_5 : decode cX2_init 5 = .ok (.bipush (-4), 2) := by decide +kernel
theorem dX2_init_7 : decode cX2_init 7 = .ok (.putfield 9, 3) := by decide +kernel
theorem dX2_init_10 : decode cX2_init 10 = .ok (.return_, 1) := by decide +kernel
theorem dX2_make_0 : decode cX2_make 0 = .ok (.aload_n 0, 1) := by decide +kernel
theorem dX2_make_1 : decode cX2_make 1 = .ok (.iconst 0, 1) := by decide +kernel
theorem dX2_make_2 : decode cX2_make 2 = .ok (.putfield 15, 3) := by decide +kernel
theorem dX2_make_5 : decode cX2_make 5 = .ok (.iconst 0, 1) := by decide +kernel
theorem dX2_make_6 : decode cX2_make 6 = .ok (.istore 4, 2) := by decide +kernel
theorem dX2_make_8 : decode cX2_make 8 = .ok (.iload 4, 2) := by decide +kernel
theorem dX2_make_10 : decode cX2_make 10 = .ok (.iconst 4, 1) := by decide +kernel
theorem dX2_make_11 : decode cX2_make 11 = .ok (.if_icmp .ge 32, 3) := by decide +kernel
theorem dX2_make_14 : decode cX2_make 14 = .ok (.aload_n 0, 1) := by decide +kernel
theorem dX2_make_15 : decode cX2_make 15 = .ok (.dup, 1) := by decide +kernel
theorem dX2_make_16 : decode cX2_make 16 = .ok (.getfield 15, 3) := by decide +kernel
theorem dX2_make_19 : decode cX2_make 19 = .ok (.aload_n 2, 1) := by decide +kernel
theorem dX2_make_20 : decode cX2_make 20 = .ok (.iload 4, 2) := by decide +kernel
theorem dX2_make_22 : decode cX2_make 22 = .ok (.invokevirtual 18, 3) := by decide +kernel
theorem dX2_make_25 : decode cX2_make 25 = .ok (.ifCond .eq 7, 3) := by decide +kernel
theorem dX2_make_28 : decode cX2_make 28 = .ok (.iconst 1, 1) := by decide +kernel
theorem dX2_make_29 : decode cX2_make 29 = .ok (.goto 4, 3) := by decide +kernel
theorem dX2_make_32 : decode cX2_make 32 = .ok (.iconst 0, 1) := by decide +kernel
theorem dX2_make_33 : decode cX2_make 33 = .ok (.iadd, 1) := by decide +kernel
theorem dX2_make_34 : decode cX2_make 34 = .ok (.putfield 15, 3) := by decide +kernel
theorem dX2_make_37 : decode cX2_make 37 = .ok (.iinc 4 1, 3) := by decide +kernel
theorem dX2_make_40 : decode cX2_make 40 = .ok (.goto (-32), 3) := by decide +kernel
theorem dX2_make_43 : decode cX2_make 43 = .ok (.aload_n 0, 1) := by decide +kernel
theorem dX2_make_44 : decode cX2_make 44 = .ok (.bipush (-4), 2) := by decide +kernel
theorem dX2_make_46 : decode cX2_make 46 = .ok (.putfield 9, 3) := by decide +kernel
theorem dX2_make_49 : decode cX2_make 49 = .ok (.iconst 0, 1) := by decide +kernel
theorem dX2_make_50 : decode cX2_make 50 = .ok (.istore 4, 2) := by decide +kernel
theorem dX2_make_52 : decode cX2_make 52 = .ok (.iload 4, 2) := by decide +kernel
theorem dX2_make_54 : decode cX2_make 54 = .ok (.iconst 1, 1) := by decide +kernel
theorem dX2_make_55 : decode cX2_make 55 = .ok (.iconst 2, 1) := by decide +kernel
theorem dX2_make_56 : decode cX2_make 56 = .ok (.aload_n 0, 1) := by decide +kernel
theorem dX2_make_57 : decode cX2_make 57 = .ok (.getfield 15, 3) := by decide +kernel
theorem dX2_make_60 : decode cX2_make 60 = .ok (.imul, 1) := by decide +kernel
theorem dX2_make_61 : decode cX2_make 61 = .ok (.ishl, 1) := by decide +kernel
theorem dX2_make_62 : decode cX2_make 62 = .ok (.if_icmp .ge 72, 3) := by decide +kernel
theorem dX2_make_65 : decode cX2_make 65 = .ok (.aload_n 0, 1) := by decide +kernel
theorem dX2_make_66 : decode cX2_make 66 = .ok (.aload_n 2, 1) := by decide +kernel
theorem dX2_make_67 : decode cX2_make 67 = .ok (.iload 4, 2) := by decide +kernel
theorem dX2_make_69 : decode cX2_make 69 = .ok (.invokevirtual 24, 3) := by decide +kernel
theorem dX2_make_72 : decode cX2_make 72 = .ok (.ifCond .eq 15, 3) := by decide +kernel
theorem dX2_make_75 : decode cX2_make 75 = .ok (.aload_n 0, 1) := by decide +kernel
theorem dX2_make_76 : decode cX2_make 76 = .ok (.aload_n 1, 1) := by decide +kernel
theorem dX2_make_77 : decode cX2_make 77 = .ok (.aload_n 2, 1) := by decide +kernel
theorem dX2_make_78 : decode cX2_make 78 = .ok (.aload_n 3, 1) := by decide +kernel
theorem dX2_make_79 : decode cX2_make 79 = .ok (.iload 4, 2) := by decide +kernel
theorem dX2_make_81 : decode cX2_make 81 = .ok (.invokevirtual 28, 3) := by decide +kernel
theorem dX2_make_84 : decode cX2_make 84 = .ok (.goto 5, 3) := by decide +kernel
theorem dX2_make_87 : decode cX2_make 87 = .ok (.bipush (-4), 2) := by decide +kernel
theorem dX2_make_89 : decode cX2_make 89 = .ok (.istore 5, 2) := by decide +kernel
theorem dX2_make_91 : decode cX2_make 91 = .ok (.iload 5, 2) := by decide +kernel
theorem dX2_make_93 : decode cX2_make 93 = .ok (.bipush (-4), 2) := by decide +kernel
theorem dX2_make_95 : decode cX2_make 95 = .ok (.if_icmp .eq 33, 3) := by decide +kernel
theorem dX2_make_98 : decode cX2_make 98 = .ok (.aload_n 0, 1) := by decide +kernel
theorem dX2_make_99 : decode cX2_make 99 = .ok (.getfield 9, 3) := by decide +kernel
theorem dX2_make_102 : decode cX2_make 102 = .ok (.bipush (-4), 2) := by decide +kernel
theorem dX2_make_104 : decode cX2_make 104 = .ok (.if_icmp .eq 12, 3) := by decide +kernel
theorem dX2_make_107 : decode cX2_make 107 = .ok (.iload 5, 2) := by decide +kernel
theorem dX2_make_109 : decode cX2_make 109 = .ok (.aload_n 0, 1) := by decide +kernel
theorem dX2_make_110 : decode cX2_make 110 = .ok (.getfield 9, 3) := by decide +kernel
theorem dX2_make_113 : decode cX2_make 113 = .ok (.if_icmp .ge 15, 3) := by decide +kernel
theorem dX2_make_116 : decode cX2_make 116 = .ok (.aload_n 0, 1) := by decide +kernel
theorem dX2_make_117 : decode cX2_make 117 = .ok (.iload 5, 2) := by decide +kernel
theorem dX2_make_119 : decode cX2_make 119 = .ok (.putfield 9, 3) := by decide +kernel
theorem dX2_make_122 : decode cX2_make 122 = .ok (.aload_n 0, 1) := by decide +kernel
theorem dX2_make_123 : decode cX2_make 123 = .ok (.iload 4, 2) := by decide +kernel
theorem dX2_make_125 : decode cX2_make 125 = .ok (.putfield 32, 3) := by decide +kernel
theorem dX2_make_128 : decode cX2_make 128 = .ok (.iinc 4 1, 3) := by decide +kernel
theorem dX2_make_131 : decode cX2_make 131 = .ok (.goto (-79), 3) := by decide +kernel
theorem dX2_make_134 : decode cX2_make 134 = .ok (.return_, 1) := by decide +kernel
theorem dX2_wallIn_0 : decode cX2_wallIn 0 = .ok (.iload_n 1, 1) := by decide +kernel
theorem dX2_wallIn_1 : decode cX2_wallIn 1 = .ok (.iconst 2, 1) := by decide +kernel
theorem dX2_wallIn_2 : decode cX2_wallIn 2 = .ok (.aload_n 0, 1) := by decide +kernel
theorem dX2_wallIn_3 : decode cX2_wallIn 3 = .ok (.getfield 15, 3) := by decide +kernel
theorem dX2_wallIn_6 : decode cX2_wallIn 6 = .ok (.iconst 1, 1) := by decide +kernel
theorem dX2_wallIn_7 : decode cX2_wallIn 7 = .ok (.isub, 1) := by decide +kernel
theorem dX2_wallIn_8 : decode cX2_wallIn 8 = .ok (.iload_n 2, 1) := by decide +kernel
theorem dX2_wallIn_9 : decode cX2_wallIn 9 = .ok (.isub, 1) := by decide +kernel
theorem dX2_wallIn_10 : decode cX2_wallIn 10 = .ok (.imul, 1) := by decide +kernel
theorem dX2_wallIn_11 : decode cX2_wallIn 11 = .ok (.ishr, 1) := by decide +kernel
theorem dX2_wallIn_12 : decode cX2_wallIn 12 = .ok (.iconst 3, 1) := by decide +kernel
theorem dX2_wallIn_13 : decode cX2_wallIn 13 = .ok (.iand, 1) := by decide +kernel
theorem dX2_wallIn_14 : decode cX2_wallIn 14 = .ok (.ireturn, 1) := by decide +kernel
theorem dX2_isOrder_0 : decode cX2_isOrder 0 = .ok (.iconst 0, 1) := by decide +kernel
theorem dX2_isOrder_1 : decode cX2_isOrder 1 = .ok (.istore_n 3, 1) := by decide +kernel
theorem dX2_isOrder_2 : decode cX2_isOrder 2 = .ok (.iconst 0, 1) := by decide +kernel
theorem dX2_isOrder_3 : decode cX2_isOrder 3 = .ok (.istore 4, 2) := by decide +kernel
theorem dX2_isOrder_5 : decode cX2_isOrder 5 = .ok (.iload 4, 2) := by decide +kernel
theorem dX2_isOrder_7 : decode cX2_isOrder 7 = .ok (.aload_n 0, 1) := by decide +kernel
theorem dX2_isOrder_8 : decode cX2_isOrder 8 = .ok (.getfield 15, 3) := by decide +kernel
theorem dX2_isOrder_11 : decode cX2_isOrder 11 = .ok (.if_icmp .ge 46, 3) := by decide +kernel
theorem dX2_isOrder_14 : decode cX2_isOrder 14 = .ok (.aload_n 0, 1) := by decide +kernel
theorem dX2_isOrder_15 : decode cX2_isOrder 15 = .ok (.iload_n 2, 1) := by decide +kernel
theorem dX2_isOrder_16 : decode cX2_isOrder 16 = .ok (.iload 4, 2) := by decide +kernel
theorem dX2_isOrder_18 : decode cX2_isOrder 18 = .ok (.invokevirtual 35, 3) := by decide +kernel
theorem dX2_isOrder_21 : decode cX2_isOrder 21 = .ok (.istore 5, 2) := by decide +kernel
theorem dX2_isOrder_23 : decode cX2_isOrder 23 = .ok (.aload_n 1, 1) := by decide +kernel
theorem dX2_isOrder_24 : decode cX2_isOrder 24 = .ok (.iload 5, 2) := by decide +kernel
theorem dX2_isOrder_26 : decode cX2_isOrder 26 = .ok (.invokevirtual 18, 3) := by decide +kernel
theorem dX2_isOrder_29 : decode cX2_isOrder 29 = .ok (.ifCond .eq 13, 3) := by decide +kernel
theorem dX2_isOrder_32 : decode cX2_isOrder 32 = .ok (.iload_n 3, 1) := by decide +kernel
theorem dX2_isOrder_33 : decode cX2_isOrder 33 = .ok (.iload 5, 2) := by decide +kernel
theorem dX2_isOrder_35 : decode cX2_isOrder 35 = .ok (.ishr, 1) := by decide +kernel
theorem dX2_isOrder_36 : decode cX2_isOrder 36 = .ok (.iconst 1, 1) := by decide +kernel
theorem dX2_isOrder_37 : decode cX2_isOrder 37 = .ok (.iand, 1) := by decide +kernel
theorem dX2_isOrder_38 : decode cX2_isOrder 38 = .ok (.iconst 1, 1) := by decide +kernel
theorem dX2_isOrder_39 : decode cX2_isOrder 39 = .ok (.if_icmp .ne 5, 3) := by decide +kernel
theorem dX2_isOrder_42 : decode cX2_isOrder 42 = .ok (.iconst 0, 1) := by decide +kernel
theorem dX2_isOrder_43 : decode cX2_isOrder 43 = .ok (.ireturn, 1) := by decide +kernel
theorem dX2_isOrder_44 : decode cX2_isOrder 44 = .ok (.iload_n 3, 1) := by decide +kernel
theorem dX2_isOrder_45 : decode cX2_isOrder 45 = .ok (.iconst 1, 1) := by decide +kernel
theorem dX2_isOrder_46 : decode cX2_isOrder 46 = .ok (.iload 5, 2) := by decide +kernel
theorem dX2_isOrder_48 : decode cX2_isOrder 48 = .ok (.ishl, 1) := by decide +kernel
theorem dX2_isOrder_49 : decode cX2_isOrder 49 = .ok (.ior, 1) := by decide +kernel
theorem dX2_isOrder_50 : decode cX2_isOrder 50 = .ok (.istore_n 3, 1) := by decide +kernel
theorem dX2_isOrder_51 : decode cX2_isOrder 51 = .ok (.iinc 4 1, 3) := by decide +kernel
theorem dX2_isOrder_54 : decode cX2_isOrder 54 = .ok (.goto (-49), 3) := by decide +kernel
theorem dX2_isOrder_57 : decode cX2_isOrder 57 = .ok (.iconst 1, 1) := by decide +kernel
theorem dX2_isOrder_58 : decode cX2_isOrder 58 = .ok (.ireturn, 1) := by decide +kernel
theorem dX2_kicksOf_0 : decode cX2_kicksOf 0 = .ok (.aload_n 3, 1) := by decide +kernel
theorem dX2_kicksOf_1 : decode cX2_kicksOf 1 = .ok (.aload_n 2, 1) := by decide +kernel
theorem dX2_kicksOf_2 : decode cX2_kicksOf 2 = .ok (.invokevirtual 39, 3) := by decide +kernel
theorem dX2_kicksOf_5 : decode cX2_kicksOf 5 = .ok (.iconst 0, 1) := by decide +kernel
theorem dX2_kicksOf_6 : decode cX2_kicksOf 6 = .ok (.istore 5, 2) := by decide +kernel
theorem dX2_kicksOf_8 : decode cX2_kicksOf 8 = .ok (.iconst 0, 1) := by decide +kernel
theorem dX2_kicksOf_9 : decode cX2_kicksOf 9 = .ok (.istore 6, 2) := by decide +kernel
theorem dX2_kicksOf_11 : decode cX2_kicksOf 11 = .ok (.iload 6, 2) := by decide +kernel
theorem dX2_kicksOf_13 : decode cX2_kicksOf 13 = .ok (.aload_n 0, 1) := by decide +kernel
theorem dX2_kicksOf_14 : decode cX2_kicksOf 14 = .ok (.getfield 15, 3) := by decide +kernel
theorem dX2_kicksOf_17 : decode cX2_kicksOf 17 = .ok (.if_icmp .ge 71, 3) := by decide +kernel
theorem dX2_kicksOf_20 : decode cX2_kicksOf 20 = .ok (.aload_n 0, 1) := by decide +kernel
theorem dX2_kicksOf_21 : decode cX2_kicksOf 21 = .ok (.iload 4, 2) := by decide +kernel
theorem dX2_kicksOf_23 : decode cX2_kicksOf 23 = .ok (.iload 6, 2) := by decide +kernel
theorem dX2_kicksOf_25 : decode cX2_kicksOf 25 = .ok (.invokevirtual 35, 3) := by decide +kernel
theorem dX2_kicksOf_28 : decode cX2_kicksOf 28 = .ok (.istore 7, 2) := by decide +kernel
theorem dX2_kicksOf_30 : decode cX2_kicksOf 30 = .ok (.aload_n 3, 1) := by decide +kernel
theorem dX2_kicksOf_31 : decode cX2_kicksOf 31 = .ok (.getfield 43, 3) := by decide +kernel
theorem dX2_kicksOf_34 : decode cX2_kicksOf 34 = .ok (.ifCond .ne 7, 3) := by decide +kernel
theorem dX2_kicksOf_37 : decode cX2_kicksOf 37 = .ok (.iconst 2, 1) := by decide +kernel
theorem dX2_kicksOf_38 : decode cX2_kicksOf 38 = .ok (.goto 4, 3) := by decide +kernel
theorem dX2_kicksOf_41 : decode cX2_kicksOf 41 = .ok (.iconst 4, 1) := by decide +kernel
theorem dX2_kicksOf_42 : decode cX2_kicksOf 42 = .ok (.istore 8, 2) := by decide +kernel
theorem dX2_kicksOf_44 : decode cX2_kicksOf 44 = .ok (.aload_n 3, 1) := by decide +kernel
theorem dX2_kicksOf_45 : decode cX2_kicksOf 45 = .ok (.aload_n 1, 1) := by decide +kernel
theorem dX2_kicksOf_46 : decode cX2_kicksOf 46 = .ok (.iload 7, 2) := by decide +kernel
theorem dX2_kicksOf_48 : decode cX2_kicksOf 48 = .ok (.iload 8, 2) := by decide +kernel
theorem dX2_kicksOf_50 : decode cX2_kicksOf 50 = .ok (.invokevirtual 46, 3) := by decide +kernel
theorem dX2_kicksOf_53 : decode cX2_kicksOf 53 = .ok (.istore 9, 2) := by decide +kernel
theorem dX2_kicksOf_55 : decode cX2_kicksOf 55 = .ok (.iload 9, 2) := by decide +kernel
theorem dX2_kicksOf_57 : decode cX2_kicksOf 57 = .ok (.bipush (-4), 2) := by decide +kernel
theorem dX2_kicksOf_59 : decode cX2_kicksOf 59 = .ok (.if_icmp .ne 6, 3) := by decide +kernel
theorem dX2_kicksOf_62 : decode cX2_kicksOf 62 = .ok (.bipush (-4), 2) := by decide +kernel
theorem dX2_kicksOf_64 : decode cX2_kicksOf 64 = .ok (.ireturn, 1) := by decide +kernel
theorem dX2_kicksOf_65 : decode cX2_kicksOf 65 = .ok (.aload_n 3, 1) := by decide +kernel
theorem dX2_kicksOf_66 : decode cX2_kicksOf 66 = .ok (.aload_n 1, 1) := by decide +kernel
theorem dX2_kicksOf_67 : decode cX2_kicksOf 67 = .ok (.iload 7, 2) := by decide +kernel
theorem dX2_kicksOf_69 : decode cX2_kicksOf 69 = .ok (.iload 9, 2) := by decide +kernel
theorem dX2_kicksOf_71 : decode cX2_kicksOf 71 = .ok (.invokevirtual 50, 3) := by decide +kernel
theorem dX2_kicksOf_74 : decode cX2_kicksOf 74 = .ok (.pop, 1) := by decide +kernel
theorem dX2_kicksOf_75 : decode cX2_kicksOf 75 = .ok (.iload 5, 2) := by decide +kernel
theorem dX2_kicksOf_77 : decode cX2_kicksOf 77 = .ok (.iload 9, 2) := by decide +kernel
theorem dX2_kicksOf_79 : decode cX2_kicksOf 79 = .ok (.iadd, 1) := by decide +kernel
theorem dX2_kicksOf_80 : decode cX2_kicksOf 80 = .ok (.istore 5, 2) := by decide +kernel
theorem dX2_kicksOf_82 : decode cX2_kicksOf 82 = .ok (.iinc 6 1, 3) := by decide +kernel
theorem dX2_kicksOf_85 : decode cX2_kicksOf 85 = .ok (.goto (-74), 3) := by decide +kernel
theorem dX2_kicksOf_88 : decode cX2_kicksOf 88 = .ok (.iload 5, 2) := by decide +kernel
theorem dX2_kicksOf_90 : decode cX2_kicksOf 90 = .ok (.ireturn, 1) := by decide +kernel
theorem dX2_wallAt_0 : decode cX2_wallAt 0 = .ok (.aload_n 0, 1) := by decide +kernel
theorem dX2_wallAt_1 : decode cX2_wallAt 1 = .ok (.getfield 9, 3) := by decide +kernel
theorem dX2_wallAt_4 : decode cX2_wallAt 4 = .ok (.bipush (-4), 2) := by decide +kernel
theorem dX2_wallAt_6 : decode cX2_wallAt 6 = .ok (.if_icmp .eq 23, 3) := by decide +kernel
theorem dX2_wallAt_9 : decode cX2_wallAt 9 = .ok (.iload_n 1, 1) := by decide +kernel
theorem dX2_wallAt_10 : decode cX2_wallAt 10 = .ok (.aload_n 0, 1) := by decide +kernel
theorem dX2_wallAt_11 : decode cX2_wallAt 11 = .ok (.getfield 15, 3) := by decide +kernel
theorem dX2_wallAt_14 : decode cX2_wallAt 14 = .ok (.if_icmp .ge 15, 3) := by decide +kernel
theorem dX2_wallAt_17 : decode cX2_wallAt 17 = .ok (.aload_n 0, 1) := by decide +kernel
theorem dX2_wallAt_18 : decode cX2_wallAt 18 = .ok (.aload_n 0, 1) := by decide +kernel
theorem dX2_wallAt_19 : decode cX2_wallAt 19 = .ok (.getfield 32, 3) := by decide +kernel
theorem dX2_wallAt_22 : decode cX2_wallAt 22 = .ok (.iload_n 1, 1) := by decide +kernel
theorem dX2_wallAt_23 : decode cX2_wallAt 23 = .ok (.invokevirtual 35, 3) := by decide +kernel
theorem dX2_wallAt_26 : decode cX2_wallAt 26 = .ok (.goto 5, 3) := by decide +kernel
theorem dX2_wallAt_29 : decode cX2_wallAt 29 = .ok (.bipush (-4), 2) := by decide +kernel
theorem dX2_wallAt_31 : decode cX2_wallAt 31 = .ok (.ireturn, 1) := by decide +kernel
theorem dX3_init_0 : decode cX3_init 0 = .ok (.aload_n 0, 1) := by decide +kernel
theorem dX3_init_1 : decode cX3_init 1 = .ok (.invokespecial 3, 3) := by decide +kernel
theorem dX3_init_4 : decode cX3_init 4 = .ok (.aload_n 0, 1) := by decide +kernel
theorem dX3_init_5 : decode cX3_init 5 = .ok (.bipush 12, 2) := by decide +kernel
theorem dX3_init_7 : decode cX3_init 7 = .ok (.newarray .int, 2) := by decide +kernel
theorem dX3_init_9 : decode cX3_init 9 = .ok (.putfield 9, 3) := by decide +kernel
theorem dX3_init_12 : decode cX3_init 12 = .ok (.aload_n 0, 1) := by decide +kernel
theorem dX3_init_13 : decode cX3_init 13 = .ok (.bipush 12, 2) := by decide +kernel
theorem dX3_init_15 : decode cX3_init 15 = .ok (.newarray .int, 2) := by decide +kernel
theorem dX3_init_17 : decode cX3_init 17 = .ok (.putfield 15, 3) := by decide +kernel
theorem dX3_init_20 : decode cX3_init 20 = .ok (.aload_n 0, 1) := by decide +kernel
theorem dX3_init_21 : decode cX3_init 21 = .ok (.bipush 12, 2) := by decide +kernel
theorem dX3_init_23 : decode cX3_init 23 = .ok (.newarray .int, 2) := by decide +kernel
theorem dX3_init_25 : decode cX3_init 25 = .ok (.putfield 18, 3) := by decide +kernel
theorem dX3_init_28 : decode cX3_init 28 = .ok (.aload_n 0, 1) := by decide +kernel
theorem dX3_init_29 : decode cX3_init 29 = .ok (.bipush 12, 2) := by decide +kernel
theorem dX3_init_31 : decode cX3_init 31 = .ok (.newarray .int, 2) := by decide +kernel
theorem dX3_init_33 : decode cX3_init 33 = .ok (.putfield 21, 3) := by decide +kernel
theorem dX3_init_36 : decode cX3_init 36 = .ok (.aload_n 0, 1) := by decide +kernel
theorem dX3_init_37 : decode cX3_init 37 = .ok (.iconst 3, 1) := by decide +kernel
theorem dX3_init_38 : decode cX3_init 38 = .ok (.newarray .int, 2) := by decide +kernel
theorem dX3_init_40 : decode cX3_init 40 = .ok (.putfield 24, 3) := by decide +kernel
theorem dX3_init_43 : decode cX3_init 43 = .ok (.aload_n 0, 1) := by decide +kernel
theorem dX3_init_44 : decode cX3_init 44 = .ok (.invokevirtual 27, 3) := by decide +kernel
theorem dX3_init_47 : decode cX3_init 47 = .ok (.return_, 1) := by decide +kernel
theorem dX3_clear_0 : decode cX3_clear 0 = .ok (.aload_n 0, 1) := by decide +kernel
theorem dX3_clear_1 : decode cX3_clear 1 = .ok (.iconst 0, 1) := by decide +kernel
theorem dX3_clear_2 : decode cX3_clear 2 = .ok (.putfield 30, 3) := by decide +kernel
theorem dX3_clear_5 : decode cX3_clear 5 = .ok (.aload_n 0, 1) := by decide +kernel
theorem dX3_clear_6 : decode cX3_clear 6 = .ok (.iconst 0, 1) := by decide +kernel
theorem dX3_clear_7 : decode cX3_clear 7 = .ok (.putfield 34, 3) := by decide +kernel
theorem dX3_clear_10 : decode cX3_clear 10 = .ok (.aload_n 0, 1) := by decide +kernel
theorem dX3_clear_11 : decode cX3_clear 11 = .ok (.iconst 3, 1) := by decide +kernel
theorem dX3_clear_12 : decode cX3_clear 12 = .ok (.putfield 37, 3) := by decide +kernel
theorem dX3_clear_15 : decode cX3_clear 15 = .ok (.aload_n 0, 1) := by decide +kernel
theorem dX3_clear_16 : decode cX3_clear 16 = .ok (.bipush 60, 2) := by decide +kernel
theorem dX3_clear_18 : decode cX3_clear 18 = .ok (.putfield 40, 3) := by decide +kernel
theorem dX3_clear_21 : decode cX3_clear 21 = .ok (.aload_n 0, 1) := by decide +kernel
theorem dX3_clear_22 : decode cX3_clear 22 = .ok (.iconst 2, 1) := by decide +kernel
theorem dX3_clear_23 : decode cX3_clear 23 = .ok (.putfield 43, 3) := by decide +kernel
theorem dX3_clear_26 : decode cX3_clear 26 = .ok (.aload_n 0, 1) := by decide +kernel
theorem dX3_clear_27 : decode cX3_clear 27 = .ok (.bipush 12, 2) := by decide +kernel
theorem dX3_clear_29 : decode cX3_clear 29 = .ok (.putfield 46, 3) := by decide +kernel
theorem dX3_clear_32 : decode cX3_clear 32 = .ok (.aload_n 0, 1) := by decide +kernel
theorem dX3_clear_33 : decode cX3_clear 33 = .ok (.iconst 0, 1) := by decide +kernel
theorem dX3_clear_34 : decode cX3_clear 34 = .ok (.putfield 49, 3) := by decide +kernel
theorem dX3_clear_37 : decode cX3_clear 37 = .ok (.aload_n 0, 1) := by decide +kernel
theorem dX3_clear_38 : decode cX3_clear 38 = .ok (.iconst 3, 1) := by decide +kernel
theorem dX3_clear_39 : decode cX3_clear 39 = .ok (.putfield 52, 3) := by decide +kernel
theorem dX3_clear_42 : decode cX3_clear 42 = .ok (.return_, 1) := by decide +kernel
theorem dX3_readText_0 : decode cX3_readText 0 = .ok (.aload_n 0, 1) := by decide +kernel
theorem dX3_readText_1 : decode cX3_readText 1 = .ok (.invokevirtual 27, 3) := by decide +kernel
theorem dX3_readText_4 : decode cX3_readText 4 = .ok (.iconst 0, 1) := by decide +kernel
theorem dX3_readText_5 : decode cX3_readText 5 = .ok (.istore_n 3, 1) := by decide +kernel
theorem dX3_readText_6 : decode cX3_readText 6 = .ok (.iconst 0, 1) := by decide +kernel
theorem dX3_readText_7 : decode cX3_readText 7 = .ok (.istore 4, 2) := by decide +kernel
theorem dX3_readText_9 : decode cX3_readText 9 = .ok (.iload 4, 2) := by decide +kernel
theorem dX3_readText_11 : decode cX3_readText 11 = .ok (.iload_n 2, 1) := by decide +kernel
theorem dX3_readText_12 : decode cX3_readText 12 = .ok (.if_icmp .ge 48, 3) := by decide +kernel
theorem dX3_readText_15 : decode cX3_readText 15 = .ok (.iload_n 3, 1) := by decide +kernel
theorem dX3_readText_16 : decode cX3_readText 16 = .ok (.iload_n 2, 1) := by decide +kernel
theorem dX3_readText_17 : decode cX3_readText 17 = .ok (.if_icmp .ge 43, 3) := by decide +kernel
theorem dX3_readText_20 : decode cX3_readText 20 = .ok (.aload_n 0, 1) := by decide +kernel
theorem dX3_readText_21 : decode cX3_readText 21 = .ok (.aload_n 1, 1) := by decide +kernel
theorem dX3_readText_22 : decode cX3_readText 22 = .ok (.iload_n 2, 1) := by decide +kernel
theorem dX3_readText_23 : decode cX3_readText 23 = .ok (.iload_n 3, 1) := by decide +kernel
theorem dX3_readText_24 : decode cX3_readText 24 = .ok (.invokevirtual 55, 3) := by decide +kernel
theorem dX3_readText_27 : decode cX3_readText 27 = .ok (.istore 5, 2) := by decide +kernel
theorem dX3_readText_29 : decode cX3_readText 29 = .ok (.iload 5, 2) := by decide +kernel
theorem dX3_readText_31 : decode cX3_readText 31 = .ok (.bipush (-4), 2) := by decide +kernel
theorem dX3_readText_33 : decode cX3_readText 33 = .ok (.if_icmp .eq 16, 3) := by decide +kernel
theorem dX3_readText_36 : decode cX3_readText 36 = .ok (.aload_n 0, 1) := by decide +kernel
theorem dX3_readText_37 : decode cX3_readText 37 = .ok (.aload_n 1, 1) := by decide +kernel
theorem dX3_readText_38 : decode cX3_readText 38 = .ok (.iload_n 2, 1) := by decide +kernel
theorem dX3_readText_39 : decode cX3_readText 39 = .ok (.iload_n 3, 1) := by decide +kernel
theorem dX3_readText_40 : decode cX3_readText 40 = .ok (.invokestatic 59, 3) := by decide +kernel
theorem dX3_readText_43 : decode cX3_readText 43 = .ok (.invokevirtual 62, 3) := by decide +kernel
theorem dX3_readText_46 : decode cX3_readText 46 = .ok (.ifCond .ne 5, 3) := by decide +kernel
theorem dX3_readText_49 : decode cX3_readText 49 = .ok (.iload_n 3, 1) := by decide +kernel
theorem dX3_readText_50 : decode cX3_readText 50 = .ok (.ireturn, 1) := by decide +kernel
theorem dX3_readText_51 : decode cX3_readText 51 = .ok (.iload 5, 2) := by decide +kernel
theorem dX3_readText_53 : decode cX3_readText 53 = .ok (.istore_n 3, 1) := by decide +kernel
theorem dX3_readText_54 : decode cX3_readText 54 = .ok (.iinc 4 1, 3) := by decide +kernel
theorem dX3_readText_57 : decode cX3_readText 57 = .ok (.goto (-48), 3) := by decide +kernel
theorem dX3_readText_60 : decode cX3_readText 60 = .ok (.bipush (-4), 2) := by decide +kernel
theorem dX3_readText_62 : decode cX3_readText 62 = .ok (.ireturn, 1) := by decide +kernel
theorem dX3_readNumbers_0 : decode cX3_readNumbers 0 = .ok (.aload_n 1, 1) := by decide +kernel
theorem dX3_readNumbers_1 : decode cX3_readNumbers 1 = .ok (.iload_n 2, 1) := by decide +kernel
theorem dX3_readNumbers_2 : decode cX3_readNumbers 2 = .ok (.iload_n 3, 1) := by decide +kernel
theorem dX3_readNumbers_3 : decode cX3_readNumbers 3 = .ok (.invokestatic 59, 3) := by decide +kernel
theorem dX3_readNumbers_6 : decode cX3_readNumbers 6 = .ok (.invokestatic 66, 3) := by decide +kernel
theorem dX3_readNumbers_9 : decode cX3_readNumbers 9 = .ok (.istore 4, 2) := by decide +kernel
theorem dX3_readNumbers_11 : decode cX3_readNumbers 11 = .ok (.iload 4, 2) := by decide +kernel
theorem dX3_readNumbers_13 : decode cX3_readNumbers 13 = .ok (.ifCond .ne 6, 3) := by decide +kernel
theorem dX3_readNumbers_16 : decode cX3_readNumbers 16 = .ok (.bipush (-4), 2) := by decide +kernel
theorem dX3_readNumbers_18 : decode cX3_readNumbers 18 = .ok (.ireturn, 1) := by decide +kernel
theorem dX3_readNumbers_19 : decode cX3_readNumbers 19 = .ok (.iload_n 3, 1) := by decide +kernel
theorem dX3_readNumbers_20 : decode cX3_readNumbers 20 = .ok (.iconst 1, 1) := by decide +kernel
theorem dX3_readNumbers_21 : decode cX3_readNumbers 21 = .ok (.iadd, 1) := by decide +kernel
theorem dX3_readNumbers_22 : decode cX3_readNumbers 22 = .ok (.istore 5, 2) := by decide +kernel
theorem dX3_readNumbers_24 : decode cX3_readNumbers 24 = .ok (.iconst 0, 1) := by decide +kernel
theorem dX3_readNumbers_25 : decode cX3_readNumbers 25 = .ok (.istore 6, 2) := by decide +kernel
theorem dX3_readNumbers_27 : decode cX3_readNumbers 27 = .ok (.iload 6, 2) := by decide +kernel
theorem dX3_readNumbers_29 : decode cX3_readNumbers 29 = .ok (.iload 4, 2) := by decide +kernel
theorem dX3_readNumbers_31 : decode cX3_readNumbers 31 = .ok (.if_icmp .ge 83, 3) := by decide +kernel
theorem dX3_readNumbers_34 : decode cX3_readNumbers 34 = .ok (.aload_n 1, 1) := by decide +kernel
theorem dX3_readNumbers_35 : decode cX3_readNumbers 35 = .ok (.iload_n 2, 1) := by decide +kernel
theorem dX3_readNumbers_36 : decode cX3_readNumbers 36 = .ok (.iload 5, 2) := by decide +kernel
theorem dX3_readNumbers_38 : decode cX3_readNumbers 38 = .ok (.invokestatic 70, 3) := by decide +kernel
theorem dX3_readNumbers_41 : decode cX3_readNumbers 41 = .ok (.istore 7, 2) := by decide +kernel
theorem dX3_readNumbers_43 : decode cX3_readNumbers 43 = .ok (.iload 7, 2) := by decide +kernel
theorem dX3_readNumbers_45 : decode cX3_readNumbers 45 = .ok (.ifCond .ne 6, 3) := by decide +kernel
theorem dX3_readNumbers_48 : decode cX3_readNumbers 48 = .ok (.bipush (-4), 2) := by decide +kernel
theorem dX3_readNumbers_50 : decode cX3_readNumbers 50 = .ok (.ireturn, 1) := by decide +kernel
theorem dX3_readNumbers_51 : decode cX3_readNumbers 51 = .ok (.aload_n 0, 1) := by decide +kernel
theorem dX3_readNumbers_52 : decode cX3_readNumbers 52 = .ok (.getfield 24, 3) := by decide +kernel
theorem dX3_readNumbers_55 : decode cX3_readNumbers 55 = .ok (.iload 6, 2) := by decide +kernel
theorem dX3_readNumbers_57 : decode cX3_readNumbers 57 = .ok (.aload_n 1, 1) := by decide +kernel
theorem dX3_readNumbers_58 : decode cX3_readNumbers 58 = .ok (.iload_n 2, 1) := by decide +kernel
theorem dX3_readNumbers_59 : decode cX3_readNumbers 59 = .ok (.iload 5, 2) := by decide +kernel
theorem dX3_readNumbers_61 : decode cX3_readNumbers 61 = .ok (.iload 7, 2) := by decide +kernel
theorem dX3_readNumbers_63 : decode cX3_readNumbers 63 = .ok (.invokestatic 73, 3) := by decide +kernel
theorem dX3_readNumbers_66 : decode cX3_readNumbers 66 = .ok (.invokestatic 77, 3) := by decide +kernel
theorem dX3_readNumbers_69 : decode cX3_readNumbers 69 = .ok (.iload 5, 2) := by decide +kernel
theorem dX3_readNumbers_71 : decode cX3_readNumbers 71 = .ok (.iload 7, 2) := by decide +kernel
theorem dX3_readNumbers_73 : decode cX3_readNumbers 73 = .ok (.iadd, 1) := by decide +kernel
theorem dX3_readNumbers_74 : decode cX3_readNumbers 74 = .ok (.istore 5, 2) := by decide +kernel
theorem dX3_readNumbers_76 : decode cX3_readNumbers 76 = .ok (.aload_n 1, 1) := by decide +kernel
theorem dX3_readNumbers_77 : decode cX3_readNumbers 77 = .ok (.iload_n 2, 1) := by decide +kernel
theorem dX3_readNumbers_78 : decode cX3_readNumbers 78 = .ok (.iload 5, 2) := by decide +kernel
theorem dX3_readNumbers_80 : decode cX3_readNumbers 80 = .ok (.invokestatic 59, 3) := by decide +kernel
theorem dX3_readNumbers_83 : decode cX3_readNumbers 83 = .ok (.iload 6, 2) := by decide +kernel
theorem dX3_readNumbers_85 : decode cX3_readNumbers 85 = .ok (.iconst 1, 1) := by decide +kernel
theorem dX3_readNumbers_86 : decode cX3_readNumbers 86 = .ok (.iadd, 1) := by decide +kernel
theorem dX3_readNumbers_87 : decode cX3_readNumbers 87 = .ok (.iload 4, 2) := by decide +kernel
theorem dX3_readNumbers_89 : decode cX3_readNumbers 89 = .ok (.if_icmp .ne 8, 3) := by decide +kernel
theorem dX3_readNumbers_92 : decode cX3_readNumbers 92 = .ok (.bipush 59, 2) := by decide +kernel
theorem dX3_readNumbers_94 : decode cX3_readNumbers 94 = .ok (.goto 5, 3) := by decide +kernel
theorem dX3_readNumbers_97 : decode cX3_readNumbers 97 = .ok (.bipush 44, 2) := by decide +kernel
theorem dX3_readNumbers_99 : decode cX3_readNumbers 99 = .ok (.if_icmp .eq 6, 3) := by decide +kernel
theorem dX3_readNumbers_102 : decode cX3_readNumbers 102 = .ok (.bipush (-4), 2) := by decide +kernel
theorem dX3_readNumbers_104 : decode cX3_readNumbers 104 = .ok (.ireturn, 1) := by decide +kernel
theorem dX3_readNumbers_105 : decode cX3_readNumbers 105 = .ok (.iinc 5 1, 3) := by decide +kernel
theorem dX3_readNumbers_108 : decode cX3_readNumbers 108 = .ok (.iinc 6 1, 3) := by decide +kernel
theorem dX3_readNumbers_111 : decode cX3_readNumbers 111 = .ok (.goto (-84), 3) := by decide +kernel
theorem dX3_readNumbers_114 : decode cX3_readNumbers 114 = .ok (.iload 5, 2) := by decide +kernel
theorem dX3_readNumbers_116 : decode cX3_readNumbers 116 = .ok (.ireturn, 1) := by decide +kernel
theorem dX3_numbersBehind_0 : decode cX3_numbersBehind 0 = .ok (.iload_n 0, 1) := by decide +kernel
theorem dX3_numbersBehind_1 : decode cX3_numbersBehind 1 = .ok (.tableswitch 85 100 115 #[83, 85, 85, 85, 83, 85, 85, 81, 85, 85, 85, 83, 85, 85, 81, 79], 79) := by decide +kernel
theorem dX3_numbersBehind_80 : decode cX3_numbersBehind 80 = .ok (.iconst 3, 1) := by decide +kernel
theorem dX3_numbersBehind_81 : decode cX3_numbersBehind 81 = .ok (.ireturn, 1) := by decide +kernel
theorem dX3_numbersBehind_82 : decode cX3_numbersBehind 82 = .ok (.iconst 2, 1) := by decide +kernel
theorem dX3_numbersBehind_83 : decode cX3_numbersBehind 83 = .ok (.ireturn, 1) := by decide +kernel
theorem dX3_numbersBehind_84 : decode cX3_numbersBehind 84 = .ok (.iconst 1, 1) := by decide +kernel
theorem dX3_numbersBehind_85 : decode cX3_numbersBehind 85 = .ok (.ireturn, 1) := by decide +kernel
theorem dX3_numbersBehind_86 : decode cX3_numbersBehind 86 = .ok (.iconst 0, 1) := by decide +kernel
theorem dX3_numbersBehind_87 : decode cX3_numbersBehind 87 = .ok (.ireturn, 1) := by decide +kernel
theorem dX3_figuresAt_0 : decode cX3_figuresAt 0 = .ok (.aload_n 0, 1) := by decide +kernel
theorem dX3_figuresAt_1 : decode cX3_figuresAt 1 = .ok (.iload_n 1, 1) := by decide +kernel
theorem dX3_figuresAt_2 : decode cX3_figuresAt 2 = .ok (.iload_n 2, 1) := by decide +kernel
theorem dX3_figuresAt_3 : decode cX3_figuresAt 3 = .ok (.invokestatic 59, 3) := by decide +kernel
theorem dX3_figuresAt_6 : decode cX3_figuresAt 6 = .ok (.invokestatic 81, 3) := by decide +kernel
theorem dX3_figuresAt_9 : decode cX3_figuresAt 9 = .ok (.ifCond .ne 5, 3) := by decide +kernel
theorem dX3_figuresAt_12 : decode cX3_figuresAt 12 = .ok (.iconst 0, 1) := by decide +kernel
theorem dX3_figuresAt_13 : decode cX3_figuresAt 13 = .ok (.ireturn, 1) := by decide +kernel
theorem dX3_figuresAt_14 : decode cX3_figuresAt 14 = .ok (.aload_n 0, 1) := by decide +kernel
theorem dX3_figuresAt_15 : decode cX3_figuresAt 15 = .ok (.iload_n 1, 1) := by decide +kernel
theorem dX3_figuresAt_16 : decode cX3_figuresAt 16 = .ok (.iload_n 2, 1) := by decide +kernel
theorem dX3_figuresAt_17 : decode cX3_figuresAt 17 = .ok (.iconst 1, 1) := by decide +kernel
theorem dX3_figuresAt_18 : decode cX3_figuresAt 18 = .ok (.iadd, 1) := by decide +kernel
theorem dX3_figuresAt_19 : decode cX3_figuresAt 19 = .ok (.invokestatic 59, 3) := by decide +kernel
theorem dX3_figuresAt_22 : decode cX3_figuresAt 22 = .ok (.invokestatic 81, 3) := by decide +kernel
theorem dX3_figuresAt_25 : decode cX3_figuresAt 25 = .ok (.ifCond .eq 7, 3) := by decide +kernel
theorem dX3_figuresAt_28 : decode cX3_figuresAt 28 = .ok (.iconst 2, 1) := by decide +kernel
theorem dX3_figuresAt_29 : decode cX3_figuresAt 29 = .ok (.goto 4, 3) := by decide +kernel
theorem dX3_figuresAt_32 : decode cX3_figuresAt 32 = .ok (.iconst 1, 1) := by decide +kernel
theorem dX3_figuresAt_33 : decode cX3_figuresAt 33 = .ok (.ireturn, 1) := by decide +kernel
theorem dX3_numberAt_0 : decode cX3_numberAt 0 = .ok (.iconst 0, 1) := by decide +kernel
theorem dX3_numberAt_1 : decode cX3_numberAt 1 = .ok (.istore 4, 2) := by decide +kernel
theorem dX3_numberAt_3 : decode cX3_numberAt 3 = .ok (.iconst 0, 1) := by decide +kernel
theorem dX3_numberAt_4 : decode cX3_numberAt 4 = .ok (.istore 5, 2) := by decide +kernel
theorem dX3_numberAt_6 : decode cX3_numberAt 6 = .ok (.iload 5, 2) := by decide +kernel
theorem dX3_numberAt_8 : decode cX3_numberAt 8 = .ok (.iload_n 3, 1) := by decide +kernel
theorem dX3_numberAt_9 : decode cX3_numberAt 9 = .ok (.if_icmp .ge 29, 3) := by decide +kernel
theorem dX3_numberAt_12 : decode cX3_numberAt 12 = .ok (.iload 4, 2) := by decide +kernel
theorem dX3_numberAt_14 : decode cX3_numberAt 14 = .ok (.bipush 10, 2) := by decide +kernel
theorem dX3_numberAt_16 : decode cX3_numberAt 16 = .ok (.imul, 1) := by decide +kernel
theorem dX3_numberAt_17 : decode cX3_numberAt 17 = .ok (.aload_n 0, 1) := by decide +kernel
theorem dX3_numberAt_18 : decode cX3_numberAt 18 = .ok (.iload_n 1, 1) := by decide +kernel
theorem dX3_numberAt_19 : decode cX3_numberAt 19 = .ok (.iload_n 2, 1) := by decide +kernel
theorem dX3_numberAt_20 : decode cX3_numberAt 20 = .ok (.iload 5, 2) := by decide +kernel
theorem dX3_numberAt_22 : decode cX3_numberAt 22 = .ok (.iadd, 1) := by decide +kernel
theorem dX3_numberAt_23 : decode cX3_numberAt 23 = .ok (.invokestatic 59, 3) := by decide +kernel
theorem dX3_numberAt_26 : decode cX3_numberAt 26 = .ok (.iadd, 1) := by decide +kernel
theorem dX3_numberAt_27 : decode cX3_numberAt 27 = .ok (.bipush 48, 2) := by decide +kernel
theorem dX3_numberAt_29 : decode cX3_numberAt 29 = .ok (.isub, 1) := by decide +kernel
theorem dX3_numberAt_30 : decode cX3_numberAt 30 = .ok (.istore 4, 2) := by decide +kernel
theorem dX3_numberAt_32 : decode cX3_numberAt 32 = .ok (.iinc 5 1, 3) := by decide +kernel
theorem dX3_numberAt_35 : decode cX3_numberAt 35 = .ok (.goto (-29), 3) := by decide +kernel
theorem dX3_numberAt_38 : decode cX3_numberAt 38 = .ok (.iload 4, 2) := by decide +kernel
theorem dX3_numberAt_40 : decode cX3_numberAt 40 = .ok (.ireturn, 1) := by decide +kernel
theorem dX3_isFigure_0 : decode cX3_isFigure 0 = .ok (.iload_n 0, 1) := by decide +kernel
theorem dX3_isFigure_1 : decode cX3_isFigure 1 = .ok (.bipush 48, 2) := by decide +kernel
theorem dX3_isFigure_3 : decode cX3_isFigure 3 = .ok (.bipush 57, 2) := by decide +kernel
theorem dX3_isFigure_5 : decode cX3_isFigure 5 = .ok (.invokestatic 84, 3) := by decide +kernel
theorem dX3_isFigure_8 : decode cX3_isFigure 8 = .ok (.ireturn, 1) := by decide +kernel
theorem dX3_letterAt_0 : decode cX3_letterAt 0 = .ok (.iload_n 2, 1) := by decide +kernel
theorem dX3_letterAt_1 : decode cX3_letterAt 1 = .ok (.ifCond .lt 20, 3) := by decide +kernel
theorem dX3_letterAt_4 : decode cX3_letterAt 4 = .ok (.iload_n 2, 1) := by decide +kernel
theorem dX3_letterAt_5 : decode cX3_letterAt 5 = .ok (.iload_n 1, 1) := by decide +kernel
theorem dX3_letterAt_6 : decode cX3_letterAt 6 = .ok (.if_icmp .ge 15, 3) := by decide +kernel
theorem dX3_letterAt_9 : decode cX3_letterAt 9 = .ok (.iload_n 2, 1) := by decide +kernel
theorem dX3_letterAt_10 : decode cX3_letterAt 10 = .ok (.aload_n 0, 1) := by decide +kernel
theorem dX3_letterAt_11 : decode cX3_letterAt 11 = .ok (.arraylength, 1) := by decide +kernel
theorem dX3_letterAt_12 : decode cX3_letterAt 12 = .ok (.if_icmp .ge 9, 3) := by decide +kernel
theorem dX3_letterAt_15 : decode cX3_letterAt 15 = .ok (.aload_n 0, 1) := by decide +kernel
theorem dX3_letterAt_16 : decode cX3_letterAt 16 = .ok (.iload_n 2, 1) := by decide +kernel
theorem dX3_letterAt_17 : decode cX3_letterAt 17 = .ok (.caload, 1) := by decide +kernel
theorem dX3_letterAt_18 : decode cX3_letterAt 18 = .ok (.goto 4, 3) := by decide +kernel
theorem dX3_letterAt_21 : decode cX3_letterAt 21 = .ok (.iconst 0, 1) := by decide +kernel
theorem dX3_letterAt_22 : decode cX3_letterAt 22 = .ok (.ireturn, 1) := by decide +kernel
theorem dX3_takeItem_0 : decode cX3_takeItem 0 = .ok (.aload_n 0, 1) := by decide +kernel
theorem dX3_takeItem_1 : decode cX3_takeItem 1 = .ok (.getfield 24, 3) := by decide +kernel
theorem dX3_takeItem_4 : decode cX3_takeItem 4 = .ok (.iconst 0, 1) := by decide +kernel
theorem dX3_takeItem_5 : decode cX3_takeItem 5 = .ok (.invokestatic 88, 3) := by decide +kernel
theorem dX3_takeItem_8 : decode cX3_takeItem 8 = .ok (.istore_n 2, 1) := by decide +kernel
theorem dX3_takeItem_9 : decode cX3_takeItem 9 = .ok (.aload_n 0, 1) := by decide +kernel
theorem dX3_takeItem_10 : decode cX3_takeItem 10 = .ok (.getfield 24, 3) := by decide +kernel
theorem dX3_takeItem_13 : decode cX3_takeItem 13 = .ok (.iconst 1, 1) := by decide +kernel
theorem dX3_takeItem_14 : decode cX3_takeItem 14 = .ok (.invokestatic 88, 3) := by decide +kernel
theorem dX3_takeItem_17 : decode cX3_takeItem 17 = .ok (.istore_n 3, 1) := by decide +kernel
theorem dX3_takeItem_18 : decode cX3_takeItem 18 = .ok (.iload_n 1, 1) := by decide +kernel
theorem dX3_takeItem_19 : decode cX3_takeItem 19 = .ok (.tableswitch 194 100 115 #[188, 194, 194, 194, 140, 194, 194, 153, 194, 194, 194, 128, 194, 194, 92, 77], 77) := by decide +kernel
theorem dX3_takeItem_96 : decode cX3_takeItem 96 = .ok (.aload_n 0, 1) := by decide +kernel
theorem dX3_takeItem_97 : decode cX3_takeItem 97 = .ok (.iload_n 2, 1) := by decide +kernel
theorem dX3_takeItem_98 : decode cX3_takeItem 98 = .ok (.iload_n 3, 1) := by decide +kernel
theorem dX3_takeItem_99 : decode cX3_takeItem 99 = .ok (.aload_n 0, 1) := by decide +kernel
theorem dX3_takeItem_100 : decode cX3_takeItem 100 = .ok (.getfield 24, 3) := by decide +kernel
theorem dX3_takeItem_103 : decode cX3_takeItem 103 = .ok (.iconst 2, 1) := by decide +kernel
theorem dX3_takeItem_104 : decode cX3_takeItem 104 = .ok (.invokestatic 88, 3) := by decide +kernel
theorem dX3_takeItem_107 : decode cX3_takeItem 107 = .ok (.invokevirtual 92, 3) := by decide +kernel
theorem dX3_takeItem_110 : decode cX3_takeItem 110 = .ok (.ireturn, 1) := by decide +kernel
theorem dX3_takeItem_111 : decode cX3_takeItem 111 = .ok (.aload_n 0, 1) := by decide +kernel
theorem dX3_takeItem_112 : decode cX3_takeItem 112 = .ok (.iload_n 2, 1) := by decide +kernel
theorem dX3_takeItem_113 : decode cX3_takeItem 113 = .ok (.putfield 37, 3) := by decide +kernel
theorem dX3_takeItem_116 : decode cX3_takeItem 116 = .ok (.aload_n 0, 1) := by decide +kernel
theorem dX3_takeItem_117 : decode cX3_takeItem 117 = .ok (.iload_n 3, 1) := by decide +kernel
theorem dX3_takeItem_118 : decode cX3_takeItem 118 = .ok (.putfield 40, 3) := by decide +kernel
theorem dX3_takeItem_121 : decode cX3_takeItem 121 = .ok (.iload_n 2, 1) := by decide +kernel
theorem dX3_takeItem_122 : decode cX3_takeItem 122 = .ok (.iconst 1, 1) := by decide +kernel
theorem dX3_takeItem_123 : decode cX3_takeItem 123 = .ok (.bipush 6, 2) := by decide +kernel
theorem dX3_takeItem_125 : decode cX3_takeItem 125 = .ok (.invokestatic 84, 3) := by decide +kernel
theorem dX3_takeItem_128 : decode cX3_takeItem 128 = .ok (.ifCond .eq 17, 3) := by decide +kernel
theorem dX3_takeItem_131 : decode cX3_takeItem 131 = .ok (.iload_n 3, 1) := by decide +kernel
theorem dX3_takeItem_132 : decode cX3_takeItem 132 = .ok (.iconst 1, 1) := by decide +kernel
theorem dX3_takeItem_133 : decode cX3_takeItem 133 = .ok (.bipush 99, 2) := by decide +kernel
theorem dX3_takeItem_135 : decode cX3_takeItem 135 = .ok (.invokestatic 84, 3) := by decide +kernel
theorem dX3_takeItem_138 : decode cX3_takeItem 138 = .ok (.ifCond .eq 7, 3) := by decide +kernel
theorem dX3_takeItem_141 : decode cX3_takeItem 141 = .ok (.iconst 1, 1) := by decide +kernel
theorem dX3_takeItem_142 : decode cX3_takeItem 142 = .ok (.goto 4, 3) := by decide +kernel
theorem dX3_takeItem_145 : decode cX3_takeItem 145 = .ok (.iconst 0, 1) := by decide +kernel
theorem dX3_takeItem_146 : decode cX3_takeItem 146 = .ok (.ireturn, 1) := by decide +kernel
theorem dX3_takeItem_147 : decode cX3_takeItem 147 = .ok (.aload_n 0, 1) := by decide +kernel
theorem dX3_takeItem_148 : decode cX3_takeItem 148 = .ok (.iload_n 2, 1) := by decide +kernel
theorem dX3_takeItem_149 : decode cX3_takeItem 149 = .ok (.putfield 43, 3) := by decide +kernel
theorem dX3_takeItem_152 : decode cX3_takeItem 152 = .ok (.iload_n 2, 1) := by decide +kernel
theorem dX3_takeItem_153 : decode cX3_takeItem 153 = .ok (.iconst 0, 1) := by decide +kernel
theorem dX3_takeItem_154 : decode cX3_takeItem 154 = .ok (.iconst 5, 1) := by decide +kernel
theorem dX3_takeItem_155 : decode cX3_takeItem 155 = .ok (.invokestatic 84, 3) := by decide +kernel
theorem dX3_takeItem_158 : decode cX3_takeItem 158 = .ok (.ireturn, 1) := by decide +kernel
theorem dX3_takeItem_159 : decode cX3_takeItem 159 = .ok (.aload_n 0, 1) := by decide +kernel
theorem dX3_takeItem_160 : decode cX3_takeItem 160 = .ok (.iload_n 2, 1) := by decide +kernel
theorem dX3_takeItem_161 : decode cX3_takeItem 161 = .ok (.putfield 46, 3) := by decide +kernel
theorem dX3_takeItem_164 : decode cX3_takeItem 164 = .ok (.iload_n 2, 1) := by decide +kernel
theorem dX3_takeItem_165 : decode cX3_takeItem 165 = .ok (.iconst 1, 1) := by decide +kernel
theorem dX3_takeItem_166 : decode cX3_takeItem 166 = .ok (.bipush 30, 2) := by decide +kernel
theorem dX3_takeItem_168 : decode cX3_takeItem 168 = .ok (.invokestatic 84, 3) := by decide +kernel
theorem dX3_takeItem_171 : decode cX3_takeItem 171 = .ok (.ireturn, 1) := by decide +kernel
theorem dX3_takeItem_172 : decode cX3_takeItem 172 = .ok (.aload_n 0, 1) := by decide +kernel
theorem dX3_takeItem_173 : decode cX3_takeItem 173 = .ok (.iload_n 2, 1) := by decide +kernel
theorem dX3_takeItem_174 : decode cX3_takeItem 174 = .ok (.putfield 49, 3) := by decide +kernel
theorem dX3_takeItem_177 : decode cX3_takeItem 177 = .ok (.aload_n 0, 1) := by decide +kernel
theorem dX3_takeItem_178 : decode cX3_takeItem 178 = .ok (.iload_n 3, 1) := by decide +kernel
theorem dX3_takeItem_179 : decode cX3_takeItem 179 = .ok (.putfield 52, 3) := by decide +kernel
theorem dX3_takeItem_182 : decode cX3_takeItem 182 = .ok (.iload_n 2, 1) := by decide +kernel
theorem dX3_takeItem_183 : decode cX3_takeItem 183 = .ok (.iconst 0, 1) := by decide +kernel
theorem dX3_takeItem_184 : decode cX3_takeItem 184 = .ok (.iconst 3, 1) := by decide +kernel
theorem dX3_takeItem_185 : decode cX3_takeItem 185 = .ok (.invokestatic 84, 3) := by decide +kernel
theorem dX3_takeItem_188 : decode cX3_takeItem 188 = .ok (.ifCond .eq 17, 3) := by decide +kernel
theorem dX3_takeItem_191 : decode cX3_takeItem 191 = .ok (.iload_n 3, 1) := by decide +kernel
theorem dX3_takeItem_192 : decode cX3_takeItem 192 = .ok (.iconst 1, 1) := by decide +kernel
theorem dX3_takeItem_193 : decode cX3_takeItem 193 = .ok (.bipush 9, 2) := by decide +kernel
theorem dX3_takeItem_195 : decode cX3_takeItem 195 = .ok (.invokestatic 84, 3) := by decide +kernel
theorem dX3_takeItem_198 : decode cX3_takeItem 198 = .ok (.ifCond .eq 7, 3) := by decide +kernel
theorem dX3_takeItem_201 : decode cX3_takeItem 201 = .ok (.iconst 1, 1) := by decide +kernel
theorem dX3_takeItem_202 : decode cX3_takeItem 202 = .ok (.goto 4, 3) := by decide +kernel
theorem dX3_takeItem_205 : decode cX3_takeItem 205 = .ok (.iconst 0, 1) := by decide +kernel
theorem dX3_takeItem_206 : decode cX3_takeItem 206 = .ok (.ireturn, 1) := by decide +kernel
theorem dX3_takeItem_207 : decode cX3_takeItem 207 = .ok (.aload_n 0, 1) := by decide +kernel
theorem dX3_takeItem_208 : decode cX3_takeItem 208 = .ok (.iload_n 2, 1) := by decide +kernel
theorem dX3_takeItem_209 : decode cX3_takeItem 209 = .ok (.invokevirtual 95, 3) := by decide +kernel
theorem dX3_takeItem_212 : decode cX3_takeItem 212 = .ok (.ireturn, 1) := by decide +kernel
theorem dX3_takeItem_213 : decode cX3_takeItem 213 = .ok (.iconst 0, 1) := by decide +kernel
theorem dX3_takeItem_214 : decode cX3_takeItem 214 = .ok (.ireturn, 1) := by decide +kernel
theorem dX3_takeStrip_0 : decode cX3_takeStrip 0 = .ok (.aload_n 0, 1) := by decide +kernel
theorem dX3_takeStrip_1 : decode cX3_takeStrip 1 = .ok (.getfield 30, 3) := by decide +kernel
theorem dX3_takeStrip_4 : decode cX3_takeStrip 4 = .ok (.bipush 12, 2) := by decide +kernel
theorem dX3_takeStrip_6 : decode cX3_takeStrip 6 = .ok (.if_icmp .ge 13, 3) := by decide +kernel
theorem dX3_takeStrip_9 : decode cX3_takeStrip 9 = .ok (.iload_n 1, 1) := by decide +kernel
theorem dX3_takeStrip_10 : decode cX3_takeStrip 10 = .ok (.iconst 1, 1) := by decide +kernel
theorem dX3_takeStrip_11 : decode cX3_takeStrip 11 = .ok (.bipush 40, 2) := by decide +kernel
theorem dX3_takeStrip_13 : decode cX3_takeStrip 13 = .ok (.invokestatic 84, 3) := by decide +kernel
theorem dX3_takeStrip_16 : decode cX3_takeStrip 16 = .ok (.ifCond .ne 5, 3) := by decide +kernel
theorem dX3_takeStrip_19 : decode cX3_takeStrip 19 = .ok (.iconst 0, 1) := by decide +kernel
theorem dX3_takeStrip_20 : decode cX3_takeStrip 20 = .ok (.ireturn, 1) := by decide +kernel
theorem dX3_takeStrip_21 : decode cX3_takeStrip 21 = .ok (.iload_n 2, 1) := by decide +kernel
theorem dX3_takeStrip_22 : decode cX3_takeStrip 22 = .ok (.iconst 0, 1) := by decide +kernel
theorem dX3_takeStrip_23 : decode cX3_takeStrip 23 = .ok (.bipush 9, 2) := by decide +kernel
theorem dX3_takeStrip_25 : decode cX3_takeStrip 25 = .ok (.invokestatic 84, 3) := by decide +kernel
theorem dX3_takeStrip_28 : decode cX3_takeStrip 28 = .ok (.ifCond .eq 13, 3) := by decide +kernel
theorem dX3_takeStrip_31 : decode cX3_takeStrip 31 = .ok (.iload_n 3, 1) := by decide +kernel
theorem dX3_takeStrip_32 : decode cX3_takeStrip 32 = .ok (.iconst 0, 1) := by decide +kernel
theorem dX3_takeStrip_33 : decode cX3_takeStrip 33 = .ok (.bipush 9, 2) := by decide +kernel
theorem dX3_takeStrip_35 : decode cX3_takeStrip 35 = .ok (.invokestatic 84, 3) := by decide +kernel
theorem dX3_takeStrip_38 : decode cX3_takeStrip 38 = .ok (.ifCond .ne 5, 3) := by decide +kernel
theorem dX3_takeStrip_41 : decode cX3_takeStrip 41 = .ok (.iconst 0, 1) := by decide +kernel
theorem dX3_takeStrip_42 : decode cX3_takeStrip 42 = .ok (.ireturn, 1) := by decide +kernel
theorem dX3_takeStrip_43 : decode cX3_takeStrip 43 = .ok (.aload_n 0, 1) := by decide +kernel
theorem dX3_takeStrip_44 : decode cX3_takeStrip 44 = .ok (.getfield 9, 3) := by decide +kernel
theorem dX3_takeStrip_47 : decode cX3_takeStrip 47 = .ok (.aload_n 0, 1) := by decide +kernel
theorem dX3_takeStrip_48 : decode cX3_takeStrip 48 = .ok (.getfield 30, 3) := by decide +kernel
theorem dX3_takeStrip_51 : decode cX3_takeStrip 51 = .ok (.iload_n 1, 1) := by decide +kernel
theorem dX3_takeStrip_52 : decode cX3_takeStrip 52 = .ok (.invokestatic 77, 3) := by decide +kernel
theorem dX3_takeStrip_55 : decode cX3_takeStrip 55 = .ok (.aload_n 0, 1) := by decide +kernel
theorem dX3_takeStrip_56 : decode cX3_takeStrip 56 = .ok (.getfield 15, 3) := by decide +kernel
theorem dX3_takeStrip_59 : decode cX3_takeStrip 59 = .ok (.aload_n 0, 1) := by decide +kernel
theorem dX3_takeStrip_60 : decode cX3_takeStrip 60 = .ok (.getfield 30, 3) := by decide +kernel
theorem dX3_takeStrip_63 : decode cX3_takeStrip 63 = .ok (.iload_n 2, 1) := by decide +kernel
theorem dX3_takeStrip_64 : decode cX3_takeStrip 64 = .ok (.invokestatic 77, 3) := by decide +kernel
theorem dX3_takeStrip_67 : decode cX3_takeStrip 67 = .ok (.aload_n 0, 1) := by decide +kernel
theorem dX3_takeStrip_68 : decode cX3_takeStrip 68 = .ok (.getfield 18, 3) := by decide +kernel
theorem dX3_takeStrip_71 : decode cX3_takeStrip 71 = .ok (.aload_n 0, 1) := by decide +kernel
theorem dX3_takeStrip_72 : decode cX3_takeStrip 72 = .ok (.getfield 30, 3) := by decide +kernel
theorem dX3_takeStrip_75 : decode cX3_takeStrip 75 = .ok (.iload_n 3, 1) := by decide +kernel
theorem dX3_takeStrip_76 : decode cX3_takeStrip 76 = .ok (.invokestatic 77, 3) := by decide +kernel
theorem dX3_takeStrip_79 : decode cX3_takeStrip 79 = .ok (.aload_n 0, 1) := by decide +kernel
theorem dX3_takeStrip_80 : decode cX3_takeStrip 80 = .ok (.dup, 1) := by decide +kernel
theorem dX3_takeStrip_81 : decode cX3_takeStrip 81 = .ok (.getfield 30, 3) := by decide +kernel
theorem dX3_takeStrip_84 : decode cX3_takeStrip 84 = .ok (.iconst 1, 1) := by decide +kernel
theorem dX3_takeStrip_85 : decode cX3_takeStrip 85 = .ok (.iadd, 1) := by decide +kernel
theorem dX3_takeStrip_86 : decode cX3_takeStrip 86 = .ok (.putfield 30, 3) := by decide +kernel
theorem dX3_takeStrip_89 : decode cX3_takeStrip 89 = .ok (.iconst 1, 1) := by decide +kernel
theorem dX3_takeStrip_90 : decode cX3_takeStrip 90 = .ok (.ireturn, 1) := by decide +kernel
theorem dX3_takeDamp_0 : decode cX3_takeDamp 0 = .ok (.aload_n 0, 1) := by decide +kernel
theorem dX3_takeDamp_1 : decode cX3_takeDamp 1 = .ok (.getfield 34, 3) := by decide +kernel
theorem dX3_takeDamp_4 : decode cX3_takeDamp 4 = .ok (.bipush 12, 2) := by decide +kernel
theorem dX3_takeDamp_6 : decode cX3_takeDamp 6 = .ok (.if_icmp .ge 13, 3) := by decide +kernel
theorem dX3_takeDamp_9 : decode cX3_takeDamp 9 = .ok (.iload_n 1, 1) := by decide +kernel
theorem dX3_takeDamp_10 : decode cX3_takeDamp 10 = .ok (.iconst 0, 1) := by decide +kernel
theorem dX3_takeDamp_11 : decode cX3_takeDamp 11 = .ok (.bipush 9, 2) := by decide +kernel
theorem dX3_takeDamp_13 : decode cX3_takeDamp 13 = .ok (.invokestatic 84, 3) := by decide +kernel
theorem dX3_takeDamp_16 : decode cX3_takeDamp 16 = .ok (.ifCond .ne 5, 3) := by decide +kernel
theorem dX3_takeDamp_19 : decode cX3_takeDamp 19 = .ok (.iconst 0, 1) := by decide +kernel
theorem dX3_takeDamp_20 : decode cX3_takeDamp 20 = .ok (.ireturn, 1) := by decide +kernel
theorem dX3_takeDamp_21 : decode cX3_takeDamp 21 = .ok (.aload_n 0, 1) := by decide +kernel
theorem dX3_takeDamp_22 : decode cX3_takeDamp 22 = .ok (.getfield 21, 3) := by decide +kernel
theorem dX3_takeDamp_25 : decode cX3_takeDamp 25 = .ok (.aload_n 0, 1) := by decide +kernel
theorem dX3_takeDamp_26 : decode cX3_takeDamp 26 = .ok (.getfield 34, 3) := by decide +kernel
theorem dX3_takeDamp_29 : decode cX3_takeDamp 29 = .ok (.iload_n 1, 1) := by decide +kernel
theorem dX3_takeDamp_30 : decode cX3_takeDamp 30 = .ok (.invokestatic 77, 3) := by decide +kernel
theorem dX3_takeDamp_33 : decode cX3_takeDamp 33 = .ok (.aload_n 0, 1) := by decide +kernel
theorem dX3_takeDamp_34 : decode cX3_takeDamp 34 = .ok (.dup, 1) := by decide +kernel
theorem dX3_takeDamp_35 : decode cX3_takeDamp 35 = .ok (.getfield 34, 3) := by decide +kernel
theorem dX3_takeDamp_38 : decode cX3_takeDamp 38 = .ok (.iconst 1, 1) := by decide +kernel
theorem dX3_takeDamp_39 : decode cX3_takeDamp 39 = .ok (.iadd, 1) := by decide +kernel
theorem dX3_takeDamp_40 : decode cX3_takeDamp 40 = .ok (.putfield 34, 3) := by decide +kernel
theorem dX3_takeDamp_43 : decode cX3_takeDamp 43 = .ok (.iconst 1, 1) := by decide +kernel
theorem dX3_takeDamp_44 : decode cX3_takeDamp 44 = .ok (.ireturn, 1) := by decide +kernel
theorem dX3_lengthOfStrip_0 : decode cX3_lengthOfStrip 0 = .ok (.aload_n 0, 1) := by decide +kernel
theorem dX3_lengthOfStrip_1 : decode cX3_lengthOfStrip 1 = .ok (.getfield 9, 3) := by decide +kernel
theorem dX3_lengthOfStrip_4 : decode cX3_lengthOfStrip 4 = .ok (.iload_n 1, 1) := by decide +kernel
theorem dX3_lengthOfStrip_5 : decode cX3_lengthOfStrip 5 = .ok (.invokestatic 88, 3) := by decide +kernel
theorem dX3_lengthOfStrip_8 : decode cX3_lengthOfStrip 8 = .ok (.ireturn, 1) := by decide +kernel
theorem dX3_lightAt_0 : decode cX3_lightAt 0 = .ok (.aload_n 0, 1) := by decide +kernel
theorem dX3_lightAt_1 : decode cX3_lightAt 1 = .ok (.getfield 15, 3) := by decide +kernel
theorem dX3_lightAt_4 : decode cX3_lightAt 4 = .ok (.iload_n 1, 1) := by decide +kernel
theorem dX3_lightAt_5 : decode cX3_lightAt 5 = .ok (.invokestatic 88, 3) := by decide +kernel
theorem dX3_lightAt_8 : decode cX3_lightAt 8 = .ok (.ireturn, 1) := by decide +kernel
theorem dX3_treadAt_0 : decode cX3_treadAt 0 = .ok (.aload_n 0, 1) := by decide +kernel
theorem dX3_treadAt_1 : decode cX3_treadAt 1 = .ok (.getfield 18, 3) := by decide +kernel
theorem dX3_treadAt_4 : decode cX3_treadAt 4 = .ok (.iload_n 1, 1) := by decide +kernel
theorem dX3_treadAt_5 : decode cX3_treadAt 5 = .ok (.invokestatic 88, 3) := by decide +kernel
theorem dX3_treadAt_8 : decode cX3_treadAt 8 = .ok (.ireturn, 1) := by decide +kernel
theorem dX3_dampOf_0 : decode cX3_dampOf 0 = .ok (.aload_n 0, 1) := by decide +kernel
theorem dX3_dampOf_1 : decode cX3_dampOf 1 = .ok (.getfield 34, 3) := by decide +kernel
theorem dX3_dampOf_4 : decode cX3_dampOf 4 = .ok (.ifCond .le 19, 3) := by decide +kernel
theorem dX3_dampOf_7 : decode cX3_dampOf 7 = .ok (.aload_n 0, 1) := by decide +kernel
theorem dX3_dampOf_8 : decode cX3_dampOf 8 = .ok (.getfield 21, 3) := by decide +kernel
theorem dX3_dampOf_11 : decode cX3_dampOf 11 = .ok (.iload_n 1, 1) := by decide +kernel
theorem dX3_dampOf_12 : decode cX3_dampOf 12 = .ok (.aload_n 0, 1) := by decide +kernel
theorem dX3_dampOf_13 : decode cX3_dampOf 13 = .ok (.getfield 34, 3) := by decide +kernel
theorem dX3_dampOf_16 : decode cX3_dampOf 16 = .ok (.irem, 1) := by decide +kernel
theorem dX3_dampOf_17 : decode cX3_dampOf 17 = .ok (.invokestatic 88, 3) := by decide +kernel
theorem dX3_dampOf_20 : decode cX3_dampOf 20 = .ok (.goto 4, 3) := by decide +kernel
theorem dX3_dampOf_23 : decode cX3_dampOf 23 = .ok (.iconst 4, 1) := by decide +kernel
theorem dX3_dampOf_24 : decode cX3_dampOf 24 = .ok (.ireturn, 1) := by decide +kernel
theorem dX3_slackeningIn_0 : decode cX3_slackeningIn 0 = .ok (.aload_n 0, 1) := by decide +kernel
theorem dX3_slackeningIn_1 : decode cX3_slackeningIn 1 = .ok (.iload_n 1, 1) := by decide +kernel
theorem dX3_slackeningIn_2 : decode cX3_slackeningIn 2 = .ok (.invokevirtual 98, 3) := by decide +kernel
theorem dX3_slackeningIn_5 : decode cX3_slackeningIn 5 = .ok (.iconst 3, 1) := by decide +kernel
theorem dX3_slackeningIn_6 : decode cX3_slackeningIn 6 = .ok (.idiv, 1) := by decide +kernel
theorem dX3_slackeningIn_7 : decode cX3_slackeningIn 7 = .ok (.ireturn, 1) := by decide +kernel
theorem dX3_lengthFor_0 : decode cX3_lengthFor 0 = .ok (.iconst 0, 1) := by decide +kernel
theorem dX3_lengthFor_1 : decode cX3_lengthFor 1 = .ok (.istore_n 3, 1) := by decide +kernel
theorem dX3_lengthFor_2 : decode cX3_lengthFor 2 = .ok (.iconst 0, 1) := by decide +kernel
theorem dX3_lengthFor_3 : decode cX3_lengthFor 3 = .ok (.istore 4, 2) := by decide +kernel
theorem dX3_lengthFor_5 : decode cX3_lengthFor 5 = .ok (.iload 4, 2) := by decide +kernel
theorem dX3_lengthFor_7 : decode cX3_lengthFor 7 = .ok (.iload_n 2, 1) := by decide +kernel
theorem dX3_lengthFor_8 : decode cX3_lengthFor 8 = .ok (.if_icmp .ge 25, 3) := by decide +kernel
theorem dX3_lengthFor_11 : decode cX3_lengthFor 11 = .ok (.iload_n 3, 1) := by decide +kernel
theorem dX3_lengthFor_12 : decode cX3_lengthFor 12 = .ok (.aload_n 0, 1) := by decide +kernel
theorem dX3_lengthFor_13 : decode cX3_lengthFor 13 = .ok (.getfield 9, 3) := by decide +kernel
theorem dX3_lengthFor_16 : decode cX3_lengthFor 16 = .ok (.iload_n 1, 1) := by decide +kernel
theorem dX3_lengthFor_17 : decode cX3_lengthFor 17 = .ok (.iload 4, 2) := by decide +kernel
theorem dX3_lengthFor_19 : decode cX3_lengthFor 19 = .ok (.iadd, 1) := by decide +kernel
theorem dX3_lengthFor_20 : decode cX3_lengthFor 20 = .ok (.invokestatic 88, 3) := by decide +kernel
theorem dX3_lengthFor_23 : decode cX3_lengthFor 23 = .ok (.invokestatic 101, 3) := by decide +kernel
theorem dX3_lengthFor_26 : decode cX3_lengthFor 26 = .ok (.istore_n 3, 1) := by decide +kernel
theorem dX3_lengthFor_27 : decode cX3_lengthFor 27 = .ok (.iinc 4 1, 3) := by decide +kernel
theorem dX3_lengthFor_30 : decode cX3_lengthFor 30 = .ok (.goto (-25), 3) := by decide +kernel
theorem dX3_lengthFor_33 : decode cX3_lengthFor 33 = .ok (.iload_n 3, 1) := by decide +kernel
theorem dX3_lengthFor_34 : decode cX3_lengthFor 34 = .ok (.aload_n 0, 1) := by decide +kernel
theorem dX3_lengthFor_35 : decode cX3_lengthFor 35 = .ok (.getfield 43, 3) := by decide +kernel
theorem dX3_lengthFor_38 : decode cX3_lengthFor 38 = .ok (.iadd, 1) := by decide +kernel
theorem dX3_lengthFor_39 : decode cX3_lengthFor 39 = .ok (.ireturn, 1) := by decide +kernel
theorem dX4_init_0 : decode cX4_init 0 = .ok (.aload_n 0, 1) := by decide +kernel
theorem dX4_init_1 : decode cX4_init 1 = .ok (.invokespecial 1, 3) := by decide +kernel
theorem dX4_init_4 : decode cX4_init 4 = .ok (.aload_n 0, 1) := by decide +kernel
theorem dX4_init_5 : decode cX4_init 5 = .ok (.iconst 1, 1) := by decide +kernel
theorem dX4_init_6 : decode cX4_init 6 = .ok (.iload_n 1, 1) := by decide +kernel
theorem dX4_init_7 : decode cX4_init 7 = .ok (.invokestatic 7, 3) := by decide +kernel
theorem dX4_init_10 : decode cX4_init 10 = .ok (.anewarray 13, 3) := by decide +kernel
theorem dX4_init_13 : decode cX4_init 13 = .ok (.putfield 15, 3) := by decide +kernel
theorem dX4_init_16 : decode cX4_init 16 = .ok (.iconst 0, 1) := by decide +kernel
theorem dX4_init_17 : decode cX4_init 17 = .ok (.istore_n 2, 1) := by decide +kernel
theorem dX4_init_18 : decode cX4_init 18 = .ok (.iload_n 2, 1) := by decide +kernel
theorem dX4_init_19 : decode cX4_init 19 = .ok (.aload_n 0, 1) := by decide +kernel
theorem dX4_init_20 : decode cX4_init 20 = .ok (.getfield 15, 3) := by decide +kernel
theorem dX4_init_23 : decode cX4_init 23 = .ok (.arraylength, 1) := by decide +kernel
theorem dX4_init_24 : decode cX4_init 24 = .ok (.if_icmp .ge 22, 3) := by decide +kernel
theorem dX4_init_27 : decode cX4_init 27 = .ok (.aload_n 0, 1) := by decide +kernel
theorem dX4_init_28 : decode cX4_init 28 = .ok (.getfield 15, 3) := by decide +kernel
theorem dX4_init_31 : decode cX4_init 31 = .ok (.iload_n 2, 1) := by decide +kernel
theorem dX4_init_32 : decode cX4_init 32 = .ok (.new 13, 3) := by decide +kernel
theorem dX4_init_35 : decode cX4_init 35 = .ok (.dup, 1) := by decide +kernel
theorem dX4_init_36 : decode cX4_init 36 = .ok (.invokespecial 21, 3) := by decide +kernel
theorem dX4_init_39 : decode cX4_init 39 = .ok (.aastore, 1) := by decide +kernel
theorem dX4_init_40 : decode cX4_init 40 = .ok (.iinc 2 1, 3) := by decide +kernel
theorem dX4_init_43 : decode cX4_init 43 = .ok (.goto (-25), 3) := by decide +kernel
theorem dX4_init_46 : decode cX4_init 46 = .ok (.return_, 1) := by decide +kernel
theorem dX4_clear_0 : decode cX4_clear 0 = .ok (.aload_n 0, 1) := by decide +kernel
theorem dX4_clear_1 : decode cX4_clear 1 = .ok (.iconst 0, 1) := by decide +kernel
theorem dX4_clear_2 : decode cX4_clear 2 = .ok (.putfield 22, 3) := by decide +kernel
theorem dX4_clear_5 : decode cX4_clear 5 = .ok (.aload_n 0, 1) := by decide +kernel
theorem dX4_clear_6 : decode cX4_clear 6 = .ok (.iconst 0, 1) := by decide +kernel
theorem dX4_clear_7 : decode cX4_clear 7 = .ok (.putfield 26, 3) := by decide +kernel
theorem dX4_clear_10 : decode cX4_clear 10 = .ok (.return_, 1) := by decide +kernel
theorem dX4_isFull_0 : decode cX4_isFull 0 = .ok (.aload_n 0, 1) := by decide +kernel
theorem dX4_isFull_1 : decode cX4_isFull 1 = .ok (.getfield 26, 3) := by decide +kernel
theorem dX4_isFull_4 : decode cX4_isFull 4 = .ok (.aload_n 0, 1) := by decide +kernel
theorem dX4_isFull_5 : decode cX4_isFull 5 = .ok (.getfield 15, 3) := by decide +kernel
theorem dX4_isFull_8 : decode cX4_isFull 8 = .ok (.arraylength, 1) := by decide +kernel
theorem dX4_isFull_9 : decode cX4_isFull 9 = .ok (.if_icmp .lt 7, 3) := by decide +kernel
theorem dX4_isFull_12 : decode cX4_isFull 12 = .ok (.iconst 1, 1) := by decide +kernel
theorem dX4_isFull_13 : decode cX4_isFull 13 = .ok (.goto 4, 3) := by decide +kernel
theorem dX4_isFull_16 : decode cX4_isFull 16 = .ok (.iconst 0, 1) := by decide +kernel
theorem dX4_isFull_17 : decode cX4_isFull 17 = .ok (.ireturn, 1) := by decide +kernel
theorem dX4_rowAt_0 : decode cX4_rowAt 0 = .ok (.iload_n 1, 1) := by decide +kernel
theorem dX4_rowAt_1 : decode cX4_rowAt 1 = .ok (.ifCond .lt 21, 3) := by decide +kernel
theorem dX4_rowAt_4 : decode cX4_rowAt 4 = .ok (.iload_n 1, 1) := by decide +kernel
theorem dX4_rowAt_5 : decode cX4_rowAt 5 = .ok (.aload_n 0, 1) := by decide +kernel
theorem dX4_rowAt_6 : decode cX4_rowAt 6 = .ok (.getfield 15, 3) := by decide +kernel
theorem dX4_rowAt_9 : decode cX4_rowAt 9 = .ok (.arraylength, 1) := by decide +kernel
theorem dX4_rowAt_10 : decode cX4_rowAt 10 = .ok (.if_icmp .ge 12, 3) := by decide +kernel
theorem dX4_rowAt_13 : decode cX4_rowAt 13 = .ok (.aload_n 0, 1) := by decide +kernel
theorem dX4_rowAt_14 : decode cX4_rowAt 14 = .ok (.getfield 15, 3) := by decide +kernel
theorem dX4_rowAt_17 : decode cX4_rowAt 17 = .ok (.iload_n 1, 1) := by decide +kernel
theorem dX4_rowAt_18 : decode cX4_rowAt 18 = .ok (.aaload, 1) := by decide +kernel
theorem dX4_rowAt_19 : decode cX4_rowAt 19 = .ok (.goto 4, 3) := by decide +kernel
theorem dX4_rowAt_22 : decode cX4_rowAt 22 = .ok (.aconst_null, 1) := by decide +kernel
theorem dX4_rowAt_23 : decode cX4_rowAt 23 = .ok (.areturn, 1) := by decide +kernel
theorem dX4_push_0 : decode cX4_push 0 = .ok (.aload_n 0, 1) := by decide +kernel
theorem dX4_push_1 : decode cX4_push 1 = .ok (.aload_n 0, 1) := by decide +kernel
theorem dX4_push_2 : decode cX4_push 2 = .ok (.getfield 22, 3) := by decide +kernel
theorem dX4_push_5 : decode cX4_push 5 = .ok (.invokevirtual 29, 3) := by decide +kernel
theorem dX4_push_8 : decode cX4_push 8 = .ok (.astore_n 2, 1) := by decide +kernel
theorem dX4_push_9 : decode cX4_push 9 = .ok (.aload_n 2, 1) := by decide +kernel
theorem dX4_push_10 : decode cX4_push 10 = .ok (.ifnonnull 4, 3) := by decide +kernel
theorem dX4_push_13 : decode cX4_push 13 = .ok (.return_, 1) := by decide +kernel
theorem dX4_push_14 : decode cX4_push 14 = .ok (.aload_n 2, 1) := by decide +kernel
theorem dX4_push_15 : decode cX4_push 15 = .ok (.aload_n 1, 1) := by decide +kernel
theorem dX4_push_16 : decode cX4_push 16 = .ok (.invokevirtual 33, 3) := by decide +kernel
theorem dX4_push_19 : decode cX4_push 19 = .ok (.aload_n 0, 1) := by decide +kernel
theorem dX4_push_20 : decode cX4_push 20 = .ok (.aload_n 0, 1) := by decide +kernel
theorem dX4_push_21 : decode cX4_push 21 = .ok (.getfield 22, 3) := by decide +kernel
theorem dX4_push_24 : decode cX4_push 24 = .ok (.iconst 1, 1) := by decide +kernel
theorem dX4_push_25 : decode cX4_push 25 = .ok (.iadd, 1) := by decide +kernel
theorem dX4_push_26 : decode cX4_push 26 = .ok (.aload_n 0, 1) := by decide +kernel
theorem dX4_push_27 : decode cX4_push 27 = .ok (.getfield 15, 3) := by decide +kernel
theorem dX4_push_30 : decode cX4_push 30 = .ok (.arraylength, 1) := by decide +kernel
theorem dX4_push_31 : decode cX4_push 31 = .ok (.if_icmp .ge 12, 3) := by decide +kernel
theorem dX4_push_34 : decode cX4_push 34 = .ok (.aload_n 0, 1) := by decide +kernel
theorem dX4_push_35 : decode cX4_push 35 = .ok (.getfield 22, 3) := by decide +kernel
theorem dX4_push_38 : decode cX4_push 38 = .ok (.iconst 1, 1) := by decide +kernel
theorem dX4_push_39 : decode cX4_push 39 = .ok (.iadd, 1) := by decide +kernel
theorem dX4_push_40 : decode cX4_push 40 = .ok (.goto 4, 3) := by decide +kernel
theorem dX4_push_43 : decode cX4_push 43 = .ok (.iconst 0, 1) := by decide +kernel
theorem dX4_push_44 : decode cX4_push 44 = .ok (.putfield 22, 3) := by decide +kernel
theorem dX4_push_47 : decode cX4_push 47 = .ok (.aload_n 0, 1) := by decide +kernel
theorem dX4_push_48 : decode cX4_push 48 = .ok (.aload_n 0, 1) := by decide +kernel
theorem dX4_push_49 : decode cX4_push 49 = .ok (.getfield 26, 3) := by decide +kernel
theorem dX4_push_52 : decode cX4_push 52 = .ok (.iconst 1, 1) := by decide +kernel
theorem dX4_push_53 : decode cX4_push 53 = .ok (.iadd, 1) := by decide +kernel
theorem dX4_push_54 : decode cX4_push 54 = .ok (.aload_n 0, 1) := by decide +kernel
theorem dX4_push_55 : decode cX4_push 55 = .ok (.getfield 15, 3) := by decide +kernel
theorem dX4_push_58 : decode cX4_push 58 = .ok (.arraylength, 1) := by decide +kernel
theorem dX4_push_59 : decode cX4_push 59 = .ok (.invokestatic 37, 3) := by decide +kernel
theorem dX4_push_62 : decode cX4_push 62 = .ok (.putfield 26, 3) := by decide +kernel
theorem dX4_push_65 : decode cX4_push 65 = .ok (.return_, 1) := by decide +kernel
theorem dX4_pop_0 : decode cX4_pop 0 = .ok (.aload_n 0, 1) := by decide +kernel
theorem dX4_pop_1 : decode cX4_pop 1 = .ok (.getfield 22, 3) := by decide +kernel
theorem dX4_pop_4 : decode cX4_pop 4 = .ok (.ifCond .le 12, 3) := by decide +kernel
theorem dX4_pop_7 : decode cX4_pop 7 = .ok (.aload_n 0, 1) := by decide +kernel
theorem dX4_pop_8 : decode cX4_pop 8 = .ok (.getfield 22, 3) := by decide +kernel
theorem dX4_pop_11 : decode cX4_pop 11 = .ok (.iconst 1, 1) := by decide +kernel
theorem dX4_pop_12 : decode cX4_pop 12 = .ok (.isub, 1) := by decide +kernel
theorem dX4_pop_13 : decode cX4_pop 13 = .ok (.goto 10, 3) := by decide +kernel
theorem dX4_pop_16 : decode cX4_pop 16 = .ok (.aload_n 0, 1) := by decide +kernel
theorem dX4_pop_17 : decode cX4_pop 17 = .ok (.getfield 15, 3) := by decide +kernel
theorem dX4_pop_20 : decode cX4_pop 20 = .ok (.arraylength, 1) := by decide +kernel
theorem dX4_pop_21 : decode cX4_pop 21 = .ok (.iconst 1, 1) := by decide +kernel
theorem dX4_pop_22 : decode cX4_pop 22 = .ok (.isub, 1) := by decide +kernel
theorem dX4_pop_23 : decode cX4_pop 23 = .ok (.istore_n 2, 1) := by decide +kernel
theorem dX4_pop_24 : decode cX4_pop 24 = .ok (.aload_n 0, 1) := by decide +kernel
theorem dX4_pop_25 : decode cX4_pop 25 = .ok (.iload_n 2, 1) := by decide +kernel
theorem dX4_pop_26 : decode cX4_pop 26 = .ok (.invokevirtual 29, 3) := by decide +kernel
theorem dX4_pop_29 : decode cX4_pop 29 = .ok (.astore_n 3, 1) := by decide +kernel
theorem dX4_pop_30 : decode cX4_pop 30 = .ok (.aload_n 3, 1) := by decide +kernel
theorem dX4_pop_31 : decode cX4_pop 31 = .ok (.ifnull 10, 3) := by decide +kernel
theorem dX4_pop_34 : decode cX4_pop 34 = .ok (.aload_n 0, 1) := by decide +kernel
theorem dX4_pop_35 : decode cX4_pop 35 = .ok (.getfield 26, 3) := by decide +kernel
theorem dX4_pop_38 : decode cX4_pop 38 = .ok (.ifCond .gt 5, 3) := by decide +kernel
theorem dX4_pop_41 : decode cX4_pop 41 = .ok (.iconst 0, 1) := by decide +kernel
theorem dX4_pop_42 : decode cX4_pop 42 = .ok (.ireturn, 1) := by decide +kernel
theorem dX4_pop_43 : decode cX4_pop 43 = .ok (.aload_n 1, 1) := by decide +kernel
theorem dX4_pop_44 : decode cX4_pop 44 = .ok (.aload_n 3, 1) := by decide +kernel
theorem dX4_pop_45 : decode cX4_pop 45 = .ok (.invokevirtual 33, 3) := by decide +kernel
theorem dX4_pop_48 : decode cX4_pop 48 = .ok (.aload_n 0, 1) := by decide +kernel
theorem dX4_pop_49 : decode cX4_pop 49 = .ok (.iload_n 2, 1) := by decide +kernel
theorem dX4_pop_50 : decode cX4_pop 50 = .ok (.putfield 22, 3) := by decide +kernel
theorem dX4_pop_53 : decode cX4_pop 53 = .ok (.aload_n 0, 1) := by decide +kernel
theorem dX4_pop_54 : decode cX4_pop 54 = .ok (.dup, 1) := by decide +kernel
theorem dX4_pop_55 : decode cX4_pop 55 = .ok (.getfield 26, 3) := by decide +kernel
theorem dX4_pop_58 : decode cX4_pop 58 = .ok (.iconst 1, 1) := by decide +kernel
theorem dX4_pop_59 : decode cX4_pop 59 = .ok (.isub, 1) := by decide +kernel
theorem dX4_pop_60 : decode cX4_pop 60 = .ok (.putfield 26, 3) := by decide +kernel
theorem dX4_pop_63 : decode cX4_pop 63 = .ok (.iconst 1, 1) := by decide +kernel
theorem dX4_pop_64 : decode cX4_pop 64 = .ok (.ireturn, 1) := by decide +kernel
theorem dX5_init_0 : decode cX5_init 0 = .ok (.aload_n 0, 1) := by decide +kernel
theorem dX5_init_1 : decode cX5_init 1 = .ok (.invokespecial 3, 3) := by decide +kernel
theorem dX5_init_4 : decode cX5_init 4 = .ok (.aload_n 0, 1) := by decide +kernel
theorem dX5_init_5 : decode cX5_init 5 = .ok (.bipush 6, 2) := by decide +kernel
theorem dX5_init_7 : decode cX5_init 7 = .ok (.newarray .int, 2) := by decide +kernel
theorem dX5_init_9 : decode cX5_init 9 = .ok (.putfield 11, 3) := by decide +kernel
theorem dX5_init_12 : decode cX5_init 12 = .ok (.aload_n 0, 1) := by decide +kernel
theorem dX5_init_13 : decode cX5_init 13 = .ok (.bipush 6, 2) := by decide +kernel
theorem dX5_init_15 : decode cX5_init 15 = .ok (.newarray .int, 2) := by decide +kernel
theorem dX5_init_17 : decode cX5_init 17 = .ok (.putfield 15, 3) := by decide +kernel
theorem dX5_init_20 : decode cX5_init 20 = .ok (.aload_n 0, 1) := by decide +kernel
theorem dX5_init_21 : decode cX5_init 21 = .ok (.invokevirtual 18, 3) := by decide +kernel
theorem dX5_init_24 : decode cX5_init 24 = .ok (.return_, 1) := by decide +kernel
theorem dX5_clear_0 : decode cX5_clear 0 = .ok (.aload_n 0, 1) := by decide +kernel
theorem dX5_clear_1 : decode cX5_clear 1 = .ok (.iconst 0, 1) := by decide +kernel
theorem dX5_clear_2 : decode cX5_clear 2 = .ok (.putfield 21, 3) := by decide +kernel
theorem dX5_clear_5 : decode cX5_clear 5 = .ok (.return_, 1) := by decide +kernel
theorem dX5_add_0 : decode cX5_add 0 = .ok (.aload_n 0, 1) := by decide +kernel
theorem dX5_add_1 : decode cX5_add 1 = .ok (.getfield 21, 3) := by decide +kernel
theorem dX5_add_4 : decode cX5_add 4 = .ok (.bipush 6, 2) := by decide +kernel
theorem dX5_add_6 : decode cX5_add 6 = .ok (.if_icmp .lt 5, 3) := by decide +kernel
theorem dX5_add_9 : decode cX5_add 9 = .ok (.iconst 0, 1) := by decide +kernel
theorem dX5_add_10 : decode cX5_add 10 = .ok (.ireturn, 1) := by decide +kernel
theorem dX5_add_11 : decode cX5_add 11 = .ok (.aload_n 0, 1) := by decide +kernel
theorem dX5_add_12 : decode cX5_add 12 = .ok (.getfield 11, 3) := by decide +kernel
theorem dX5_add_15 : decode cX5_add 15 = .ok (.aload_n 0, 1) := by decide +kernel
theorem dX5_add_16 : decode cX5_add 16 = .ok (.getfield 21, 3) := by decide +kernel
theorem dX5_add_19 : decode cX5_add 19 = .ok (.iload_n 1, 1) := by decide +kernel
theorem dX5_add_20 : decode cX5_add 20 = .ok (.invokestatic 25, 3) := by decide +kernel
theorem dX5_add_23 : decode cX5_add 23 = .ok (.aload_n 0, 1) := by decide +kernel
theorem dX5_add_24 : decode cX5_add 24 = .ok (.getfield 15, 3) := by decide +kernel
theorem dX5_add_27 : decode cX5_add 27 = .ok (.aload_n 0, 1) := by decide +kernel
theorem dX5_add_28 : decode cX5_add 28 = .ok (.getfield 21, 3) := by decide +kernel
theorem dX5_add_31 : decode cX5_add 31 = .ok (.iload_n 2, 1) := by decide +kernel
theorem dX5_add_32 : decode cX5_add 32 = .ok (.invokestatic 25, 3) := by decide +kernel
theorem dX5_add_35 : decode cX5_add 35 = .ok (.aload_n 0, 1) := by decide +kernel
theorem dX5_add_36 : decode cX5_add 36 = .ok (.dup, 1) := by decide +kernel
theorem dX5_add_37 : decode cX5_add 37 = .ok (.getfield 21, 3) := by decide +kernel
theorem dX5_add_40 : decode cX5_add 40 = .ok (.iconst 1, 1) := by decide +kernel
theorem dX5_add_41 : decode cX5_add 41 = .ok (.iadd, 1) := by decide +kernel
theorem dX5_add_42 : decode cX5_add 42 = .ok (.putfield 21, 3) := by decide +kernel
theorem dX5_add_45 : decode cX5_add 45 = .ok (.iconst 1, 1) := by decide +kernel
theorem dX5_add_46 : decode cX5_add 46 = .ok (.ireturn, 1) := by decide +kernel
theorem dX5_kindsFor_0 : decode cX5_kindsFor 0 = .ok (.iconst 0, 1) := by decide +kernel
theorem dX5_kindsFor_1 : decode cX5_kindsFor 1 = .ok (.istore_n 2, 1) := by decide +kernel
theorem dX5_kindsFor_2 : decode cX5_kindsFor 2 = .ok (.iconst 0, 1) := by decide +kernel
theorem dX5_kindsFor_3 : decode cX5_kindsFor 3 = .ok (.istore_n 3, 1) := by decide +kernel
theorem dX5_kindsFor_4 : decode cX5_kindsFor 4 = .ok (.iload_n 3, 1) := by decide +kernel
theorem dX5_kindsFor_5 : decode cX5_kindsFor 5 = .ok (.iconst 4, 1) := by decide +kernel
theorem dX5_kindsFor_6 : decode cX5_kindsFor 6 = .ok (.if_icmp .ge 24, 3) := by decide +kernel
theorem dX5_kindsFor_9 : decode cX5_kindsFor 9 = .ok (.aload_n 0, 1) := by decide +kernel
theorem dX5_kindsFor_10 : decode cX5_kindsFor 10 = .ok (.iload_n 3, 1) := by decide +kernel
theorem dX5_kindsFor_11 : decode cX5_kindsFor 11 = .ok (.iload_n 1, 1) := by decide +kernel
theorem dX5_kindsFor_12 : decode cX5_kindsFor 12 = .ok (.invokevirtual 29, 3) := by decide +kernel
theorem dX5_kindsFor_15 : decode cX5_kindsFor 15 = .ok (.ifCond .eq 9, 3) := by decide +kernel
theorem dX5_kindsFor_18 : decode cX5_kindsFor 18 = .ok (.iload_n 2, 1) := by decide +kernel
theorem dX5_kindsFor_19 : decode cX5_kindsFor 19 = .ok (.iconst 1, 1) := by decide +kernel
theorem dX5_kindsFor_20 : decode cX5_kindsFor 20 = .ok (.iload_n 3, 1) := by decide +kernel
theorem dX5_kindsFor_21 : decode cX5_kindsFor 21 = .ok (.ishl, 1) := by decide +kernel
theorem dX5_kindsFor_22 : decode cX5_kindsFor 22 = .ok (.ior, 1) := by decide +kernel
theorem dX5_kindsFor_23 : decode cX5_kindsFor 23 = .ok (.istore_n 2, 1) := by decide +kernel
theorem dX5_kindsFor_24 : decode cX5_kindsFor 24 = .ok (.iinc 3 1, 3) := by decide +kernel
theorem dX5_kindsFor_27 : decode cX5_kindsFor 27 = .ok (.goto (-23), 3) := by decide +kernel
theorem dX5_kindsFor_30 : decode cX5_kindsFor 30 = .ok (.iload_n 2, 1) := by decide +kernel
theorem dX5_kindsFor_31 : decode cX5_kindsFor 31 = .ok (.ireturn, 1) := by decide +kernel
theorem dX5_givesFor_0 : decode cX5_givesFor 0 = .ok (.iconst 0, 1) := by decide +kernel
theorem dX5_givesFor_1 : decode cX5_givesFor 1 = .ok (.istore_n 2, 1) := by decide +kernel
theorem dX5_givesFor_2 : decode cX5_givesFor 2 = .ok (.iconst 1, 1) := by decide +kernel
theorem dX5_givesFor_3 : decode cX5_givesFor 3 = .ok (.istore_n 3, 1) := by decide +kernel
theorem dX5_givesFor_4 : decode cX5_givesFor 4 = .ok (.iload_n 3, 1) := by decide +kernel
theorem dX5_givesFor_5 : decode cX5_givesFor 5 = .ok (.bipush 9, 2) := by decide +kernel
theorem dX5_givesFor_7 : decode cX5_givesFor 7 = .ok (.if_icmp .gt 24, 3) := by decide +kernel
theorem dX5_givesFor_10 : decode cX5_givesFor 10 = .ok (.aload_n 0, 1) := by decide +kernel
theorem dX5_givesFor_11 : decode cX5_givesFor 11 = .ok (.iload_n 1, 1) := by decide +kernel
theorem dX5_givesFor_12 : decode cX5_givesFor 12 = .ok (.iload_n 3, 1) := by decide +kernel
theorem dX5_givesFor_13 : decode cX5_givesFor 13 = .ok (.invokevirtual 29, 3) := by decide +kernel
theorem dX5_givesFor_16 : decode cX5_givesFor 16 = .ok (.ifCond .eq 9, 3) := by decide +kernel
theorem dX5_givesFor_19 : decode cX5_givesFor 19 = .ok (.iload_n 2, 1) := by decide +kernel
theorem dX5_givesFor_20 : decode cX5_givesFor 20 = .ok (.iconst 1, 1) := by decide +kernel
theorem dX5_givesFor_21 : decode cX5_givesFor 21 = .ok (.iload_n 3, 1) := by decide +kernel
theorem dX5_givesFor_22 : decode cX5_givesFor 22 = .ok (.ishl, 1) := by decide +kernel
theorem dX5_givesFor_23 : decode cX5_givesFor 23 = .ok (.ior, 1) := by decide +kernel
theorem dX5_givesFor_24 : decode cX5_givesFor 24 = .ok (.istore_n 2, 1) := by decide +kernel
theorem dX5_givesFor_25 : decode cX5_givesFor 25 = .ok (.iinc 3 1, 3) := by decide +kernel
theorem dX5_givesFor_28 : decode cX5_givesFor 28 = .ok (.goto (-24), 3) := by decide +kernel
theorem dX5_givesFor_31 : decode cX5_givesFor 31 = .ok (.iload_n 2, 1) := by decide +kernel
theorem dX5_givesFor_32 : decode cX5_givesFor 32 = .ok (.ireturn, 1) := by decide +kernel
theorem dX5_explainedBy_0 : decode cX5_explainedBy 0 = .ok (.iconst 1, 1) := by decide +kernel
theorem dX5_explainedBy_1 : decode cX5_explainedBy 1 = .ok (.iload_n 1, 1) := by decide +kernel
theorem dX5_explainedBy_2 : decode cX5_explainedBy 2 = .ok (.iload_n 2, 1) := by decide +kernel
theorem dX5_explainedBy_3 : decode cX5_explainedBy 3 = .ok (.iconst 1, 1) := by decide +kernel
theorem dX5_explainedBy_4 : decode cX5_explainedBy 4 = .ok (.invokestatic 33, 3) := by decide +kernel
theorem dX5_explainedBy_7 : decode cX5_explainedBy 7 = .ok (.isub, 1) := by decide +kernel
theorem dX5_explainedBy_8 : decode cX5_explainedBy 8 = .ok (.istore_n 3, 1) := by decide +kernel
theorem dX5_explainedBy_9 : decode cX5_explainedBy 9 = .ok (.iconst 0, 1) := by decide +kernel
theorem dX5_explainedBy_10 : decode cX5_explainedBy 10 = .ok (.istore 4, 2) := by decide +kernel
theorem dX5_explainedBy_12 : decode cX5_explainedBy 12 = .ok (.iload 4, 2) := by decide +kernel
theorem dX5_explainedBy_14 : decode cX5_explainedBy 14 = .ok (.aload_n 0, 1) := by decide +kernel
theorem dX5_explainedBy_15 : decode cX5_explainedBy 15 = .ok (.getfield 21, 3) := by decide +kernel
theorem dX5_explainedBy_18 : decode cX5_explainedBy 18 = .ok (.if_icmp .ge 38, 3) := by decide +kernel
theorem dX5_explainedBy_21 : decode cX5_explainedBy 21 = .ok (.iconst 0, 1) := by decide +kernel
theorem dX5_explainedBy_22 : decode cX5_explainedBy 22 = .ok (.aload_n 0, 1) := by decide +kernel
theorem dX5_explainedBy_23 : decode cX5_explainedBy 23 = .ok (.getfield 11, 3) := by decide +kernel
theorem dX5_explainedBy_26 : decode cX5_explainedBy 26 = .ok (.iload 4, 2) := by decide +kernel
theorem dX5_explainedBy_28 : decode cX5_explainedBy 28 = .ok (.invokestatic 37, 3) := by decide +kernel
theorem dX5_explainedBy_31 : decode cX5_explainedBy 31 = .ok (.iload_n 3, 1) := by decide +kernel
theorem dX5_explainedBy_32 : decode cX5_explainedBy 32 = .ok (.iadd, 1) := by decide +kernel
theorem dX5_explainedBy_33 : decode cX5_explainedBy 33 = .ok (.invokestatic 41, 3) := by decide +kernel
theorem dX5_explainedBy_36 : decode cX5_explainedBy 36 = .ok (.aload_n 0, 1) := by decide +kernel
theorem dX5_explainedBy_37 : decode cX5_explainedBy 37 = .ok (.getfield 15, 3) := by decide +kernel
theorem dX5_explainedBy_40 : decode cX5_explainedBy 40 = .ok (.iload 4, 2) := by decide +kernel
theorem dX5_explainedBy_42 : decode cX5_explainedBy 42 = .ok (.invokestatic 37, 3) := by decide +kernel
theorem dX5_explainedBy_45 : decode cX5_explainedBy 45 = .ok (.if_icmp .eq 5, 3) := by decide +kernel
theorem dX5_explainedBy_48 : decode cX5_explainedBy 48 = .ok (.iconst 0, 1) := by decide +kernel
theorem dX5_explainedBy_49 : decode cX5_explainedBy 49 = .ok (.ireturn, 1) := by decide +kernel
theorem dX5_explainedBy_50 : decode cX5_explainedBy 50 = .ok (.iinc 4 1, 3) := by decide +kernel
theorem dX5_explainedBy_53 : decode cX5_explainedBy 53 = .ok (.goto (-41), 3) := by decide +kernel
theorem dX5_explainedBy_56 : decode cX5_explainedBy 56 = .ok (.iconst 1, 1) := by decide +kernel
theorem dX5_explainedBy_57 : decode cX5_explainedBy 57 = .ok (.ireturn, 1) := by decide +kernel
theorem dJ6_bitCount_0f7a4_0 : decode cJ6_bitCount_0f7a4 0 = .ok (.iload_n 0, 1) := by decide +kernel
theorem dJ6_bitCount_0f7a4_1 : decode cJ6_bitCount_0f7a4 1 = .ok (.iload_n 0, 1) := by decide +kernel
theorem dJ6_bitCount_0f7a4_2 : decode cJ6_bitCount_0f7a4 2 = .ok (.iconst 1, 1) := by decide +kernel
theorem dJ6_bitCount_0f7a4_3 : decode cJ6_bitCount_0f7a4 3 = .ok (.iushr, 1) := by decide +kernel
theorem dJ6_bitCount_0f7a4_4 : decode cJ6_bitCount_0f7a4 4 = .ok (.ldc_w 265, 3) := by decide +kernel
theorem dJ6_bitCount_0f7a4_7 : decode cJ6_bitCount_0f7a4 7 = .ok (.iand, 1) := by decide +kernel
theorem dJ6_bitCount_0f7a4_8 : decode cJ6_bitCount_0f7a4 8 = .ok (.isub, 1) := by decide +kernel
theorem dJ6_bitCount_0f7a4_9 : decode cJ6_bitCount_0f7a4 9 = .ok (.istore_n 0, 1) := by decide +kernel
theorem dJ6_bitCount_0f7a4_10 : decode cJ6_bitCount_0f7a4 10 = .ok (.iload_n 0, 1) := by decide +kernel
theorem dJ6_bitCount_0f7a4_11 : decode cJ6_bitCount_0f7a4 11 = .ok (.ldc_w 266, 3) := by decide +kernel
theorem dJ6_bitCount_0f7a4_14 : decode cJ6_bitCount_0f7a4 14 = .ok (.iand, 1) := by decide +kernel
theorem dJ6_bitCount_0f7a4_15 : decode cJ6_bitCount_0f7a4 15 = .ok (.iload_n 0, 1) := by decide +kernel
theorem dJ6_bitCount_0f7a4_16 : decode cJ6_bitCount_0f7a4 16 = .ok (.iconst 2, 1) := by decide +kernel
theorem dJ6_bitCount_0f7a4_17 : decode cJ6_bitCount_0f7a4 17 = .ok (.iushr, 1) := by decide +kernel
theorem dJ6_bitCount_0f7a4_18 : decode cJ6_bitCount_0f7a4 18 = .ok (.ldc_w 266, 3) := by decide +kernel
theorem dJ6_bitCount_0f7a4_21 : decode cJ6_bitCount_0f7a4 21 = .ok (.iand, 1) := by decide +kernel
theorem dJ6_bitCount_0f7a4_22 : decode cJ6_bitCount_0f7a4 22 = .ok (.iadd, 1) := by decide +kernel
theorem dJ6_bitCount_0f7a4_23 : decode cJ6_bitCount_0f7a4 23 = .ok (.istore_n 0, 1) := by decide +kernel
theorem dJ6_bitCount_0f7a4_24 : decode cJ6_bitCount_0f7a4 24 = .ok (.iload_n 0, 1) := by decide +kernel
theorem dJ6_bitCount_0f7a4_25 : decode cJ6_bitCount_0f7a4 25 = .ok (.iload_n 0, 1) := by decide +kernel
theorem dJ6_bitCount_0f7a4_26 : decode cJ6_bitCount_0f7a4 26 = .ok (.iconst 4, 1) := by decide +kernel
theorem dJ6_bitCount_0f7a4_27 : decode cJ6_bitCount_0f7a4 27 = .ok (.iushr, 1) := by decide +kernel
theorem dJ6_bitCount_0f7a4_28 : decode cJ6_bitCount_0f7a4 28 = .ok (.iadd, 1) := by decide +kernel
theorem dJ6_bitCount_0f7a4_29 : decode cJ6_bitCount_0f7a4 29 = .ok (.ldc_w 267, 3) := by decide +kernel
theorem dJ6_bitCount_0f7a4_32 : decode cJ6_bitCount_0f7a4 32 = .ok (.iand, 1) := by decide +kernel
theorem dJ6_bitCount_0f7a4_33 : decode cJ6_bitCount_0f7a4 33 = .ok (.istore_n 0, 1) := by decide +kernel
theorem dJ6_bitCount_0f7a4_34 : decode cJ6_bitCount_0f7a4 34 = .ok (.iload_n 0, 1) := by decide +kernel
theorem dJ6_bitCount_0f7a4_35 : decode cJ6_bitCount_0f7a4 35 = .ok (.iload_n 0, 1) := by decide +kernel
theorem dJ6_bitCount_0f7a4_36 : decode cJ6_bitCount_0f7a4 36 = .ok (.bipush 8, 2) := by decide +kernel
theorem dJ6_bitCount_0f7a4_38 : decode cJ6_bitCount_0f7a4 38 = .ok (.iushr, 1) := by decide +kernel
theorem dJ6_bitCount_0f7a4_39 : decode cJ6_bitCount_0f7a4 39 = .ok (.iadd, 1) := by decide +kernel
theorem dJ6_bitCount_0f7a4_40 : decode cJ6_bitCount_0f7a4 40 = .ok (.istore_n 0, 1) := by decide +kernel
theorem dJ6_bitCount_0f7a4_41 : decode cJ6_bitCount_0f7a4 41 = .ok (.iload_n 0, 1) := by decide +kernel
theorem dJ6_bitCount_0f7a4_42 : decode cJ6_bitCount_0f7a4 42 = .ok (.iload_n 0, 1) := by decide +kernel
theorem dJ6_bitCount_0f7a4_43 : decode cJ6_bitCount_0f7a4 43 = .ok (.bipush 16, 2) := by decide +kernel
theorem dJ6_bitCount_0f7a4_45 : decode cJ6_bitCount_0f7a4 45 = .ok (.iushr, 1) := by decide +kernel
theorem dJ6_bitCount_0f7a4_46 : decode cJ6_bitCount_0f7a4 46 = .ok (.iadd, 1) := by decide +kernel
theorem dJ6_bitCount_0f7a4_47 : decode cJ6_bitCount_0f7a4 47 = .ok (.istore_n 0, 1) := by decide +kernel
theorem dJ6_bitCount_0f7a4_48 : decode cJ6_bitCount_0f7a4 48 = .ok (.iload_n 0, 1) := by decide +kernel
theorem dJ6_bitCount_0f7a4_49 : decode cJ6_bitCount_0f7a4 49 = .ok (.bipush 63, 2) := by decide +kernel
theorem dJ6_bitCount_0f7a4_51 : decode cJ6_bitCount_0f7a4 51 = .ok (.iand, 1) := by decide +kernel
theorem dJ6_bitCount_0f7a4_52 : decode cJ6_bitCount_0f7a4 52 = .ok (.ireturn, 1) := by decide +kernel
