theorem dX8_cutWord_20 : decode cX8_cutWord 20 = .ok (.iload_n 2, 1) := by decide +kernel
theorem dX8_cutWord_21 : decode cX8_cutWord 21 = .ok (.iaload, 1) := by decide +kernel
theorem dX8_cutWord_22 : decode cX8_cutWord 22 = .ok (.invokestatic 59, 3) := by decide +kernel
theorem dX8_cutWord_25 : decode cX8_cutWord 25 = .ok (.ifCond .eq 9, 3) := by decide +kernel
theorem dX8_cutWord_28 : decode cX8_cutWord 28 = .ok (.iinc 2 1, 3) := by decide +kernel
theorem dX8_cutWord_31 : decode cX8_cutWord 31 = .ok (.goto (-29), 3) := by decide +kernel
theorem dX8_cutWord_34 : decode cX8_cutWord 34 = .ok (.aload_n 0, 1) := by decide +kernel
theorem dX8_cutWord_35 : decode cX8_cutWord 35 = .ok (.iload_n 1, 1) := by decide +kernel
theorem dX8_cutWord_36 : decode cX8_cutWord 36 = .ok (.iload_n 2, 1) := by decide +kernel
theorem dX8_cutWord_37 : decode cX8_cutWord 37 = .ok (.invokevirtual 79, 3) := by decide +kernel
theorem dX8_cutWord_40 : decode cX8_cutWord 40 = .ok (.istore_n 3, 1) := by decide +kernel
theorem dX8_cutWord_41 : decode cX8_cutWord 41 = .ok (.aload_n 0, 1) := by decide +kernel
theorem dX8_cutWord_42 : decode cX8_cutWord 42 = .ok (.iload_n 3, 1) := by decide +kernel
theorem dX8_cutWord_43 : decode cX8_cutWord 43 = .ok (.iconst (-1), 1) := by decide +kernel
theorem dX8_cutWord_44 : decode cX8_cutWord 44 = .ok (.if_icmp .ne 7, 3) := by decide +kernel
theorem dX8_cutWord_47 : decode cX8_cutWord 47 = .ok (.iconst 4, 1) := by decide +kernel
theorem dX8_cutWord_48 : decode cX8_cutWord 48 = .ok (.goto 4, 3) := by decide +kernel
theorem dX8_cutWord_51 : decode cX8_cutWord 51 = .ok (.iconst 1, 1) := by decide +kernel
theorem dX8_cutWord_52 : decode cX8_cutWord 52 = .ok (.iload_n 3, 1) := by decide +kernel
theorem dX8_cutWord_53 : decode cX8_cutWord 53 = .ok (.iload_n 1, 1) := by decide +kernel
theorem dX8_cutWord_54 : decode cX8_cutWord 54 = .ok (.invokevirtual 55, 3) := by decide +kernel
theorem dX8_cutWord_57 : decode cX8_cutWord 57 = .ok (.iload_n 2, 1) := by decide +kernel
theorem dX8_cutWord_58 : decode cX8_cutWord 58 = .ok (.ireturn, 1) := by decide +kernel
theorem dX8_cutNumber_0 : decode cX8_cutNumber 0 = .ok (.iload_n 1, 1) := by decide +kernel
theorem dX8_cutNumber_1 : decode cX8_cutNumber 1 = .ok (.istore_n 2, 1) := by decide +kernel
theorem dX8_cutNumber_2 : decode cX8_cutNumber 2 = .ok (.iconst 0, 1) := by decide +kernel
theorem dX8_cutNumber_3 : decode cX8_cutNumber 3 = .ok (.istore_n 3, 1) := by decide +kernel
theorem dX8_cutNumber_4 : decode cX8_cutNumber 4 = .ok (.iload_n 2, 1) := by decide +kernel
theorem dX8_cutNumber_5 : decode cX8_cutNumber 5 = .ok (.aload_n 0, 1) := by decide +kernel
theorem dX8_cutNumber_6 : decode cX8_cutNumber 6 = .ok (.getfield 28, 3) := by decide +kernel
theorem dX8_cutNumber_9 : decode cX8_cutNumber 9 = .ok (.getfield 39, 3) := by decide +kernel
theorem dX8_cutNumber_12 : decode cX8_cutNumber 12 = .ok (.if_icmp .ge 49, 3) := by decide +kernel
theorem dX8_cutNumber_15 : decode cX8_cutNumber 15 = .ok (.aload_n 0, 1) := by decide +kernel
theorem dX8_cutNumber_16 : decode cX8_cutNumber 16 = .ok (.getfield 28, 3) := by decide +kernel
theorem dX8_cutNumber_19 : decode cX8_cutNumber 19 = .ok (.getfield 44, 3) := by decide +kernel
theorem dX8_cutNumber_22 : decode cX8_cutNumber 22 = .ok (.iload_n 2, 1) := by decide +kernel
theorem dX8_cutNumber_23 : decode cX8_cutNumber 23 = .ok (.iaload, 1) := by decide +kernel
theorem dX8_cutNumber_24 : decode cX8_cutNumber 24 = .ok (.invokestatic 65, 3) := by decide +kernel
theorem dX8_cutNumber_27 : decode cX8_cutNumber 27 = .ok (.ifCond .eq 34, 3) := by decide +kernel
theorem dX8_cutNumber_30 : decode cX8_cutNumber 30 = .ok (.iload_n 2, 1) := by decide +kernel
theorem dX8_cutNumber_31 : decode cX8_cutNumber 31 = .ok (.iload_n 1, 1) := by decide +kernel
theorem dX8_cutNumber_32 : decode cX8_cutNumber 32 = .ok (.isub, 1) := by decide +kernel
theorem dX8_cutNumber_33 : decode cX8_cutNumber 33 = .ok (.iconst 4, 1) := by decide +kernel
theorem dX8_cutNumber_34 : decode cX8_cutNumber 34 = .ok (.if_icmp .ge 21, 3) := by decide +kernel
theorem dX8_cutNumber_37 : decode cX8_cutNumber 37 = .ok (.iload_n 3, 1) := by decide +kernel
theorem dX8_cutNumber_38 : decode cX8_cutNumber 38 = .ok (.bipush 10, 2) := by decide +kernel
theorem dX8_cutNumber_40 : decode cX8_cutNumber 40 = .ok (.imul, 1) := by decide +kernel
theorem dX8_cutNumber_41 : decode cX8_cutNumber 41 = .ok (.aload_n 0, 1) := by decide +kernel
theorem dX8_cutNumber_42 : decode cX8_cutNumber 42 = .ok (.getfield 28, 3) := by decide +kernel
theorem dX8_cutNumber_45 : decode cX8_cutNumber 45 = .ok (.getfield 44, 3) := by decide +kernel
theorem dX8_cutNumber_48 : decode cX8_cutNumber 48 = .ok (.iload_n 2, 1) := by decide +kernel
theorem dX8_cutNumber_49 : decode cX8_cutNumber 49 = .ok (.iaload, 1) := by decide +kernel
theorem dX8_cutNumber_50 : decode cX8_cutNumber 50 = .ok (.iadd, 1) := by decide +kernel
theorem dX8_cutNumber_51 : decode cX8_cutNumber 51 = .ok (.bipush 48, 2) := by decide +kernel
theorem dX8_cutNumber_53 : decode cX8_cutNumber 53 = .ok (.isub, 1) := by decide +kernel
theorem dX8_cutNumber_54 : decode cX8_cutNumber 54 = .ok (.istore_n 3, 1) := by decide +kernel
theorem dX8_cutNumber_55 : decode cX8_cutNumber 55 = .ok (.iinc 2 1, 3) := by decide +kernel
theorem dX8_cutNumber_58 : decode cX8_cutNumber 58 = .ok (.goto (-54), 3) := by decide +kernel
theorem dX8_cutNumber_61 : decode cX8_cutNumber 61 = .ok (.aload_n 0, 1) := by decide +kernel
theorem dX8_cutNumber_62 : decode cX8_cutNumber 62 = .ok (.iload_n 2, 1) := by decide +kernel
theorem dX8_cutNumber_63 : decode cX8_cutNumber 63 = .ok (.iload_n 1, 1) := by decide +kernel
theorem dX8_cutNumber_64 : decode cX8_cutNumber 64 = .ok (.isub, 1) := by decide +kernel
theorem dX8_cutNumber_65 : decode cX8_cutNumber 65 = .ok (.iconst 4, 1) := by decide +kernel
theorem dX8_cutNumber_66 : decode cX8_cutNumber 66 = .ok (.if_icmp .le 7, 3) := by decide +kernel
theorem dX8_cutNumber_69 : decode cX8_cutNumber 69 = .ok (.iconst 4, 1) := by decide +kernel
theorem dX8_cutNumber_70 : decode cX8_cutNumber 70 = .ok (.goto 4, 3) := by decide +kernel
theorem dX8_cutNumber_73 : decode cX8_cutNumber 73 = .ok (.iconst 2, 1) := by decide +kernel
theorem dX8_cutNumber_74 : decode cX8_cutNumber 74 = .ok (.iload_n 3, 1) := by decide +kernel
theorem dX8_cutNumber_75 : decode cX8_cutNumber 75 = .ok (.iload_n 1, 1) := by decide +kernel
theorem dX8_cutNumber_76 : decode cX8_cutNumber 76 = .ok (.invokevirtual 55, 3) := by decide +kernel
theorem dX8_cutNumber_79 : decode cX8_cutNumber 79 = .ok (.iload_n 2, 1) := by decide +kernel
theorem dX8_cutNumber_80 : decode cX8_cutNumber 80 = .ok (.ireturn, 1) := by decide +kernel
theorem dX8_cutRow_0 : decode cX8_cutRow 0 = .ok (.aload_n 0, 1) := by decide +kernel
theorem dX8_cutRow_1 : decode cX8_cutRow 1 = .ok (.iconst 3, 1) := by decide +kernel
theorem dX8_cutRow_2 : decode cX8_cutRow 2 = .ok (.bipush 34, 2) := by decide +kernel
theorem dX8_cutRow_4 : decode cX8_cutRow 4 = .ok (.iload_n 1, 1) := by decide +kernel
theorem dX8_cutRow_5 : decode cX8_cutRow 5 = .ok (.invokevirtual 55, 3) := by decide +kernel
theorem dX8_cutRow_8 : decode cX8_cutRow 8 = .ok (.iload_n 1, 1) := by decide +kernel
theorem dX8_cutRow_9 : decode cX8_cutRow 9 = .ok (.iconst 1, 1) := by decide +kernel
theorem dX8_cutRow_10 : decode cX8_cutRow 10 = .ok (.iadd, 1) := by decide +kernel
theorem dX8_cutRow_11 : decode cX8_cutRow 11 = .ok (.istore_n 2, 1) := by decide +kernel
theorem dX8_cutRow_12 : decode cX8_cutRow 12 = .ok (.iload_n 2, 1) := by decide +kernel
theorem dX8_cutRow_13 : decode cX8_cutRow 13 = .ok (.aload_n 0, 1) := by decide +kernel
theorem dX8_cutRow_14 : decode cX8_cutRow 14 = .ok (.getfield 28, 3) := by decide +kernel
theorem dX8_cutRow_17 : decode cX8_cutRow 17 = .ok (.getfield 39, 3) := by decide +kernel
theorem dX8_cutRow_20 : decode cX8_cutRow 20 = .ok (.if_icmp .ge 23, 3) := by decide +kernel
theorem dX8_cutRow_23 : decode cX8_cutRow 23 = .ok (.aload_n 0, 1) := by decide +kernel
theorem dX8_cutRow_24 : decode cX8_cutRow 24 = .ok (.getfield 28, 3) := by decide +kernel
theorem dX8_cutRow_27 : decode cX8_cutRow 27 = .ok (.getfield 44, 3) := by decide +kernel
theorem dX8_cutRow_30 : decode cX8_cutRow 30 = .ok (.iload_n 2, 1) := by decide +kernel
theorem dX8_cutRow_31 : decode cX8_cutRow 31 = .ok (.iaload, 1) := by decide +kernel
theorem dX8_cutRow_32 : decode cX8_cutRow 32 = .ok (.bipush 34, 2) := by decide +kernel
theorem dX8_cutRow_34 : decode cX8_cutRow 34 = .ok (.if_icmp .eq 9, 3) := by decide +kernel
theorem dX8_cutRow_37 : decode cX8_cutRow 37 = .ok (.iinc 2 1, 3) := by decide +kernel
theorem dX8_cutRow_40 : decode cX8_cutRow 40 = .ok (.goto (-28), 3) := by decide +kernel
theorem dX8_cutRow_43 : decode cX8_cutRow 43 = .ok (.iload_n 2, 1) := by decide +kernel
theorem dX8_cutRow_44 : decode cX8_cutRow 44 = .ok (.iconst 1, 1) := by decide +kernel
theorem dX8_cutRow_45 : decode cX8_cutRow 45 = .ok (.iadd, 1) := by decide +kernel
theorem dX8_cutRow_46 : decode cX8_cutRow 46 = .ok (.ireturn, 1) := by decide +kernel
theorem dX8_wordAt_0 : decode cX8_wordAt 0 = .ok (.iconst 0, 1) := by decide +kernel
theorem dX8_wordAt_1 : decode cX8_wordAt 1 = .ok (.istore_n 3, 1) := by decide +kernel
theorem dX8_wordAt_2 : decode cX8_wordAt 2 = .ok (.iconst 0, 1) := by decide +kernel
theorem dX8_wordAt_3 : decode cX8_wordAt 3 = .ok (.istore 4, 2) := by decide +kernel
theorem dX8_wordAt_5 : decode cX8_wordAt 5 = .ok (.iconst 0, 1) := by decide +kernel
theorem dX8_wordAt_6 : decode cX8_wordAt 6 = .ok (.istore 5, 2) := by decide +kernel
theorem dX8_wordAt_8 : decode cX8_wordAt 8 = .ok (.iload 5, 2) := by decide +kernel
theorem dX8_wordAt_10 : decode cX8_wordAt 10 = .ok (.aload_n 0, 1) := by decide +kernel
theorem dX8_wordAt_11 : decode cX8_wordAt 11 = .ok (.getfield 32, 3) := by decide +kernel
theorem dX8_wordAt_14 : decode cX8_wordAt 14 = .ok (.invokevirtual 83, 3) := by decide +kernel
theorem dX8_wordAt_17 : decode cX8_wordAt 17 = .ok (.if_icmp .gt 73, 3) := by decide +kernel
theorem dX8_wordAt_20 : decode cX8_wordAt 20 = .ok (.iload 5, 2) := by decide +kernel
theorem dX8_wordAt_22 : decode cX8_wordAt 22 = .ok (.aload_n 0, 1) := by decide +kernel
theorem dX8_wordAt_23 : decode cX8_wordAt 23 = .ok (.getfield 32, 3) := by decide +kernel
theorem dX8_wordAt_26 : decode cX8_wordAt 26 = .ok (.invokevirtual 83, 3) := by decide +kernel
theorem dX8_wordAt_29 : decode cX8_wordAt 29 = .ok (.if_icmp .ge 20, 3) := by decide +kernel
theorem dX8_wordAt_32 : decode cX8_wordAt 32 = .ok (.aload_n 0, 1) := by decide +kernel
theorem dX8_wordAt_33 : decode cX8_wordAt 33 = .ok (.getfield 32, 3) := by decide +kernel
theorem dX8_wordAt_36 : decode cX8_wordAt 36 = .ok (.iload 5, 2) := by decide +kernel
theorem dX8_wordAt_38 : decode cX8_wordAt 38 = .ok (.invokevirtual 86, 3) := by decide +kernel
theorem dX8_wordAt_41 : decode cX8_wordAt 41 = .ok (.bipush 32, 2) := by decide +kernel
theorem dX8_wordAt_43 : decode cX8_wordAt 43 = .ok (.if_icmp .eq 6, 3) := by decide +kernel
theorem dX8_wordAt_46 : decode cX8_wordAt 46 = .ok (.goto 38, 3) := by decide +kernel
theorem dX8_wordAt_49 : decode cX8_wordAt 49 = .ok (.iload 5, 2) := by decide +kernel
theorem dX8_wordAt_51 : decode cX8_wordAt 51 = .ok (.iload 4, 2) := by decide +kernel
theorem dX8_wordAt_53 : decode cX8_wordAt 53 = .ok (.isub, 1) := by decide +kernel
theorem dX8_wordAt_54 : decode cX8_wordAt 54 = .ok (.iload_n 2, 1) := by decide +kernel
theorem dX8_wordAt_55 : decode cX8_wordAt 55 = .ok (.iload_n 1, 1) := by decide +kernel
theorem dX8_wordAt_56 : decode cX8_wordAt 56 = .ok (.isub, 1) := by decide +kernel
theorem dX8_wordAt_57 : decode cX8_wordAt 57 = .ok (.if_icmp .ne 18, 3) := by decide +kernel
theorem dX8_wordAt_60 : decode cX8_wordAt 60 = .ok (.aload_n 0, 1) := by decide +kernel
theorem dX8_wordAt_61 : decode cX8_wordAt 61 = .ok (.iload 4, 2) := by decide +kernel
theorem dX8_wordAt_63 : decode cX8_wordAt 63 = .ok (.iload_n 1, 1) := by decide +kernel
theorem dX8_wordAt_64 : decode cX8_wordAt 64 = .ok (.iload_n 2, 1) := by decide +kernel
theorem dX8_wordAt_65 : decode cX8_wordAt 65 = .ok (.iload_n 1, 1) := by decide +kernel
theorem dX8_wordAt_66 : decode cX8_wordAt 66 = .ok (.isub, 1) := by decide +kernel
theorem dX8_wordAt_67 : decode cX8_wordAt 67 = .ok (.invokevirtual 90, 3) := by decide +kernel
theorem dX8_wordAt_70 : decode cX8_wordAt 70 = .ok (.ifCond .eq 5, 3) := by decide +kernel
theorem dX8_wordAt_73 : decode cX8_wordAt 73 = .ok (.iload_n 3, 1) := by decide +kernel
theorem dX8_wordAt_74 : decode cX8_wordAt 74 = .ok (.ireturn, 1) := by decide +kernel
theorem dX8_wordAt_75 : decode cX8_wordAt 75 = .ok (.iinc 3 1, 3) := by decide +kernel
theorem dX8_wordAt_78 : decode cX8_wordAt 78 = .ok (.iload 5, 2) := by decide +kernel
theorem dX8_wordAt_80 : decode cX8_wordAt 80 = .ok (.iconst 1, 1) := by decide +kernel
theorem dX8_wordAt_81 : decode cX8_wordAt 81 = .ok (.iadd, 1) := by decide +kernel
theorem dX8_wordAt_82 : decode cX8_wordAt 82 = .ok (.istore 4, 2) := by decide +kernel
theorem dX8_wordAt_84 : decode cX8_wordAt 84 = .ok (.iinc 5 1, 3) := by decide +kernel
theorem dX8_wordAt_87 : decode cX8_wordAt 87 = .ok (.goto (-79), 3) := by decide +kernel
theorem dX8_wordAt_90 : decode cX8_wordAt 90 = .ok (.iconst (-1), 1) := by decide +kernel
theorem dX8_wordAt_91 : decode cX8_wordAt 91 = .ok (.ireturn, 1) := by decide +kernel
theorem dX8_isSame_0 : decode cX8_isSame 0 = .ok (.iconst 0, 1) := by decide +kernel
theorem dX8_isSame_1 : decode cX8_isSame 1 = .ok (.istore 4, 2) := by decide +kernel
theorem dX8_isSame_3 : decode cX8_isSame 3 = .ok (.iload 4, 2) := by decide +kernel
theorem dX8_isSame_5 : decode cX8_isSame 5 = .ok (.iload_n 3, 1) := by decide +kernel
theorem dX8_isSame_6 : decode cX8_isSame 6 = .ok (.if_icmp .ge 37, 3) := by decide +kernel
theorem dX8_isSame_9 : decode cX8_isSame 9 = .ok (.aload_n 0, 1) := by decide +kernel
theorem dX8_isSame_10 : decode cX8_isSame 10 = .ok (.getfield 32, 3) := by decide +kernel
theorem dX8_isSame_13 : decode cX8_isSame 13 = .ok (.iload_n 1, 1) := by decide +kernel
theorem dX8_isSame_14 : decode cX8_isSame 14 = .ok (.iload 4, 2) := by decide +kernel
theorem dX8_isSame_16 : decode cX8_isSame 16 = .ok (.iadd, 1) := by decide +kernel
theorem dX8_isSame_17 : decode cX8_isSame 17 = .ok (.invokevirtual 86, 3) := by decide +kernel
theorem dX8_isSame_20 : decode cX8_isSame 20 = .ok (.aload_n 0, 1) := by decide +kernel
theorem dX8_isSame_21 : decode cX8_isSame 21 = .ok (.getfield 28, 3) := by decide +kernel
theorem dX8_isSame_24 : decode cX8_isSame 24 = .ok (.getfield 44, 3) := by decide +kernel
theorem dX8_isSame_27 : decode cX8_isSame 27 = .ok (.iload_n 2, 1) := by decide +kernel
theorem dX8_isSame_28 : decode cX8_isSame 28 = .ok (.iload 4, 2) := by decide +kernel
theorem dX8_isSame_30 : decode cX8_isSame 30 = .ok (.iadd, 1) := by decide +kernel
theorem dX8_isSame_31 : decode cX8_isSame 31 = .ok (.iaload, 1) := by decide +kernel
theorem dX8_isSame_32 : decode cX8_isSame 32 = .ok (.if_icmp .eq 5, 3) := by decide +kernel
theorem dX8_isSame_35 : decode cX8_isSame 35 = .ok (.iconst 0, 1) := by decide +kernel
theorem dX8_isSame_36 : decode cX8_isSame 36 = .ok (.ireturn, 1) := by decide +kernel
theorem dX8_isSame_37 : decode cX8_isSame 37 = .ok (.iinc 4 1, 3) := by decide +kernel
theorem dX8_isSame_40 : decode cX8_isSame 40 = .ok (.goto (-37), 3) := by decide +kernel
theorem dX8_isSame_43 : decode cX8_isSame 43 = .ok (.iconst 1, 1) := by decide +kernel
theorem dX8_isSame_44 : decode cX8_isSame 44 = .ok (.ireturn, 1) := by decide +kernel
theorem dX8_keep_0 : decode cX8_keep 0 = .ok (.aload_n 0, 1) := by decide +kernel
theorem dX8_keep_1 : decode cX8_keep 1 = .ok (.getfield 21, 3) := by decide +kernel
theorem dX8_keep_4 : decode cX8_keep 4 = .ok (.aload_n 0, 1) := by decide +kernel
theorem dX8_keep_5 : decode cX8_keep 5 = .ok (.getfield 9, 3) := by decide +kernel
theorem dX8_keep_8 : decode cX8_keep 8 = .ok (.arraylength, 1) := by decide +kernel
theorem dX8_keep_9 : decode cX8_keep 9 = .ok (.if_icmp .lt 4, 3) := by decide +kernel
theorem dX8_keep_12 : decode cX8_keep 12 = .ok (.return_, 1) := by decide +kernel
theorem dX8_keep_13 : decode cX8_keep 13 = .ok (.aload_n 0, 1) := by decide +kernel
theorem dX8_keep_14 : decode cX8_keep 14 = .ok (.getfield 9, 3) := by decide +kernel
theorem dX8_keep_17 : decode cX8_keep 17 = .ok (.aload_n 0, 1) := by decide +kernel
theorem dX8_keep_18 : decode cX8_keep 18 = .ok (.getfield 21, 3) := by decide +kernel
theorem dX8_keep_21 : decode cX8_keep 21 = .ok (.iload_n 1, 1) := by decide +kernel
theorem dX8_keep_22 : decode cX8_keep 22 = .ok (.iastore, 1) := by decide +kernel
theorem dX8_keep_23 : decode cX8_keep 23 = .ok (.aload_n 0, 1) := by decide +kernel
theorem dX8_keep_24 : decode cX8_keep 24 = .ok (.getfield 15, 3) := by decide +kernel
theorem dX8_keep_27 : decode cX8_keep 27 = .ok (.aload_n 0, 1) := by decide +kernel
theorem dX8_keep_28 : decode cX8_keep 28 = .ok (.getfield 21, 3) := by decide +kernel
theorem dX8_keep_31 : decode cX8_keep 31 = .ok (.iload_n 2, 1) := by decide +kernel
theorem dX8_keep_32 : decode cX8_keep 32 = .ok (.iastore, 1) := by decide +kernel
theorem dX8_keep_33 : decode cX8_keep 33 = .ok (.aload_n 0, 1) := by decide +kernel
theorem dX8_keep_34 : decode cX8_keep 34 = .ok (.getfield 18, 3) := by decide +kernel
theorem dX8_keep_37 : decode cX8_keep 37 = .ok (.aload_n 0, 1) := by decide +kernel
theorem dX8_keep_38 : decode cX8_keep 38 = .ok (.getfield 21, 3) := by decide +kernel
theorem dX8_keep_41 : decode cX8_keep 41 = .ok (.iload_n 3, 1) := by decide +kernel
theorem dX8_keep_42 : decode cX8_keep 42 = .ok (.iastore, 1) := by decide +kernel
theorem dX8_keep_43 : decode cX8_keep 43 = .ok (.aload_n 0, 1) := by decide +kernel
theorem dX8_keep_44 : decode cX8_keep 44 = .ok (.dup, 1) := by decide +kernel
theorem dX8_keep_45 : decode cX8_keep 45 = .ok (.getfield 21, 3) := by decide +kernel
theorem dX8_keep_48 : decode cX8_keep 48 = .ok (.iconst 1, 1) := by decide +kernel
theorem dX8_keep_49 : decode cX8_keep 49 = .ok (.iadd, 1) := by decide +kernel
theorem dX8_keep_50 : decode cX8_keep 50 = .ok (.putfield 21, 3) := by decide +kernel
theorem dX8_keep_53 : decode cX8_keep 53 = .ok (.return_, 1) := by decide +kernel
theorem dX8_isOfWord_0 : decode cX8_isOfWord 0 = .ok (.iload_n 0, 1) := by decide +kernel
theorem dX8_isOfWord_1 : decode cX8_isOfWord 1 = .ok (.bipush 97, 2) := by decide +kernel
theorem dX8_isOfWord_3 : decode cX8_isOfWord 3 = .ok (.if_icmp .lt 9, 3) := by decide +kernel
theorem dX8_isOfWord_6 : decode cX8_isOfWord 6 = .ok (.iload_n 0, 1) := by decide +kernel
theorem dX8_isOfWord_7 : decode cX8_isOfWord 7 = .ok (.bipush 122, 2) := by decide +kernel
theorem dX8_isOfWord_9 : decode cX8_isOfWord 9 = .ok (.if_icmp .le 15, 3) := by decide +kernel
theorem dX8_isOfWord_12 : decode cX8_isOfWord 12 = .ok (.iload_n 0, 1) := by decide +kernel
theorem dX8_isOfWord_13 : decode cX8_isOfWord 13 = .ok (.bipush 65, 2) := by decide +kernel
theorem dX8_isOfWord_15 : decode cX8_isOfWord 15 = .ok (.if_icmp .lt 13, 3) := by decide +kernel
theorem dX8_isOfWord_18 : decode cX8_isOfWord 18 = .ok (.iload_n 0, 1) := by decide +kernel
theorem dX8_isOfWord_19 : decode cX8_isOfWord 19 = .ok (.bipush 90, 2) := by decide +kernel
theorem dX8_isOfWord_21 : decode cX8_isOfWord 21 = .ok (.if_icmp .gt 7, 3) := by decide +kernel
theorem dX8_isOfWord_24 : decode cX8_isOfWord 24 = .ok (.iconst 1, 1) := by decide +kernel
theorem dX8_isOfWord_25 : decode cX8_isOfWord 25 = .ok (.goto 4, 3) := by decide +kernel
theorem dX8_isOfWord_28 : decode cX8_isOfWord 28 = .ok (.iconst 0, 1) := by decide +kernel
theorem dX8_isOfWord_29 : decode cX8_isOfWord 29 = .ok (.ireturn, 1) := by decide +kernel
theorem dX8_isDigit_0 : decode cX8_isDigit 0 = .ok (.iload_n 0, 1) := by decide +kernel
theorem dX8_isDigit_1 : decode cX8_isDigit 1 = .ok (.bipush 48, 2) := by decide +kernel
theorem dX8_isDigit_3 : decode cX8_isDigit 3 = .ok (.if_icmp .lt 13, 3) := by decide +kernel
theorem dX8_isDigit_6 : decode cX8_isDigit 6 = .ok (.iload_n 0, 1) := by decide +kernel
theorem dX8_isDigit_7 : decode cX8_isDigit 7 = .ok (.bipush 57, 2) := by decide +kernel
theorem dX8_isDigit_9 : decode cX8_isDigit 9 = .ok (.if_icmp .gt 7, 3) := by decide +kernel
theorem dX8_isDigit_12 : decode cX8_isDigit 12 = .ok (.iconst 1, 1) := by decide +kernel
theorem dX8_isDigit_13 : decode cX8_isDigit 13 = .ok (.goto 4, 3) := by decide +kernel
theorem dX8_isDigit_16 : decode cX8_isDigit 16 = .ok (.iconst 0, 1) := by decide +kernel
theorem dX8_isDigit_17 : decode cX8_isDigit 17 = .ok (.ireturn, 1) := by decide +kernel
theorem dX8_skip_0 : decode cX8_skip 0 = .ok (.aload_n 0, 1) := by decide +kernel
theorem dX8_skip_1 : decode cX8_skip 1 = .ok (.getfield 25, 3) := by decide +kernel
theorem dX8_skip_4 : decode cX8_skip 4 = .ok (.aload_n 0, 1) := by decide +kernel
theorem dX8_skip_5 : decode cX8_skip 5 = .ok (.getfield 21, 3) := by decide +kernel
theorem dX8_skip_8 : decode cX8_skip 8 = .ok (.iconst 1, 1) := by decide +kernel
theorem dX8_skip_9 : decode cX8_skip 9 = .ok (.isub, 1) := by decide +kernel
theorem dX8_skip_10 : decode cX8_skip 10 = .ok (.if_icmp .ge 13, 3) := by decide +kernel
theorem dX8_skip_13 : decode cX8_skip 13 = .ok (.aload_n 0, 1) := by decide +kernel
theorem dX8_skip_14 : decode cX8_skip 14 = .ok (.dup, 1) := by decide +kernel
theorem dX8_skip_15 : decode cX8_skip 15 = .ok (.getfield 25, 3) := by decide +kernel
theorem dX8_skip_18 : decode cX8_skip 18 = .ok (.iconst 1, 1) := by decide +kernel
theorem dX8_skip_19 : decode cX8_skip 19 = .ok (.iadd, 1) := by decide +kernel
theorem dX8_skip_20 : decode cX8_skip 20 = .ok (.putfield 25, 3) := by decide +kernel
theorem dX8_skip_23 : decode cX8_skip 23 = .ok (.return_, 1) := by decide +kernel
theorem dX8_kind_0 : decode cX8_kind 0 = .ok (.aload_n 0, 1) := by decide +kernel
theorem dX8_kind_1 : decode cX8_kind 1 = .ok (.getfield 9, 3) := by decide +kernel
theorem dX8_kind_4 : decode cX8_kind 4 = .ok (.aload_n 0, 1) := by decide +kernel
theorem dX8_kind_5 : decode cX8_kind 5 = .ok (.getfield 25, 3) := by decide +kernel
theorem dX8_kind_8 : decode cX8_kind 8 = .ok (.iaload, 1) := by decide +kernel
theorem dX8_kind_9 : decode cX8_kind 9 = .ok (.ireturn, 1) := by decide +kernel
theorem dX8_value_0 : decode cX8_value 0 = .ok (.aload_n 0, 1) := by decide +kernel
theorem dX8_value_1 : decode cX8_value 1 = .ok (.getfield 15, 3) := by decide +kernel
theorem dX8_value_4 : decode cX8_value 4 = .ok (.aload_n 0, 1) := by decide +kernel
theorem dX8_value_5 : decode cX8_value 5 = .ok (.getfield 25, 3) := by decide +kernel
theorem dX8_value_8 : decode cX8_value 8 = .ok (.iaload, 1) := by decide +kernel
theorem dX8_value_9 : decode cX8_value 9 = .ok (.ireturn, 1) := by decide +kernel
theorem dX8_place_0 : decode cX8_place 0 = .ok (.aload_n 0, 1) := by decide +kernel
theorem dX8_place_1 : decode cX8_place 1 = .ok (.getfield 18, 3) := by decide +kernel
theorem dX8_place_4 : decode cX8_place 4 = .ok (.aload_n 0, 1) := by decide +kernel
theorem dX8_place_5 : decode cX8_place 5 = .ok (.getfield 25, 3) := by decide +kernel
theorem dX8_place_8 : decode cX8_place 8 = .ok (.iaload, 1) := by decide +kernel
theorem dX8_place_9 : decode cX8_place 9 = .ok (.ireturn, 1) := by decide +kernel
theorem dX8_isWord_0 : decode cX8_isWord 0 = .ok (.aload_n 0, 1) := by decide +kernel
theorem dX8_isWord_1 : decode cX8_isWord 1 = .ok (.getfield 9, 3) := by decide +kernel
theorem dX8_isWord_4 : decode cX8_isWord 4 = .ok (.aload_n 0, 1) := by decide +kernel
theorem dX8_isWord_5 : decode cX8_isWord 5 = .ok (.getfield 25, 3) := by decide +kernel
theorem dX8_isWord_8 : decode cX8_isWord 8 = .ok (.iaload, 1) := by decide +kernel
theorem dX8_isWord_9 : decode cX8_isWord 9 = .ok (.iconst 1, 1) := by decide +kernel
theorem dX8_isWord_10 : decode cX8_isWord 10 = .ok (.if_icmp .ne 20, 3) := by decide +kernel
theorem dX8_isWord_13 : decode cX8_isWord 13 = .ok (.aload_n 0, 1) := by decide +kernel
theorem dX8_isWord_14 : decode cX8_isWord 14 = .ok (.getfield 15, 3) := by decide +kernel
theorem dX8_isWord_17 : decode cX8_isWord 17 = .ok (.aload_n 0, 1) := by decide +kernel
theorem dX8_isWord_18 : decode cX8_isWord 18 = .ok (.getfield 25, 3) := by decide +kernel
theorem dX8_isWord_21 : decode cX8_isWord 21 = .ok (.iaload, 1) := by decide +kernel
theorem dX8_isWord_22 : decode cX8_isWord 22 = .ok (.iload_n 1, 1) := by decide +kernel
theorem dX8_isWord_23 : decode cX8_isWord 23 = .ok (.if_icmp .ne 7, 3) := by decide +kernel
theorem dX8_isWord_26 : decode cX8_isWord 26 = .ok (.iconst 1, 1) := by decide +kernel
theorem dX8_isWord_27 : decode cX8_isWord 27 = .ok (.goto 4, 3) := by decide +kernel
theorem dX8_isWord_30 : decode cX8_isWord 30 = .ok (.iconst 0, 1) := by decide +kernel
theorem dX8_isWord_31 : decode cX8_isWord 31 = .ok (.ireturn, 1) := by decide +kernel
theorem dX8_isSign_0 : decode cX8_isSign 0 = .ok (.aload_n 0, 1) := by decide +kernel
theorem dX8_isSign_1 : decode cX8_isSign 1 = .ok (.getfield 9, 3) := by decide +kernel
theorem dX8_isSign_4 : decode cX8_isSign 4 = .ok (.aload_n 0, 1) := by decide +kernel
theorem dX8_isSign_5 : decode cX8_isSign 5 = .ok (.getfield 25, 3) := by decide +kernel
theorem dX8_isSign_8 : decode cX8_isSign 8 = .ok (.iaload, 1) := by decide +kernel
theorem dX8_isSign_9 : decode cX8_isSign 9 = .ok (.iconst 3, 1) := by decide +kernel
theorem dX8_isSign_10 : decode cX8_isSign 10 = .ok (.if_icmp .ne 20, 3) := by decide +kernel
theorem dX8_isSign_13 : decode cX8_isSign 13 = .ok (.aload_n 0, 1) := by decide +kernel
theorem dX8_isSign_14 : decode cX8_isSign 14 = .ok (.getfield 15, 3) := by decide +kernel
theorem dX8_isSign_17 : decode cX8_isSign 17 = .ok (.aload_n 0, 1) := by decide +kernel
theorem dX8_isSign_18 : decode cX8_isSign 18 = .ok (.getfield 25, 3) := by decide +kernel
theorem dX8_isSign_21 : decode cX8_isSign 21 = .ok (.iaload, 1) := by decide +kernel
theorem dX8_isSign_22 : decode cX8_isSign 22 = .ok (.iload_n 1, 1) := by decide +kernel
theorem dX8_isSign_23 : decode cX8_isSign 23 = .ok (.if_icmp .ne 7, 3) := by decide +kernel
theorem dX8_isSign_26 : decode cX8_isSign 26 = .ok (.iconst 1, 1) := by decide +kernel
theorem dX8_isSign_27 : decode cX8_isSign 27 = .ok (.goto 4, 3) := by decide +kernel
theorem dX8_isSign_30 : decode cX8_isSign 30 = .ok (.iconst 0, 1) := by decide +kernel
theorem dX8_isSign_31 : decode cX8_isSign 31 = .ok (.ireturn, 1) := by decide +kernel
theorem dX8_wrong_0 : decode cX8_wrong 0 = .ok (.aload_n 0, 1) := by decide +kernel
theorem dX8_wrong_1 : decode cX8_wrong 1 = .ok (.getfield 28, 3) := by decide +kernel
theorem dX8_wrong_4 : decode cX8_wrong 4 = .ok (.iload_n 1, 1) := by decide +kernel
theorem dX8_wrong_5 : decode cX8_wrong 5 = .ok (.putfield 94, 3) := by decide +kernel
theorem dX8_wrong_8 : decode cX8_wrong 8 = .ok (.aload_n 0, 1) := by decide +kernel
theorem dX8_wrong_9 : decode cX8_wrong 9 = .ok (.getfield 28, 3) := by decide +kernel
theorem dX8_wrong_12 : decode cX8_wrong 12 = .ok (.aload_n 0, 1) := by decide +kernel
theorem dX8_wrong_13 : decode cX8_wrong 13 = .ok (.getfield 18, 3) := by decide +kernel
theorem dX8_wrong_16 : decode cX8_wrong 16 = .ok (.aload_n 0, 1) := by decide +kernel
theorem dX8_wrong_17 : decode cX8_wrong 17 = .ok (.getfield 25, 3) := by decide +kernel
theorem dX8_wrong_20 : decode cX8_wrong 20 = .ok (.iaload, 1) := by decide +kernel
theorem dX8_wrong_21 : decode cX8_wrong 21 = .ok (.putfield 97, 3) := by decide +kernel
theorem dX8_wrong_24 : decode cX8_wrong 24 = .ok (.iconst 0, 1) := by decide +kernel
theorem dX8_wrong_25 : decode cX8_wrong 25 = .ok (.ireturn, 1) := by decide +kernel
theorem dX8_skipWord_0 : decode cX8_skipWord 0 = .ok (.aload_n 0, 1) := by decide +kernel
theorem dX8_skipWord_1 : decode cX8_skipWord 1 = .ok (.iload_n 1, 1) := by decide +kernel
theorem dX8_skipWord_2 : decode cX8_skipWord 2 = .ok (.invokevirtual 100, 3) := by decide +kernel
theorem dX8_skipWord_5 : decode cX8_skipWord 5 = .ok (.ifCond .ne 9, 3) := by decide +kernel
theorem dX8_skipWord_8 : decode cX8_skipWord 8 = .ok (.aload_n 0, 1) := by decide +kernel
theorem dX8_skipWord_9 : decode cX8_skipWord 9 = .ok (.iconst 1, 1) := by decide +kernel
theorem dX8_skipWord_10 : decode cX8_skipWord 10 = .ok (.invokevirtual 103, 3) := by decide +kernel
theorem dX8_skipWord_13 : decode cX8_skipWord 13 = .ok (.ireturn, 1) := by decide +kernel
theorem dX8_skipWord_14 : decode cX8_skipWord 14 = .ok (.aload_n 0, 1) := by decide +kernel
theorem dX8_skipWord_15 : decode cX8_skipWord 15 = .ok (.invokevirtual 106, 3) := by decide +kernel
theorem dX8_skipWord_18 : decode cX8_skipWord 18 = .ok (.iconst 1, 1) := by decide +kernel
theorem dX8_skipWord_19 : decode cX8_skipWord 19 = .ok (.ireturn, 1) := by decide +kernel
theorem dX8_skipSign_0 : decode cX8_skipSign 0 = .ok (.aload_n 0, 1) := by decide +kernel
theorem dX8_skipSign_1 : decode cX8_skipSign 1 = .ok (.iload_n 1, 1) := by decide +kernel
theorem dX8_skipSign_2 : decode cX8_skipSign 2 = .ok (.invokevirtual 109, 3) := by decide +kernel
theorem dX8_skipSign_5 : decode cX8_skipSign 5 = .ok (.ifCond .ne 9, 3) := by decide +kernel
theorem dX8_skipSign_8 : decode cX8_skipSign 8 = .ok (.aload_n 0, 1) := by decide +kernel
theorem dX8_skipSign_9 : decode cX8_skipSign 9 = .ok (.iconst 1, 1) := by decide +kernel
theorem dX8_skipSign_10 : decode cX8_skipSign 10 = .ok (.invokevirtual 103, 3) := by decide +kernel
theorem dX8_skipSign_13 : decode cX8_skipSign 13 = .ok (.ireturn, 1) := by decide +kernel
theorem dX8_skipSign_14 : decode cX8_skipSign 14 = .ok (.aload_n 0, 1) := by decide +kernel
theorem dX8_skipSign_15 : decode cX8_skipSign 15 = .ok (.invokevirtual 106, 3) := by decide +kernel
theorem dX8_skipSign_18 : decode cX8_skipSign 18 = .ok (.iconst 1, 1) := by decide +kernel
theorem dX8_skipSign_19 : decode cX8_skipSign 19 = .ok (.ireturn, 1) := by decide +kernel
theorem dX9_init_0 : decode cX9_init 0 = .ok (.aload_n 0, 1) := by decide +kernel
theorem dX9_init_1 : decode cX9_init 1 = .ok (.invokespecial 3, 3) := by decide +kernel
theorem dX9_init_4 : decode cX9_init 4 = .ok (.aload_n 0, 1) := by decide +kernel
theorem dX9_init_5 : decode cX9_init 5 = .ok (.bipush 12, 2) := by decide +kernel
theorem dX9_init_7 : decode cX9_init 7 = .ok (.newarray .int, 2) := by decide +kernel
theorem dX9_init_9 : decode cX9_init 9 = .ok (.putfield 11, 3) := by decide +kernel
theorem dX9_init_12 : decode cX9_init 12 = .ok (.aload_n 0, 1) := by decide +kernel
theorem dX9_init_13 : decode cX9_init 13 = .ok (.bipush 12, 2) := by decide +kernel
theorem dX9_init_15 : decode cX9_init 15 = .ok (.newarray .int, 2) := by decide +kernel
theorem dX9_init_17 : decode cX9_init 17 = .ok (.putfield 17, 3) := by decide +kernel
theorem dX9_init_20 : decode cX9_init 20 = .ok (.aload_n 0, 1) := by decide +kernel
theorem dX9_init_21 : decode cX9_init 21 = .ok (.bipush 12, 2) := by decide +kernel
theorem dX9_init_23 : decode cX9_init 23 = .ok (.newarray .int, 2) := by decide +kernel
theorem dX9_init_25 : decode cX9_init 25 = .ok (.putfield 20, 3) := by decide +kernel
theorem dX9_init_28 : decode cX9_init 28 = .ok (.aload_n 0, 1) := by decide +kernel
theorem dX9_init_29 : decode cX9_init 29 = .ok (.iconst 0, 1) := by decide +kernel
theorem dX9_init_30 : decode cX9_init 30 = .ok (.putfield 23, 3) := by decide +kernel
theorem dX9_init_33 : decode cX9_init 33 = .ok (.aload_n 0, 1) := by decide +kernel
theorem dX9_init_34 : decode cX9_init 34 = .ok (.iconst (-1), 1) := by decide +kernel
theorem dX9_init_35 : decode cX9_init 35 = .ok (.putfield 27, 3) := by decide +kernel
theorem dX9_init_38 : decode cX9_init 38 = .ok (.aload_n 0, 1) := by decide +kernel
theorem dX9_init_39 : decode cX9_init 39 = .ok (.iconst 0, 1) := by decide +kernel
theorem dX9_init_40 : decode cX9_init 40 = .ok (.putfield 30, 3) := by decide +kernel
theorem dX9_init_43 : decode cX9_init 43 = .ok (.aload_n 0, 1) := by decide +kernel
theorem dX9_init_44 : decode cX9_init 44 = .ok (.aload_n 1, 1) := by decide +kernel
theorem dX9_init_45 : decode cX9_init 45 = .ok (.putfield 33, 3) := by decide +kernel
theorem dX9_init_48 : decode cX9_init 48 = .ok (.aload_n 0, 1) := by decide +kernel
theorem dX9_init_49 : decode cX9_init 49 = .ok (.new 37, 3) := by decide +kernel
theorem dX9_init_52 : decode cX9_init 52 = .ok (.dup, 1) := by decide +kernel
theorem dX9_init_53 : decode cX9_init 53 = .ok (.aload_n 1, 1) := by decide +kernel
theorem dX9_init_54 : decode cX9_init 54 = .ok (.ldc 39, 2) := by decide +kernel
theorem dX9_init_56 : decode cX9_init 56 = .ok (.ldc 41, 2) := by decide +kernel
theorem dX9_init_58 : decode cX9_init 58 = .ok (.invokespecial 43, 3) := by decide +kernel
theorem dX9_init_61 : decode cX9_init 61 = .ok (.putfield 46, 3) := by decide +kernel
theorem dX9_init_64 : decode cX9_init 64 = .ok (.return_, 1) := by decide +kernel
theorem dX9_read_0 : decode cX9_read 0 = .ok (.aload_n 0, 1) := by decide +kernel
theorem dX9_read_1 : decode cX9_read 1 = .ok (.getfield 46, 3) := by decide +kernel
theorem dX9_read_4 : decode cX9_read 4 = .ok (.invokevirtual 50, 3) := by decide +kernel
theorem dX9_read_7 : decode cX9_read 7 = .ok (.aload_n 0, 1) := by decide +kernel
theorem dX9_read_8 : decode cX9_read 8 = .ok (.iconst 0, 1) := by decide +kernel
theorem dX9_read_9 : decode cX9_read 9 = .ok (.putfield 23, 3) := by decide +kernel
theorem dX9_read_12 : decode cX9_read 12 = .ok (.aload_n 0, 1) := by decide +kernel
theorem dX9_read_13 : decode cX9_read 13 = .ok (.iload_n 1, 1) := by decide +kernel
theorem dX9_read_14 : decode cX9_read 14 = .ok (.putfield 27, 3) := by decide +kernel
theorem dX9_read_17 : decode cX9_read 17 = .ok (.aload_n 0, 1) := by decide +kernel
theorem dX9_read_18 : decode cX9_read 18 = .ok (.iload_n 2, 1) := by decide +kernel
theorem dX9_read_19 : decode cX9_read 19 = .ok (.putfield 30, 3) := by decide +kernel
theorem dX9_read_22 : decode cX9_read 22 = .ok (.iconst 0, 1) := by decide +kernel
theorem dX9_read_23 : decode cX9_read 23 = .ok (.istore 4, 2) := by decide +kernel
theorem dX9_read_25 : decode cX9_read 25 = .ok (.iload 4, 2) := by decide +kernel
theorem dX9_read_27 : decode cX9_read 27 = .ok (.sipush 400, 3) := by decide +kernel
theorem dX9_read_30 : decode cX9_read 30 = .ok (.if_icmp .ge 28, 3) := by decide +kernel
theorem dX9_read_33 : decode cX9_read 33 = .ok (.aload_n 0, 1) := by decide +kernel
theorem dX9_read_34 : decode cX9_read 34 = .ok (.getfield 46, 3) := by decide +kernel
theorem dX9_read_37 : decode cX9_read 37 = .ok (.invokevirtual 53, 3) := by decide +kernel
theorem dX9_read_40 : decode cX9_read 40 = .ok (.ifCond .eq 18, 3) := by decide +kernel
theorem dX9_read_43 : decode cX9_read 43 = .ok (.aload_n 0, 1) := by decide +kernel
theorem dX9_read_44 : decode cX9_read 44 = .ok (.invokevirtual 57, 3) := by decide +kernel
theorem dX9_read_47 : decode cX9_read 47 = .ok (.ifCond .ne 5, 3) := by decide +kernel
theorem dX9_read_50 : decode cX9_read 50 = .ok (.iconst (-1), 1) := by decide +kernel
theorem dX9_read_51 : decode cX9_read 51 = .ok (.ireturn, 1) := by decide +kernel
theorem dX9_read_52 : decode cX9_read 52 = .ok (.iinc 4 1, 3) := by decide +kernel
theorem dX9_read_55 : decode cX9_read 55 = .ok (.goto (-30), 3) := by decide +kernel
theorem dX9_read_58 : decode cX9_read 58 = .ok (.iload_n 1, 1) := by decide +kernel
theorem dX9_read_59 : decode cX9_read 59 = .ok (.bipush 12, 2) := by decide +kernel
theorem dX9_read_61 : decode cX9_read 61 = .ok (.imul, 1) := by decide +kernel
theorem dX9_read_62 : decode cX9_read 62 = .ok (.istore 4, 2) := by decide +kernel
theorem dX9_read_64 : decode cX9_read 64 = .ok (.aload_n 0, 1) := by decide +kernel
theorem dX9_read_65 : decode cX9_read 65 = .ok (.getfield 11, 3) := by decide +kernel
theorem dX9_read_68 : decode cX9_read 68 = .ok (.iconst 0, 1) := by decide +kernel
theorem dX9_read_69 : decode cX9_read 69 = .ok (.aload_n 3, 1) := by decide +kernel
theorem dX9_read_70 : decode cX9_read 70 = .ok (.getfield 61, 3) := by decide +kernel
theorem dX9_read_73 : decode cX9_read 73 = .ok (.iload 4, 2) := by decide +kernel
theorem dX9_read_75 : decode cX9_read 75 = .ok (.aload_n 0, 1) := by decide +kernel
theorem dX9_read_76 : decode cX9_read 76 = .ok (.getfield 23, 3) := by decide +kernel
theorem dX9_read_79 : decode cX9_read 79 = .ok (.invokestatic 64, 3) := by decide +kernel
theorem dX9_read_82 : decode cX9_read 82 = .ok (.aload_n 0, 1) := by decide +kernel
theorem dX9_read_83 : decode cX9_read 83 = .ok (.getfield 17, 3) := by decide +kernel
theorem dX9_read_86 : decode cX9_read 86 = .ok (.iconst 0, 1) := by decide +kernel
theorem dX9_read_87 : decode cX9_read 87 = .ok (.aload_n 3, 1) := by decide +kernel
theorem dX9_read_88 : decode cX9_read 88 = .ok (.getfield 70, 3) := by decide +kernel
theorem dX9_read_91 : decode cX9_read 91 = .ok (.iload 4, 2) := by decide +kernel
theorem dX9_read_93 : decode cX9_read 93 = .ok (.aload_n 0, 1) := by decide +kernel
theorem dX9_read_94 : decode cX9_read 94 = .ok (.getfield 23, 3) := by decide +kernel
theorem dX9_read_97 : decode cX9_read 97 = .ok (.invokestatic 64, 3) := by decide +kernel
theorem dX9_read_100 : decode cX9_read 100 = .ok (.aload_n 0, 1) := by decide +kernel
theorem dX9_read_101 : decode cX9_read 101 = .ok (.getfield 20, 3) := by decide +kernel
theorem dX9_read_104 : decode cX9_read 104 = .ok (.iconst 0, 1) := by decide +kernel
theorem dX9_read_105 : decode cX9_read 105 = .ok (.aload_n 3, 1) := by decide +kernel
theorem dX9_read_106 : decode cX9_read 106 = .ok (.getfield 73, 3) := by decide +kernel
theorem dX9_read_109 : decode cX9_read 109 = .ok (.iload 4, 2) := by decide +kernel
theorem dX9_read_111 : decode cX9_read 111 = .ok (.aload_n 0, 1) := by decide +kernel
theorem dX9_read_112 : decode cX9_read 112 = .ok (.getfield 23, 3) := by decide +kernel
theorem dX9_read_115 : decode cX9_read 115 = .ok (.invokestatic 64, 3) := by decide +kernel
theorem dX9_read_118 : decode cX9_read 118 = .ok (.aload_n 3, 1) := by decide +kernel
theorem dX9_read_119 : decode cX9_read 119 = .ok (.getfield 76, 3) := by decide +kernel
theorem dX9_read_122 : decode cX9_read 122 = .ok (.iload_n 1, 1) := by decide +kernel
theorem dX9_read_123 : decode cX9_read 123 = .ok (.aload_n 0, 1) := by decide +kernel
theorem dX9_read_124 : decode cX9_read 124 = .ok (.getfield 23, 3) := by decide +kernel
theorem dX9_read_127 : decode cX9_read 127 = .ok (.iastore, 1) := by decide +kernel
theorem dX9_read_128 : decode cX9_read 128 = .ok (.aload_n 0, 1) := by decide +kernel
theorem dX9_read_129 : decode cX9_read 129 = .ok (.getfield 23, 3) := by decide +kernel
theorem dX9_read_132 : decode cX9_read 132 = .ok (.ireturn, 1) := by decide +kernel
theorem dX9_readLine_0 : decode cX9_readLine 0 = .ok (.aload_n 0, 1) := by decide +kernel
theorem dX9_readLine_1 : decode cX9_readLine 1 = .ok (.getfield 46, 3) := by decide +kernel
theorem dX9_readLine_4 : decode cX9_readLine 4 = .ok (.iconst 3, 1) := by decide +kernel
theorem dX9_readLine_5 : decode cX9_readLine 5 = .ok (.invokevirtual 79, 3) := by decide +kernel
theorem dX9_readLine_8 : decode cX9_readLine 8 = .ok (.istore_n 1, 1) := by decide +kernel
theorem dX9_readLine_9 : decode cX9_readLine 9 = .ok (.iload_n 1, 1) := by decide +kernel
theorem dX9_readLine_10 : decode cX9_readLine 10 = .ok (.ifCond .ne 23, 3) := by decide +kernel
theorem dX9_readLine_13 : decode cX9_readLine 13 = .ok (.aload_n 0, 1) := by decide +kernel
theorem dX9_readLine_14 : decode cX9_readLine 14 = .ok (.getfield 46, 3) := by decide +kernel
theorem dX9_readLine_17 : decode cX9_readLine 17 = .ok (.iconst 0, 1) := by decide +kernel
theorem dX9_readLine_18 : decode cX9_readLine 18 = .ok (.invokevirtual 79, 3) := by decide +kernel
theorem dX9_readLine_21 : decode cX9_readLine 21 = .ok (.ifCond .ne 12, 3) := by decide +kernel
theorem dX9_readLine_24 : decode cX9_readLine 24 = .ok (.aload_n 0, 1) := by decide +kernel
theorem dX9_readLine_25 : decode cX9_readLine 25 = .ok (.getfield 46, 3) := by decide +kernel
theorem dX9_readLine_28 : decode cX9_readLine 28 = .ok (.iconst 1, 1) := by decide +kernel
theorem dX9_readLine_29 : decode cX9_readLine 29 = .ok (.invokevirtual 83, 3) := by decide +kernel
theorem dX9_readLine_32 : decode cX9_readLine 32 = .ok (.ireturn, 1) := by decide +kernel
theorem dX9_readLine_33 : decode cX9_readLine 33 = .ok (.aload_n 0, 1) := by decide +kernel
theorem dX9_readLine_34 : decode cX9_readLine 34 = .ok (.getfield 23, 3) := by decide +kernel
theorem dX9_readLine_37 : decode cX9_readLine 37 = .ok (.bipush 12, 2) := by decide +kernel
theorem dX9_readLine_39 : decode cX9_readLine 39 = .ok (.if_icmp .lt 12, 3) := by decide +kernel
theorem dX9_readLine_42 : decode cX9_readLine 42 = .ok (.aload_n 0, 1) := by decide +kernel
theorem dX9_readLine_43 : decode cX9_readLine 43 = .ok (.getfield 46, 3) := by decide +kernel
theorem dX9_readLine_46 : decode cX9_readLine 46 = .ok (.iconst 3, 1) := by decide +kernel
theorem dX9_readLine_47 : decode cX9_readLine 47 = .ok (.invokevirtual 83, 3) := by decide +kernel
theorem dX9_readLine_50 : decode cX9_readLine 50 = .ok (.ireturn, 1) := by decide +kernel
theorem dX9_readLine_51 : decode cX9_readLine 51 = .ok (.aload_n 0, 1) := by decide +kernel
theorem dX9_readLine_52 : decode cX9_readLine 52 = .ok (.getfield 46, 3) := by decide +kernel
theorem dX9_readLine_55 : decode cX9_readLine 55 = .ok (.invokevirtual 86, 3) := by decide +kernel
theorem dX9_readLine_58 : decode cX9_readLine 58 = .ok (.aload_n 0, 1) := by decide +kernel
theorem dX9_readLine_59 : decode cX9_readLine 59 = .ok (.getfield 11, 3) := by decide +kernel
theorem dX9_readLine_62 : decode cX9_readLine 62 = .ok (.aload_n 0, 1) := by decide +kernel
theorem dX9_readLine_63 : decode cX9_readLine 63 = .ok (.getfield 23, 3) := by decide +kernel
theorem dX9_readLine_66 : decode cX9_readLine 66 = .ok (.ldc 89, 2) := by decide +kernel
theorem dX9_readLine_68 : decode cX9_readLine 68 = .ok (.iastore, 1) := by decide +kernel
theorem dX9_readLine_69 : decode cX9_readLine 69 = .ok (.iload_n 1, 1) := by decide +kernel
theorem dX9_readLine_70 : decode cX9_readLine 70 = .ok (.ifCond .ne 12, 3) := by decide +kernel
theorem dX9_readLine_73 : decode cX9_readLine 73 = .ok (.aload_n 0, 1) := by decide +kernel
theorem dX9_readLine_74 : decode cX9_readLine 74 = .ok (.invokevirtual 90, 3) := by decide +kernel
theorem dX9_readLine_77 : decode cX9_readLine 77 = .ok (.ifCond .ne 5, 3) := by decide +kernel
theorem dX9_readLine_80 : decode cX9_readLine 80 = .ok (.iconst 0, 1) := by decide +kernel
theorem dX9_readLine_81 : decode cX9_readLine 81 = .ok (.ireturn, 1) := by decide +kernel
theorem dX9_readLine_82 : decode cX9_readLine 82 = .ok (.aload_n 0, 1) := by decide +kernel
theorem dX9_readLine_83 : decode cX9_readLine 83 = .ok (.getfield 46, 3) := by decide +kernel
theorem dX9_readLine_86 : decode cX9_readLine 86 = .ok (.iconst 1, 1) := by decide +kernel
theorem dX9_readLine_87 : decode cX9_readLine 87 = .ok (.invokevirtual 93, 3) := by decide +kernel
theorem dX9_readLine_90 : decode cX9_readLine 90 = .ok (.ifCond .eq 14, 3) := by decide +kernel
theorem dX9_readLine_93 : decode cX9_readLine 93 = .ok (.aload_n 0, 1) := by decide +kernel
theorem dX9_readLine_94 : decode cX9_readLine 94 = .ok (.aload_n 0, 1) := by decide +kernel
theorem dX9_readLine_95 : decode cX9_readLine 95 = .ok (.getfield 17, 3) := by decide +kernel
theorem dX9_readLine_98 : decode cX9_readLine 98 = .ok (.invokevirtual 96, 3) := by decide +kernel
theorem dX9_readLine_101 : decode cX9_readLine 101 = .ok (.ifCond .ne 5, 3) := by decide +kernel
theorem dX9_readLine_104 : decode cX9_readLine 104 = .ok (.iconst 0, 1) := by decide +kernel
theorem dX9_readLine_105 : decode cX9_readLine 105 = .ok (.ireturn, 1) := by decide +kernel
theorem dX9_readLine_106 : decode cX9_readLine 106 = .ok (.aload_n 0, 1) := by decide +kernel
theorem dX9_readLine_107 : decode cX9_readLine 107 = .ok (.getfield 20, 3) := by decide +kernel
theorem dX9_readLine_110 : decode cX9_readLine 110 = .ok (.aload_n 0, 1) := by decide +kernel
theorem dX9_readLine_111 : decode cX9_readLine 111 = .ok (.getfield 23, 3) := by decide +kernel
theorem dX9_readLine_114 : decode cX9_readLine 114 = .ok (.iconst (-1), 1) := by decide +kernel
theorem dX9_readLine_115 : decode cX9_readLine 115 = .ok (.iastore, 1) := by decide +kernel
theorem dX9_readLine_116 : decode cX9_readLine 116 = .ok (.aload_n 0, 1) := by decide +kernel
theorem dX9_readLine_117 : decode cX9_readLine 117 = .ok (.getfield 46, 3) := by decide +kernel
theorem dX9_readLine_120 : decode cX9_readLine 120 = .ok (.iconst 2, 1) := by decide +kernel
theorem dX9_readLine_121 : decode cX9_readLine 121 = .ok (.invokevirtual 79, 3) := by decide +kernel
theorem dX9_readLine_124 : decode cX9_readLine 124 = .ok (.ifCond .eq 23, 3) := by decide +kernel
theorem dX9_readLine_127 : decode cX9_readLine 127 = .ok (.aload_n 0, 1) := by decide +kernel
theorem dX9_readLine_128 : decode cX9_readLine 128 = .ok (.getfield 46, 3) := by decide +kernel
theorem dX9_readLine_131 : decode cX9_readLine 131 = .ok (.invokevirtual 86, 3) := by decide +kernel
theorem dX9_readLine_134 : decode cX9_readLine 134 = .ok (.aload_n 0, 1) := by decide +kernel
theorem dX9_readLine_135 : decode cX9_readLine 135 = .ok (.aload_n 0, 1) := by decide +kernel
theorem dX9_readLine_136 : decode cX9_readLine 136 = .ok (.getfield 20, 3) := by decide +kernel
theorem dX9_readLine_139 : decode cX9_readLine 139 = .ok (.invokevirtual 96, 3) := by decide +kernel
theorem dX9_readLine_142 : decode cX9_readLine 142 = .ok (.ifCond .ne 5, 3) := by decide +kernel
theorem dX9_readLine_145 : decode cX9_readLine 145 = .ok (.iconst 0, 1) := by decide +kernel
theorem dX9_readLine_146 : decode cX9_readLine 146 = .ok (.ireturn, 1) := by decide +kernel
theorem dX9_readLine_147 : decode cX9_readLine 147 = .ok (.aload_n 0, 1) := by decide +kernel
theorem dX9_readLine_148 : decode cX9_readLine 148 = .ok (.dup, 1) := by decide +kernel
theorem dX9_readLine_149 : decode cX9_readLine 149 = .ok (.getfield 23, 3) := by decide +kernel
theorem dX9_readLine_152 : decode cX9_readLine 152 = .ok (.iconst 1, 1) := by decide +kernel
theorem dX9_readLine_153 : decode cX9_readLine 153 = .ok (.iadd, 1) := by decide +kernel
theorem dX9_readLine_154 : decode cX9_readLine 154 = .ok (.putfield 23, 3) := by decide +kernel
theorem dX9_readLine_157 : decode cX9_readLine 157 = .ok (.aload_n 0, 1) := by decide +kernel
theorem dX9_readLine_158 : decode cX9_readLine 158 = .ok (.getfield 46, 3) := by decide +kernel
theorem dX9_readLine_161 : decode cX9_readLine 161 = .ok (.bipush 59, 2) := by decide +kernel
theorem dX9_readLine_163 : decode cX9_readLine 163 = .ok (.invokevirtual 100, 3) := by decide +kernel
theorem dX9_readLine_166 : decode cX9_readLine 166 = .ok (.ireturn, 1) := by decide +kernel
theorem dX9_readPerson_0 : decode cX9_readPerson 0 = .ok (.aload_n 0, 1) := by decide +kernel
theorem dX9_readPerson_1 : decode cX9_readPerson 1 = .ok (.getfield 46, 3) := by decide +kernel
theorem dX9_readPerson_4 : decode cX9_readPerson 4 = .ok (.invokevirtual 53, 3) := by decide +kernel
theorem dX9_readPerson_7 : decode cX9_readPerson 7 = .ok (.iconst 2, 1) := by decide +kernel
theorem dX9_readPerson_8 : decode cX9_readPerson 8 = .ok (.if_icmp .eq 12, 3) := by decide +kernel
theorem dX9_readPerson_11 : decode cX9_readPerson 11 = .ok (.aload_n 0, 1) := by decide +kernel
theorem dX9_readPerson_12 : decode cX9_readPerson 12 = .ok (.getfield 46, 3) := by decide +kernel
theorem dX9_readPerson_15 : decode cX9_readPerson 15 = .ok (.iconst 1, 1) := by decide +kernel
theorem dX9_readPerson_16 : decode cX9_readPerson 16 = .ok (.invokevirtual 83, 3) := by decide +kernel
theorem dX9_readPerson_19 : decode cX9_readPerson 19 = .ok (.ireturn, 1) := by decide +kernel
theorem dX9_readPerson_20 : decode cX9_readPerson 20 = .ok (.aload_n 0, 1) := by decide +kernel
theorem dX9_readPerson_21 : decode cX9_readPerson 21 = .ok (.getfield 46, 3) := by decide +kernel
theorem dX9_readPerson_24 : decode cX9_readPerson 24 = .ok (.invokevirtual 104, 3) := by decide +kernel
theorem dX9_readPerson_27 : decode cX9_readPerson 27 = .ok (.istore_n 2, 1) := by decide +kernel
theorem dX9_readPerson_28 : decode cX9_readPerson 28 = .ok (.iload_n 2, 1) := by decide +kernel
theorem dX9_readPerson_29 : decode cX9_readPerson 29 = .ok (.aload_n 0, 1) := by decide +kernel
theorem dX9_readPerson_30 : decode cX9_readPerson 30 = .ok (.getfield 30, 3) := by decide +kernel
theorem dX9_readPerson_33 : decode cX9_readPerson 33 = .ok (.if_icmp .ge 11, 3) := by decide +kernel
theorem dX9_readPerson_36 : decode cX9_readPerson 36 = .ok (.iload_n 2, 1) := by decide +kernel
theorem dX9_readPerson_37 : decode cX9_readPerson 37 = .ok (.aload_n 0, 1) := by decide +kernel
theorem dX9_readPerson_38 : decode cX9_readPerson 38 = .ok (.getfield 27, 3) := by decide +kernel
theorem dX9_readPerson_41 : decode cX9_readPerson 41 = .ok (.if_icmp .ne 12, 3) := by decide +kernel
theorem dX9_readPerson_44 : decode cX9_readPerson 44 = .ok (.aload_n 0, 1) := by decide +kernel
theorem dX9_readPerson_45 : decode cX9_readPerson 45 = .ok (.getfield 46, 3) := by decide +kernel
theorem dX9_readPerson_48 : decode cX9_readPerson 48 = .ok (.iconst 2, 1) := by decide +kernel
theorem dX9_readPerson_49 : decode cX9_readPerson 49 = .ok (.invokevirtual 83, 3) := by decide +kernel
theorem dX9_readPerson_52 : decode cX9_readPerson 52 = .ok (.ireturn, 1) := by decide +kernel
theorem dX9_readPerson_53 : decode cX9_readPerson 53 = .ok (.aload_n 1, 1) := by decide +kernel
theorem dX9_readPerson_54 : decode cX9_readPerson 54 = .ok (.aload_n 0, 1) := by decide +kernel
theorem dX9_readPerson_55 : decode cX9_readPerson 55 = .ok (.getfield 23, 3) := by decide +kernel
theorem dX9_readPerson_58 : decode cX9_readPerson 58 = .ok (.iload_n 2, 1) := by decide +kernel
theorem dX9_readPerson_59 : decode cX9_readPerson 59 = .ok (.iastore, 1) := by decide +kernel
theorem dX9_readPerson_60 : decode cX9_readPerson 60 = .ok (.aload_n 0, 1) := by decide +kernel
theorem dX9_readPerson_61 : decode cX9_readPerson 61 = .ok (.getfield 46, 3) := by decide +kernel
theorem dX9_readPerson_64 : decode cX9_readPerson 64 = .ok (.invokevirtual 86, 3) := by decide +kernel
theorem dX9_readPerson_67 : decode cX9_readPerson 67 = .ok (.iconst 1, 1) := by decide +kernel
theorem dX9_readPerson_68 : decode cX9_readPerson 68 = .ok (.ireturn, 1) := by decide +kernel
theorem dX9_readRow_0 : decode cX9_readRow 0 = .ok (.aload_n 0, 1) := by decide +kernel
theorem dX9_readRow_1 : decode cX9_readRow 1 = .ok (.getfield 46, 3) := by decide +kernel
theorem dX9_readRow_4 : decode cX9_readRow 4 = .ok (.bipush 34, 2) := by decide +kernel
theorem dX9_readRow_6 : decode cX9_readRow 6 = .ok (.invokevirtual 107, 3) := by decide +kernel
theorem dX9_readRow_9 : decode cX9_readRow 9 = .ok (.ifCond .ne 12, 3) := by decide +kernel
theorem dX9_readRow_12 : decode cX9_readRow 12 = .ok (.aload_n 0, 1) := by decide +kernel
theorem dX9_readRow_13 : decode cX9_readRow 13 = .ok (.getfield 46, 3) := by decide +kernel
theorem dX9_readRow_16 : decode cX9_readRow 16 = .ok (.iconst 1, 1) := by decide +kernel
theorem dX9_readRow_17 : decode cX9_readRow 17 = .ok (.invokevirtual 83, 3) := by decide +kernel
theorem dX9_readRow_20 : decode cX9_readRow 20 = .ok (.ireturn, 1) := by decide +kernel
theorem dX9_readRow_21 : decode cX9_readRow 21 = .ok (.aload_n 0, 1) := by decide +kernel
theorem dX9_readRow_22 : decode cX9_readRow 22 = .ok (.getfield 46, 3) := by decide +kernel
theorem dX9_readRow_25 : decode cX9_readRow 25 = .ok (.invokevirtual 110, 3) := by decide +kernel
theorem dX9_readRow_28 : decode cX9_readRow 28 = .ok (.iconst 1, 1) := by decide +kernel
theorem dX9_readRow_29 : decode cX9_readRow 29 = .ok (.iadd, 1) := by decide +kernel
theorem dX9_readRow_30 : decode cX9_readRow 30 = .ok (.istore_n 1, 1) := by decide +kernel
theorem dX9_readRow_31 : decode cX9_readRow 31 = .ok (.iconst 0, 1) := by decide +kernel
theorem dX9_readRow_32 : decode cX9_readRow 32 = .ok (.istore_n 2, 1) := by decide +kernel
theorem dX9_readRow_33 : decode cX9_readRow 33 = .ok (.iload_n 1, 1) := by decide +kernel
theorem dX9_readRow_34 : decode cX9_readRow 34 = .ok (.istore_n 3, 1) := by decide +kernel
theorem dX9_readRow_35 : decode cX9_readRow 35 = .ok (.iload_n 3, 1) := by decide +kernel
theorem dX9_readRow_36 : decode cX9_readRow 36 = .ok (.aload_n 0, 1) := by decide +kernel
theorem dX9_readRow_37 : decode cX9_readRow 37 = .ok (.getfield 33, 3) := by decide +kernel
theorem dX9_readRow_40 : decode cX9_readRow 40 = .ok (.getfield 113, 3) := by decide +kernel
theorem dX9_readRow_43 : decode cX9_readRow 43 = .ok (.if_icmp .ge 71, 3) := by decide +kernel
theorem dX9_readRow_46 : decode cX9_readRow 46 = .ok (.aload_n 0, 1) := by decide +kernel
theorem dX9_readRow_47 : decode cX9_readRow 47 = .ok (.getfield 33, 3) := by decide +kernel
theorem dX9_readRow_50 : decode cX9_readRow 50 = .ok (.getfield 118, 3) := by decide +kernel
theorem dX9_readRow_53 : decode cX9_readRow 53 = .ok (.iload_n 3, 1) := by decide +kernel
theorem dX9_readRow_54 : decode cX9_readRow 54 = .ok (.iaload, 1) := by decide +kernel
theorem dX9_readRow_55 : decode cX9_readRow 55 = .ok (.bipush 34, 2) := by decide +kernel
theorem dX9_readRow_57 : decode cX9_readRow 57 = .ok (.if_icmp .ne 12, 3) := by decide +kernel
theorem dX9_readRow_60 : decode cX9_readRow 60 = .ok (.aload_n 0, 1) := by decide +kernel
theorem dX9_readRow_61 : decode cX9_readRow 61 = .ok (.iload_n 2, 1) := by decide +kernel
theorem dX9_readRow_62 : decode cX9_readRow 62 = .ok (.iload_n 3, 1) := by decide +kernel
theorem dX9_readRow_63 : decode cX9_readRow 63 = .ok (.iload_n 1, 1) := by decide +kernel
theorem dX9_readRow_64 : decode cX9_readRow 64 = .ok (.isub, 1) := by decide +kernel
theorem dX9_readRow_65 : decode cX9_readRow 65 = .ok (.invokevirtual 121, 3) := by decide +kernel
theorem dX9_readRow_68 : decode cX9_readRow 68 = .ok (.ireturn, 1) := by decide +kernel
theorem dX9_readRow_69 : decode cX9_readRow 69 = .ok (.aload_n 0, 1) := by decide +kernel
theorem dX9_readRow_70 : decode cX9_readRow 70 = .ok (.getfield 33, 3) := by decide +kernel
theorem dX9_readRow_73 : decode cX9_readRow 73 = .ok (.getfield 118, 3) := by decide +kernel
theorem dX9_readRow_76 : decode cX9_readRow 76 = .ok (.iload_n 3, 1) := by decide +kernel
theorem dX9_readRow_77 : decode cX9_readRow 77 = .ok (.iaload, 1) := by decide +kernel
theorem dX9_readRow_78 : decode cX9_readRow 78 = .ok (.invokestatic 125, 3) := by decide +kernel
theorem dX9_readRow_81 : decode cX9_readRow 81 = .ok (.istore 4, 2) := by decide +kernel
theorem dX9_readRow_83 : decode cX9_readRow 83 = .ok (.iload 4, 2) := by decide +kernel
theorem dX9_readRow_85 : decode cX9_readRow 85 = .ok (.iconst (-1), 1) := by decide +kernel
theorem dX9_readRow_86 : decode cX9_readRow 86 = .ok (.if_icmp .ne 15, 3) := by decide +kernel
theorem dX9_readRow_89 : decode cX9_readRow 89 = .ok (.aload_n 0, 1) := by decide +kernel
theorem dX9_readRow_90 : decode cX9_readRow 90 = .ok (.getfield 33, 3) := by decide +kernel
theorem dX9_readRow_93 : decode cX9_readRow 93 = .ok (.iconst 1, 1) := by decide +kernel
theorem dX9_readRow_94 : decode cX9_readRow 94 = .ok (.iload_n 3, 1) := by decide +kernel
theorem dX9_readRow_95 : decode cX9_readRow 95 = .ok (.invokevirtual 129, 3) := by decide +kernel
theorem dX9_readRow_98 : decode cX9_readRow 98 = .ok (.pop, 1) := by decide +kernel
theorem dX9_readRow_99 : decode cX9_readRow 99 = .ok (.iconst 0, 1) := by decide +kernel
theorem dX9_readRow_100 : decode cX9_readRow 100 = .ok (.ireturn, 1) := by decide +kernel
theorem dX9_readRow_101 : decode cX9_readRow 101 = .ok (.iload_n 2, 1) := by decide +kernel
theorem dX9_readRow_102 : decode cX9_readRow 102 = .ok (.iconst 1, 1) := by decide +kernel
theorem dX9_readRow_103 : decode cX9_readRow 103 = .ok (.iload 4, 2) := by decide +kernel
theorem dX9_readRow_105 : decode cX9_readRow 105 = .ok (.ishl, 1) := by decide +kernel
theorem dX9_readRow_106 : decode cX9_readRow 106 = .ok (.ior, 1) := by decide +kernel
theorem dX9_readRow_107 : decode cX9_readRow 107 = .ok (.istore_n 2, 1) := by decide +kernel
theorem dX9_readRow_108 : decode cX9_readRow 108 = .ok (.iinc 3 1, 3) := by decide +kernel
theorem dX9_readRow_111 : decode cX9_readRow 111 = .ok (.goto (-76), 3) := by decide +kernel
theorem dX9_readRow_114 : decode cX9_readRow 114 = .ok (.aload_n 0, 1) := by decide +kernel
theorem dX9_readRow_115 : decode cX9_readRow 115 = .ok (.getfield 33, 3) := by decide +kernel
theorem dX9_readRow_118 : decode cX9_readRow 118 = .ok (.iconst 1, 1) := by decide +kernel
theorem dX9_readRow_119 : decode cX9_readRow 119 = .ok (.aload_n 0, 1) := by decide +kernel
theorem dX9_readRow_120 : decode cX9_readRow 120 = .ok (.getfield 33, 3) := by decide +kernel
theorem dX9_readRow_123 : decode cX9_readRow 123 = .ok (.getfield 113, 3) := by decide +kernel
theorem dX9_readRow_126 : decode cX9_readRow 126 = .ok (.invokevirtual 129, 3) := by decide +kernel
theorem dX9_readRow_129 : decode cX9_readRow 129 = .ok (.pop, 1) := by decide +kernel
theorem dX9_readRow_130 : decode cX9_readRow 130 = .ok (.iconst 0, 1) := by decide +kernel
theorem dX9_readRow_131 : decode cX9_readRow 131 = .ok (.ireturn, 1) := by decide +kernel
theorem dX9_endRow_0 : decode cX9_endRow 0 = .ok (.iload_n 2, 1) := by decide +kernel
theorem dX9_endRow_1 : decode cX9_endRow 1 = .ok (.ifCond .eq 9, 3) := by decide +kernel
theorem dX9_endRow_4 : decode cX9_endRow 4 = .ok (.iload_n 2, 1) := by decide +kernel
theorem dX9_endRow_5 : decode cX9_endRow 5 = .ok (.bipush 28, 2) := by decide +kernel
theorem dX9_endRow_7 : decode cX9_endRow 7 = .ok (.if_icmp .le 12, 3) := by decide +kernel
theorem dX9_endRow_10 : decode cX9_endRow 10 = .ok (.aload_n 0, 1) := by decide +kernel
theorem dX9_endRow_11 : decode cX9_endRow 11 = .ok (.getfield 46, 3) := by decide +kernel
theorem dX9_endRow_14 : decode cX9_endRow 14 = .ok (.iconst 2, 1) := by decide +kernel
theorem dX9_endRow_15 : decode cX9_endRow 15 = .ok (.invokevirtual 83, 3) := by decide +kernel
theorem dX9_endRow_18 : decode cX9_endRow 18 = .ok (.ireturn, 1) := by decide +kernel
theorem dX9_endRow_19 : decode cX9_endRow 19 = .ok (.aload_n 0, 1) := by decide +kernel
theorem dX9_endRow_20 : decode cX9_endRow 20 = .ok (.getfield 11, 3) := by decide +kernel
theorem dX9_endRow_23 : decode cX9_endRow 23 = .ok (.aload_n 0, 1) := by decide +kernel
theorem dX9_endRow_24 : decode cX9_endRow 24 = .ok (.getfield 23, 3) := by decide +kernel
theorem dX9_endRow_27 : decode cX9_endRow 27 = .ok (.iload_n 1, 1) := by decide +kernel
theorem dX9_endRow_28 : decode cX9_endRow 28 = .ok (.iastore, 1) := by decide +kernel
theorem dX9_endRow_29 : decode cX9_endRow 29 = .ok (.aload_n 0, 1) := by decide +kernel
theorem dX9_endRow_30 : decode cX9_endRow 30 = .ok (.getfield 46, 3) := by decide +kernel
theorem dX9_endRow_33 : decode cX9_endRow 33 = .ok (.invokevirtual 86, 3) := by decide +kernel
theorem dX9_endRow_36 : decode cX9_endRow 36 = .ok (.iconst 1, 1) := by decide +kernel
theorem dX9_endRow_37 : decode cX9_endRow 37 = .ok (.ireturn, 1) := by decide +kernel
theorem dX10_init_0 : decode cX10_init 0 = .ok (.aload_n 0, 1) := by decide +kernel
theorem dX10_init_1 : decode cX10_init 1 = .ok (.invokespecial 3, 3) := by decide +kernel
theorem dX10_init_4 : decode cX10_init 4 = .ok (.aload_n 0, 1) := by decide +kernel
theorem dX10_init_5 : decode cX10_init 5 = .ok (.new 9, 3) := by decide +kernel
theorem dX10_init_8 : decode cX10_init 8 = .ok (.dup, 1) := by decide +kernel
theorem dX10_init_9 : decode cX10_init 9 = .ok (.invokespecial 11, 3) := by decide +kernel
theorem dX10_init_12 : decode cX10_init 12 = .ok (.putfield 12, 3) := by decide +kernel
theorem dX10_init_15 : decode cX10_init 15 = .ok (.aload_n 0, 1) := by decide +kernel
theorem dX10_init_16 : decode cX10_init 16 = .ok (.new 16, 3) := by decide +kernel
theorem dX10_init_19 : decode cX10_init 19 = .ok (.dup, 1) := by decide +kernel
theorem dX10_init_20 : decode cX10_init 20 = .ok (.invokespecial 18, 3) := by decide +kernel
theorem dX10_init_23 : decode cX10_init 23 = .ok (.putfield 19, 3) := by decide +kernel
theorem dX10_init_26 : decode cX10_init 26 = .ok (.aload_n 0, 1) := by decide +kernel
theorem dX10_init_27 : decode cX10_init 27 = .ok (.new 23, 3) := by decide +kernel
theorem dX10_init_30 : decode cX10_init 30 = .ok (.dup, 1) := by decide +kernel
theorem dX10_init_31 : decode cX10_init 31 = .ok (.invokespecial 25, 3) := by decide +kernel
theorem dX10_init_34 : decode cX10_init 34 = .ok (.putfield 26, 3) := by decide +kernel
theorem dX10_init_37 : decode cX10_init 37 = .ok (.aload_n 0, 1) := by decide +kernel
theorem dX10_init_38 : decode cX10_init 38 = .ok (.new 30, 3) := by decide +kernel
theorem dX10_init_41 : decode cX10_init 41 = .ok (.dup, 1) := by decide +kernel
theorem dX10_init_42 : decode cX10_init 42 = .ok (.invokespecial 32, 3) := by decide +kernel
theorem dX10_init_45 : decode cX10_init 45 = .ok (.putfield 33, 3) := by decide +kernel
theorem dX10_init_48 : decode cX10_init 48 = .ok (.aload_n 0, 1) := by decide +kernel
theorem dX10_init_49 : decode cX10_init 49 = .ok (.new 37, 3) := by decide +kernel
theorem dX10_init_52 : decode cX10_init 52 = .ok (.dup, 1) := by decide +kernel
theorem dX10_init_53 : decode cX10_init 53 = .ok (.aload_n 0, 1) := by decide +kernel
theorem dX10_init_54 : decode cX10_init 54 = .ok (.getfield 12, 3) := by decide +kernel
theorem dX10_init_57 : decode cX10_init 57 = .ok (.aload_n 0, 1) := by decide +kernel
theorem dX10_init_58 : decode cX10_init 58 = .ok (.getfield 19, 3) := by decide +kernel
theorem dX10_init_61 : decode cX10_init 61 = .ok (.invokespecial 39, 3) := by decide +kernel
theorem dX10_init_64 : decode cX10_init 64 = .ok (.putfield 42, 3) := by decide +kernel
theorem dX10_init_67 : decode cX10_init 67 = .ok (.aload_n 0, 1) := by decide +kernel
theorem dX10_init_68 : decode cX10_init 68 = .ok (.new 46, 3) := by decide +kernel
theorem dX10_init_71 : decode cX10_init 71 = .ok (.dup, 1) := by decide +kernel
theorem dX10_init_72 : decode cX10_init 72 = .ok (.invokespecial 48, 3) := by decide +kernel
theorem dX10_init_75 : decode cX10_init 75 = .ok (.putfield 49, 3) := by decide +kernel
theorem dX10_init_78 : decode cX10_init 78 = .ok (.aload_n 0, 1) := by decide +kernel
theorem dX10_init_79 : decode cX10_init 79 = .ok (.new 53, 3) := by decide +kernel
theorem dX10_init_82 : decode cX10_init 82 = .ok (.dup, 1) := by decide +kernel
theorem dX10_init_83 : decode cX10_init 83 = .ok (.aload_n 0, 1) := by decide +kernel
theorem dX10_init_84 : decode cX10_init 84 = .ok (.getfield 49, 3) := by decide +kernel
theorem dX10_init_87 : decode cX10_init 87 = .ok (.invokespecial 55, 3) := by decide +kernel
theorem dX10_init_90 : decode cX10_init 90 = .ok (.putfield 58, 3) := by decide +kernel
theorem dX10_init_93 : decode cX10_init 93 = .ok (.aload_n 0, 1) := by decide +kernel
theorem dX10_init_94 : decode cX10_init 94 = .ok (.new 62, 3) := by decide +kernel
theorem dX10_init_97 : decode cX10_init 97 = .ok (.dup, 1) := by decide +kernel
theorem dX10_init_98 : decode cX10_init 98 = .ok (.aload_n 0, 1) := by decide +kernel
theorem dX10_init_99 : decode cX10_init 99 = .ok (.getfield 49, 3) := by decide +kernel
theorem dX10_init_102 : decode cX10_init 102 = .ok (.invokespecial 64, 3) := by decide +kernel
theorem dX10_init_105 : decode cX10_init 105 = .ok (.putfield 65, 3) := by decide +kernel
theorem dX10_init_108 : decode cX10_init 108 = .ok (.aload_n 0, 1) := by decide +kernel
theorem dX10_init_109 : decode cX10_init 109 = .ok (.new 9, 3) := by decide +kernel
theorem dX10_init_112 : decode cX10_init 112 = .ok (.dup, 1) := by decide +kernel
theorem dX10_init_113 : decode cX10_init 113 = .ok (.invokespecial 11, 3) := by decide +kernel
theorem dX10_init_116 : decode cX10_init 116 = .ok (.putfield 69, 3) := by decide +kernel
theorem dX10_init_119 : decode cX10_init 119 = .ok (.aload_n 0, 1) := by decide +kernel
theorem dX10_init_120 : decode cX10_init 120 = .ok (.new 16, 3) := by decide +kernel
theorem dX10_init_123 : decode cX10_init 123 = .ok (.dup, 1) := by decide +kernel
theorem dX10_init_124 : decode cX10_init 124 = .ok (.invokespecial 18, 3) := by decide +kernel
theorem dX10_init_127 : decode cX10_init 127 = .ok (.putfield 72, 3) := by decide +kernel
theorem dX10_init_130 : decode cX10_init 130 = .ok (.aload_n 0, 1) := by decide +kernel
theorem dX10_init_131 : decode cX10_init 131 = .ok (.new 23, 3) := by decide +kernel
theorem dX10_init_134 : decode cX10_init 134 = .ok (.dup, 1) := by decide +kernel
theorem dX10_init_135 : decode cX10_init 135 = .ok (.invokespecial 25, 3) := by decide +kernel
theorem dX10_init_138 : decode cX10_init 138 = .ok (.putfield 75, 3) := by decide +kernel
theorem dX10_init_141 : decode cX10_init 141 = .ok (.aload_n 0, 1) := by decide +kernel
theorem dX10_init_142 : decode cX10_init 142 = .ok (.iconst 0, 1) := by decide +kernel
theorem dX10_init_143 : decode cX10_init 143 = .ok (.putfield 78, 3) := by decide +kernel
theorem dX10_init_146 : decode cX10_init 146 = .ok (.return_, 1) := by decide +kernel
theorem dX10_state_0 : decode cX10_state 0 = .ok (.aload_n 0, 1) := by decide +kernel
theorem dX10_state_1 : decode cX10_state 1 = .ok (.getfield 12, 3) := by decide +kernel
theorem dX10_state_4 : decode cX10_state 4 = .ok (.getfield 82, 3) := by decide +kernel
theorem dX10_state_7 : decode cX10_state 7 = .ok (.istore_n 2, 1) := by decide +kernel
theorem dX10_state_8 : decode cX10_state 8 = .ok (.aload_n 0, 1) := by decide +kernel
theorem dX10_state_9 : decode cX10_state 9 = .ok (.getfield 12, 3) := by decide +kernel
theorem dX10_state_12 : decode cX10_state 12 = .ok (.iload_n 1, 1) := by decide +kernel
theorem dX10_state_13 : decode cX10_state 13 = .ok (.putfield 82, 3) := by decide +kernel
theorem dX10_state_16 : decode cX10_state 16 = .ok (.aload_n 0, 1) := by decide +kernel
theorem dX10_state_17 : decode cX10_state 17 = .ok (.getfield 33, 3) := by decide +kernel
theorem dX10_state_20 : decode cX10_state 20 = .ok (.invokevirtual 86, 3) := by decide +kernel
theorem dX10_state_23 : decode cX10_state 23 = .ok (.iload_n 2, 1) := by decide +kernel
theorem dX10_state_24 : decode cX10_state 24 = .ok (.ireturn, 1) := by decide +kernel
theorem dX10_person_0 : decode cX10_person 0 = .ok (.aload_n 0, 1) := by decide +kernel
theorem dX10_person_1 : decode cX10_person 1 = .ok (.getfield 12, 3) := by decide +kernel
theorem dX10_person_4 : decode cX10_person 4 = .ok (.getfield 89, 3) := by decide +kernel
theorem dX10_person_7 : decode cX10_person 7 = .ok (.bipush 12, 2) := by decide +kernel
theorem dX10_person_9 : decode cX10_person 9 = .ok (.if_icmp .ge 13, 3) := by decide +kernel
theorem dX10_person_12 : decode cX10_person 12 = .ok (.iload_n 3, 1) := by decide +kernel
theorem dX10_person_13 : decode cX10_person 13 = .ok (.ifCond .lt 9, 3) := by decide +kernel
theorem dX10_person_16 : decode cX10_person 16 = .ok (.iload_n 3, 1) := by decide +kernel
theorem dX10_person_17 : decode cX10_person 17 = .ok (.ldc 92, 2) := by decide +kernel
theorem dX10_person_19 : decode cX10_person 19 = .ok (.if_icmp .le 5, 3) := by decide +kernel
theorem dX10_person_22 : decode cX10_person 22 = .ok (.iconst (-1), 1) := by decide +kernel
theorem dX10_person_23 : decode cX10_person 23 = .ok (.ireturn, 1) := by decide +kernel
theorem dX10_person_24 : decode cX10_person 24 = .ok (.iload_n 1, 1) := by decide +kernel
theorem dX10_person_25 : decode cX10_person 25 = .ok (.iconst (-1), 1) := by decide +kernel
theorem dX10_person_26 : decode cX10_person 26 = .ok (.if_icmp .eq 16, 3) := by decide +kernel
theorem dX10_person_29 : decode cX10_person 29 = .ok (.aload_n 0, 1) := by decide +kernel
theorem dX10_person_30 : decode cX10_person 30 = .ok (.getfield 12, 3) := by decide +kernel
theorem dX10_person_33 : decode cX10_person 33 = .ok (.iload_n 1, 1) := by decide +kernel
theorem dX10_person_34 : decode cX10_person 34 = .ok (.invokevirtual 93, 3) := by decide +kernel
theorem dX10_person_37 : decode cX10_person 37 = .ok (.ifCond .ne 5, 3) := by decide +kernel
theorem dX10_person_40 : decode cX10_person 40 = .ok (.iconst (-1), 1) := by decide +kernel
theorem dX10_person_41 : decode cX10_person 41 = .ok (.ireturn, 1) := by decide +kernel
theorem dX10_person_42 : decode cX10_person 42 = .ok (.iload_n 2, 1) := by decide +kernel
theorem dX10_person_43 : decode cX10_person 43 = .ok (.iconst (-1), 1) := by decide +kernel
theorem dX10_person_44 : decode cX10_person 44 = .ok (.if_icmp .eq 16, 3) := by decide +kernel
theorem dX10_person_47 : decode cX10_person 47 = .ok (.aload_n 0, 1) := by decide +kernel
theorem dX10_person_48 : decode cX10_person 48 = .ok (.getfield 12, 3) := by decide +kernel
theorem dX10_person_51 : decode cX10_person 51 = .ok (.iload_n 2, 1) := by decide +kernel
theorem dX10_person_52 : decode cX10_person 52 = .ok (.invokevirtual 93, 3) := by decide +kernel
theorem dX10_person_55 : decode cX10_person 55 = .ok (.ifCond .ne 5, 3) := by decide +kernel
theorem dX10_person_58 : decode cX10_person 58 = .ok (.iconst (-1), 1) := by decide +kernel
theorem dX10_person_59 : decode cX10_person 59 = .ok (.ireturn, 1) := by decide +kernel
theorem dX10_person_60 : decode cX10_person 60 = .ok (.iload_n 1, 1) := by decide +kernel
theorem dX10_person_61 : decode cX10_person 61 = .ok (.iconst (-1), 1) := by decide +kernel
theorem dX10_person_62 : decode cX10_person 62 = .ok (.if_icmp .eq 10, 3) := by decide +kernel
theorem dX10_person_65 : decode cX10_person 65 = .ok (.iload_n 1, 1) := by decide +kernel
theorem dX10_person_66 : decode cX10_person 66 = .ok (.iload_n 2, 1) := by decide +kernel
theorem dX10_person_67 : decode cX10_person 67 = .ok (.if_icmp .ne 5, 3) := by decide +kernel
theorem dX10_person_70 : decode cX10_person 70 = .ok (.iconst (-1), 1) := by decide +kernel
theorem dX10_person_71 : decode cX10_person 71 = .ok (.ireturn, 1) := by decide +kernel
theorem dX10_person_72 : decode cX10_person 72 = .ok (.aload_n 0, 1) := by decide +kernel
theorem dX10_person_73 : decode cX10_person 73 = .ok (.getfield 33, 3) := by decide +kernel
theorem dX10_person_76 : decode cX10_person 76 = .ok (.invokevirtual 86, 3) := by decide +kernel
theorem dX10_person_79 : decode cX10_person 79 = .ok (.aload_n 0, 1) := by decide +kernel
theorem dX10_person_80 : decode cX10_person 80 = .ok (.getfield 12, 3) := by decide +kernel
theorem dX10_person_83 : decode cX10_person 83 = .ok (.iload_n 1, 1) := by decide +kernel
theorem dX10_person_84 : decode cX10_person 84 = .ok (.iload_n 2, 1) := by decide +kernel
theorem dX10_person_85 : decode cX10_person 85 = .ok (.iload_n 3, 1) := by decide +kernel
theorem dX10_person_86 : decode cX10_person 86 = .ok (.invokevirtual 97, 3) := by decide +kernel
theorem dX10_person_89 : decode cX10_person 89 = .ok (.ireturn, 1) := by decide +kernel
theorem dX10_set_0 : decode cX10_set 0 = .ok (.iload_n 1, 1) := by decide +kernel
theorem dX10_set_1 : decode cX10_set 1 = .ok (.iconst 4, 1) := by decide +kernel
theorem dX10_set_2 : decode cX10_set 2 = .ok (.if_icmp .ne 25, 3) := by decide +kernel
theorem dX10_set_5 : decode cX10_set 5 = .ok (.iload_n 3, 1) := by decide +kernel
theorem dX10_set_6 : decode cX10_set 6 = .ok (.ifCond .lt 8, 3) := by decide +kernel
theorem dX10_set_9 : decode cX10_set 9 = .ok (.iload_n 3, 1) := by decide +kernel
theorem dX10_set_10 : decode cX10_set 10 = .ok (.iconst 3, 1) := by decide +kernel
theorem dX10_set_11 : decode cX10_set 11 = .ok (.if_icmp .le 5, 3) := by decide +kernel
theorem dX10_set_14 : decode cX10_set 14 = .ok (.iconst 0, 1) := by decide +kernel
theorem dX10_set_15 : decode cX10_set 15 = .ok (.ireturn, 1) := by decide +kernel
theorem dX10_set_16 : decode cX10_set 16 = .ok (.aload_n 0, 1) := by decide +kernel
theorem dX10_set_17 : decode cX10_set 17 = .ok (.getfield 12, 3) := by decide +kernel
theorem dX10_set_20 : decode cX10_set 20 = .ok (.iload_n 3, 1) := by decide +kernel
theorem dX10_set_21 : decode cX10_set 21 = .ok (.putfield 101, 3) := by decide +kernel
theorem dX10_set_24 : decode cX10_set 24 = .ok (.goto 26, 3) := by decide +kernel
theorem dX10_set_27 : decode cX10_set 27 = .ok (.aload_n 0, 1) := by decide +kernel
theorem dX10_set_28 : decode cX10_set 28 = .ok (.getfield 12, 3) := by decide +kernel
theorem dX10_set_31 : decode cX10_set 31 = .ok (.iload_n 2, 1) := by decide +kernel
theorem dX10_set_32 : decode cX10_set 32 = .ok (.invokevirtual 104, 3) := by decide +kernel
theorem dX10_set_35 : decode cX10_set 35 = .ok (.ifCond .eq 13, 3) := by decide +kernel
theorem dX10_set_38 : decode cX10_set 38 = .ok (.aload_n 0, 1) := by decide +kernel
theorem dX10_set_39 : decode cX10_set 39 = .ok (.iload_n 1, 1) := by decide +kernel
theorem dX10_set_40 : decode cX10_set 40 = .ok (.iload_n 2, 1) := by decide +kernel
theorem dX10_set_41 : decode cX10_set 41 = .ok (.iload_n 3, 1) := by decide +kernel
theorem dX10_set_42 : decode cX10_set 42 = .ok (.invokevirtual 107, 3) := by decide +kernel
theorem dX10_set_45 : decode cX10_set 45 = .ok (.ifCond .ne 5, 3) := by decide +kernel
theorem dX10_set_48 : decode cX10_set 48 = .ok (.iconst 0, 1) := by decide +kernel
theorem dX10_set_49 : decode cX10_set 49 = .ok (.ireturn, 1) := by decide +kernel
theorem dX10_set_50 : decode cX10_set 50 = .ok (.aload_n 0, 1) := by decide +kernel
theorem dX10_set_51 : decode cX10_set 51 = .ok (.getfield 33, 3) := by decide +kernel
theorem dX10_set_54 : decode cX10_set 54 = .ok (.invokevirtual 86, 3) := by decide +kernel
theorem dX10_set_57 : decode cX10_set 57 = .ok (.iconst 1, 1) := by decide +kernel
theorem dX10_set_58 : decode cX10_set 58 = .ok (.ireturn, 1) := by decide +kernel
theorem dX10_setOfPerson_0 : decode cX10_setOfPerson 0 = .ok (.iload_n 1, 1) := by decide +kernel
theorem dX10_setOfPerson_1 : decode cX10_setOfPerson 1 = .ok (.tableswitch 141 0 3 #[31, 68, 93, 117], 31) := by decide +kernel
theorem dX10_setOfPerson_32 : decode cX10_setOfPerson 32 = .ok (.iload_n 3, 1) := by decide +kernel
theorem dX10_setOfPerson_33 : decode cX10_setOfPerson 33 = .ok (.iconst (-1), 1) := by decide +kernel
theorem dX10_setOfPerson_34 : decode cX10_setOfPerson 34 = .ok (.if_icmp .eq 23, 3) := by decide +kernel
theorem dX10_setOfPerson_37 : decode cX10_setOfPerson 37 = .ok (.iload_n 3, 1) := by decide +kernel
theorem dX10_setOfPerson_38 : decode cX10_setOfPerson 38 = .ok (.aload_n 0, 1) := by decide +kernel
theorem dX10_setOfPerson_39 : decode cX10_setOfPerson 39 = .ok (.getfield 12, 3) := by decide +kernel
theorem dX10_setOfPerson_42 : decode cX10_setOfPerson 42 = .ok (.getfield 111, 3) := by decide +kernel
theorem dX10_setOfPerson_45 : decode cX10_setOfPerson 45 = .ok (.if_icmp .le 10, 3) := by decide +kernel
theorem dX10_setOfPerson_48 : decode cX10_setOfPerson 48 = .ok (.iload_n 3, 1) := by decide +kernel
theorem dX10_setOfPerson_49 : decode cX10_setOfPerson 49 = .ok (.sipush 9999, 3) := by decide +kernel
theorem dX10_setOfPerson_52 : decode cX10_setOfPerson 52 = .ok (.if_icmp .le 5, 3) := by decide +kernel
theorem dX10_setOfPerson_55 : decode cX10_setOfPerson 55 = .ok (.iconst 0, 1) := by decide +kernel
theorem dX10_setOfPerson_56 : decode cX10_setOfPerson 56 = .ok (.ireturn, 1) := by decide +kernel
theorem dX10_setOfPerson_57 : decode cX10_setOfPerson 57 = .ok (.aload_n 0, 1) := by decide +kernel
theorem dX10_setOfPerson_58 : decode cX10_setOfPerson 58 = .ok (.getfield 12, 3) := by decide +kernel
theorem dX10_setOfPerson_61 : decode cX10_setOfPerson 61 = .ok (.getfield 114, 3) := by decide +kernel
theorem dX10_setOfPerson_64 : decode cX10_setOfPerson 64 = .ok (.iload_n 2, 1) := by decide +kernel
theorem dX10_setOfPerson_65 : decode cX10_setOfPerson 65 = .ok (.iload_n 3, 1) := by decide +kernel
theorem dX10_setOfPerson_66 : decode cX10_setOfPerson 66 = .ok (.iastore, 1) := by decide +kernel
theorem dX10_setOfPerson_67 : decode cX10_setOfPerson 67 = .ok (.iconst 1, 1) := by decide +kernel
theorem dX10_setOfPerson_68 : decode cX10_setOfPerson 68 = .ok (.ireturn, 1) := by decide +kernel
theorem dX10_setOfPerson_69 : decode cX10_setOfPerson 69 = .ok (.iload_n 3, 1) := by decide +kernel
theorem dX10_setOfPerson_70 : decode cX10_setOfPerson 70 = .ok (.ifCond .lt 10, 3) := by decide +kernel
theorem dX10_setOfPerson_73 : decode cX10_setOfPerson 73 = .ok (.iload_n 3, 1) := by decide +kernel
theorem dX10_setOfPerson_74 : decode cX10_setOfPerson 74 = .ok (.sipush 9999, 3) := by decide +kernel
theorem dX10_setOfPerson_77 : decode cX10_setOfPerson 77 = .ok (.if_icmp .le 5, 3) := by decide +kernel
theorem dX10_setOfPerson_80 : decode cX10_setOfPerson 80 = .ok (.iconst 0, 1) := by decide +kernel
theorem dX10_setOfPerson_81 : decode cX10_setOfPerson 81 = .ok (.ireturn, 1) := by decide +kernel
theorem dX10_setOfPerson_82 : decode cX10_setOfPerson 82 = .ok (.aload_n 0, 1) := by decide +kernel
theorem dX10_setOfPerson_83 : decode cX10_setOfPerson 83 = .ok (.getfield 12, 3) := by decide +kernel
theorem dX10_setOfPerson_86 : decode cX10_setOfPerson 86 = .ok (.getfield 118, 3) := by decide +kernel
theorem dX10_setOfPerson_89 : decode cX10_setOfPerson 89 = .ok (.iload_n 2, 1) := by decide +kernel
theorem dX10_setOfPerson_90 : decode cX10_setOfPerson 90 = .ok (.iload_n 3, 1) := by decide +kernel
theorem dX10_setOfPerson_91 : decode cX10_setOfPerson 91 = .ok (.iastore, 1) := by decide +kernel
theorem dX10_setOfPerson_92 : decode cX10_setOfPerson 92 = .ok (.iconst 1, 1) := by decide +kernel
theorem dX10_setOfPerson_93 : decode cX10_setOfPerson 93 = .ok (.ireturn, 1) := by decide +kernel
theorem dX10_setOfPerson_94 : decode cX10_setOfPerson 94 = .ok (.iload_n 3, 1) := by decide +kernel
theorem dX10_setOfPerson_95 : decode cX10_setOfPerson 95 = .ok (.ifCond .lt 9, 3) := by decide +kernel
theorem dX10_setOfPerson_98 : decode cX10_setOfPerson 98 = .ok (.iload_n 3, 1) := by decide +kernel
theorem dX10_setOfPerson_99 : decode cX10_setOfPerson 99 = .ok (.bipush 99, 2) := by decide +kernel
theorem dX10_setOfPerson_101 : decode cX10_setOfPerson 101 = .ok (.if_icmp .le 5, 3) := by decide +kernel
theorem dX10_setOfPerson_104 : decode cX10_setOfPerson 104 = .ok (.iconst 0, 1) := by decide +kernel
theorem dX10_setOfPerson_105 : decode cX10_setOfPerson 105 = .ok (.ireturn, 1) := by decide +kernel
theorem dX10_setOfPerson_106 : decode cX10_setOfPerson 106 = .ok (.aload_n 0, 1) := by decide +kernel
theorem dX10_setOfPerson_107 : decode cX10_setOfPerson 107 = .ok (.getfield 12, 3) := by decide +kernel
theorem dX10_setOfPerson_110 : decode cX10_setOfPerson 110 = .ok (.getfield 121, 3) := by decide +kernel
theorem dX10_setOfPerson_113 : decode cX10_setOfPerson 113 = .ok (.iload_n 2, 1) := by decide +kernel
theorem dX10_setOfPerson_114 : decode cX10_setOfPerson 114 = .ok (.iload_n 3, 1) := by decide +kernel
theorem dX10_setOfPerson_115 : decode cX10_setOfPerson 115 = .ok (.iastore, 1) := by decide +kernel
theorem dX10_setOfPerson_116 : decode cX10_setOfPerson 116 = .ok (.iconst 1, 1) := by decide +kernel
theorem dX10_setOfPerson_117 : decode cX10_setOfPerson 117 = .ok (.ireturn, 1) := by decide +kernel
theorem dX10_setOfPerson_118 : decode cX10_setOfPerson 118 = .ok (.iload_n 3, 1) := by decide +kernel
theorem dX10_setOfPerson_119 : decode cX10_setOfPerson 119 = .ok (.ifCond .lt 9, 3) := by decide +kernel
theorem dX10_setOfPerson_122 : decode cX10_setOfPerson 122 = .ok (.iload_n 3, 1) := by decide +kernel
theorem dX10_setOfPerson_123 : decode cX10_setOfPerson 123 = .ok (.ldc 92, 2) := by decide +kernel
theorem dX10_setOfPerson_125 : decode cX10_setOfPerson 125 = .ok (.if_icmp .le 5, 3) := by decide +kernel
theorem dX10_setOfPerson_128 : decode cX10_setOfPerson 128 = .ok (.iconst 0, 1) := by decide +kernel
theorem dX10_setOfPerson_129 : decode cX10_setOfPerson 129 = .ok (.ireturn, 1) := by decide +kernel
theorem dX10_setOfPerson_130 : decode cX10_setOfPerson 130 = .ok (.aload_n 0, 1) := by decide +kernel
theorem dX10_setOfPerson_131 : decode cX10_setOfPerson 131 = .ok (.getfield 12, 3) := by decide +kernel
theorem dX10_setOfPerson_134 : decode cX10_setOfPerson 134 = .ok (.getfield 124, 3) := by decide +kernel
theorem dX10_setOfPerson_137 : decode cX10_setOfPerson 137 = .ok (.iload_n 2, 1) := by decide +kernel
theorem dX10_setOfPerson_138 : decode cX10_setOfPerson 138 = .ok (.iload_n 3, 1) := by decide +kernel
theorem dX10_setOfPerson_139 : decode cX10_setOfPerson 139 = .ok (.iastore, 1) := by decide +kernel
theorem dX10_setOfPerson_140 : decode cX10_setOfPerson 140 = .ok (.iconst 1, 1) := by decide +kernel
theorem dX10_setOfPerson_141 : decode cX10_setOfPerson 141 = .ok (.ireturn, 1) := by decide +kernel
theorem dX10_setOfPerson_142 : decode cX10_setOfPerson 142 = .ok (.iconst 0, 1) := by decide +kernel
theorem dX10_setOfPerson_143 : decode cX10_setOfPerson 143 = .ok (.ireturn, 1) := by decide +kernel
theorem dX10_own_0 : decode cX10_own 0 = .ok (.iload_n 1, 1) := by decide +kernel
theorem dX10_own_1 : decode cX10_own 1 = .ok (.invokestatic 127, 3) := by decide +kernel
theorem dX10_own_4 : decode cX10_own 4 = .ok (.ifCond .ne 5, 3) := by decide +kernel
theorem dX10_own_7 : decode cX10_own 7 = .ok (.iconst 0, 1) := by decide +kernel
theorem dX10_own_8 : decode cX10_own 8 = .ok (.ireturn, 1) := by decide +kernel
theorem dX10_own_9 : decode cX10_own 9 = .ok (.iload_n 2, 1) := by decide +kernel
theorem dX10_own_10 : decode cX10_own 10 = .ok (.iconst (-1), 1) := by decide +kernel
theorem dX10_own_11 : decode cX10_own 11 = .ok (.if_icmp .eq 16, 3) := by decide +kernel
theorem dX10_own_14 : decode cX10_own 14 = .ok (.aload_n 0, 1) := by decide +kernel
theorem dX10_own_15 : decode cX10_own 15 = .ok (.getfield 12, 3) := by decide +kernel
theorem dX10_own_18 : decode cX10_own 18 = .ok (.iload_n 2, 1) := by decide +kernel
theorem dX10_own_19 : decode cX10_own 19 = .ok (.invokevirtual 104, 3) := by decide +kernel
theorem dX10_own_22 : decode cX10_own 22 = .ok (.ifCond .ne 5, 3) := by decide +kernel
theorem dX10_own_25 : decode cX10_own 25 = .ok (.iconst 0, 1) := by decide +kernel
theorem dX10_own_26 : decode cX10_own 26 = .ok (.ireturn, 1) := by decide +kernel
theorem dX10_own_27 : decode cX10_own 27 = .ok (.aload_n 0, 1) := by decide +kernel
theorem dX10_own_28 : decode cX10_own 28 = .ok (.getfield 33, 3) := by decide +kernel
theorem dX10_own_31 : decode cX10_own 31 = .ok (.invokevirtual 86, 3) := by decide +kernel
theorem dX10_own_34 : decode cX10_own 34 = .ok (.aload_n 0, 1) := by decide +kernel
theorem dX10_own_35 : decode cX10_own 35 = .ok (.getfield 12, 3) := by decide +kernel
theorem dX10_own_38 : decode cX10_own 38 = .ok (.iload_n 1, 1) := by decide +kernel
theorem dX10_own_39 : decode cX10_own 39 = .ok (.invokevirtual 130, 3) := by decide +kernel
theorem dX10_own_42 : decode cX10_own 42 = .ok (.aload_n 0, 1) := by decide +kernel
theorem dX10_own_43 : decode cX10_own 43 = .ok (.getfield 12, 3) := by decide +kernel
theorem dX10_own_46 : decode cX10_own 46 = .ok (.iload_n 1, 1) := by decide +kernel
theorem dX10_own_47 : decode cX10_own 47 = .ok (.iload_n 2, 1) := by decide +kernel
theorem dX10_own_48 : decode cX10_own 48 = .ok (.iconst 0, 1) := by decide +kernel
theorem dX10_own_49 : decode cX10_own 49 = .ok (.aload_n 0, 1) := by decide +kernel
theorem dX10_own_50 : decode cX10_own 50 = .ok (.getfield 26, 3) := by decide +kernel
theorem dX10_own_53 : decode cX10_own 53 = .ok (.invokevirtual 134, 3) := by decide +kernel
theorem dX10_own_56 : decode cX10_own 56 = .ok (.iconst 1, 1) := by decide +kernel
theorem dX10_own_57 : decode cX10_own 57 = .ok (.ireturn, 1) := by decide +kernel
theorem dX10_feed_0 : decode cX10_feed 0 = .ok (.aload_n 0, 1) := by decide +kernel
theorem dX10_feed_1 : decode cX10_feed 1 = .ok (.getfield 49, 3) := by decide +kernel
theorem dX10_feed_4 : decode cX10_feed 4 = .ok (.getfield 138, 3) := by decide +kernel
theorem dX10_feed_7 : decode cX10_feed 7 = .ok (.bipush 20, 2) := by decide +kernel
theorem dX10_feed_9 : decode cX10_feed 9 = .ok (.iadd, 1) := by decide +kernel
theorem dX10_feed_10 : decode cX10_feed 10 = .ok (.sipush 400, 3) := by decide +kernel
theorem dX10_feed_13 : decode cX10_feed 13 = .ok (.if_icmp .le 5, 3) := by decide +kernel
theorem dX10_feed_16 : decode cX10_feed 16 = .ok (.iconst (-1), 1) := by decide +kernel
theorem dX10_feed_17 : decode cX10_feed 17 = .ok (.ireturn, 1) := by decide +kernel
theorem dX10_feed_18 : decode cX10_feed 18 = .ok (.aload_n 0, 1) := by decide +kernel
theorem dX10_feed_19 : decode cX10_feed 19 = .ok (.getfield 49, 3) := by decide +kernel
theorem dX10_feed_22 : decode cX10_feed 22 = .ok (.iload_n 1, 1) := by decide +kernel
theorem dX10_feed_23 : decode cX10_feed 23 = .ok (.invokevirtual 141, 3) := by decide +kernel
theorem dX10_feed_26 : decode cX10_feed 26 = .ok (.aload_n 0, 1) := by decide +kernel
theorem dX10_feed_27 : decode cX10_feed 27 = .ok (.getfield 49, 3) := by decide +kernel
theorem dX10_feed_30 : decode cX10_feed 30 = .ok (.iload_n 2, 1) := by decide +kernel
theorem dX10_feed_31 : decode cX10_feed 31 = .ok (.invokevirtual 141, 3) := by decide +kernel
theorem dX10_feed_34 : decode cX10_feed 34 = .ok (.aload_n 0, 1) := by decide +kernel
theorem dX10_feed_35 : decode cX10_feed 35 = .ok (.getfield 49, 3) := by decide +kernel
theorem dX10_feed_38 : decode cX10_feed 38 = .ok (.iload_n 3, 1) := by decide +kernel
theorem dX10_feed_39 : decode cX10_feed 39 = .ok (.invokevirtual 141, 3) := by decide +kernel
theorem dX10_feed_42 : decode cX10_feed 42 = .ok (.aload_n 0, 1) := by decide +kernel
theorem dX10_feed_43 : decode cX10_feed 43 = .ok (.getfield 49, 3) := by decide +kernel
theorem dX10_feed_46 : decode cX10_feed 46 = .ok (.iload 4, 2) := by decide +kernel
theorem dX10_feed_48 : decode cX10_feed 48 = .ok (.invokevirtual 141, 3) := by decide +kernel
theorem dX10_feed_51 : decode cX10_feed 51 = .ok (.aload_n 0, 1) := by decide +kernel
theorem dX10_feed_52 : decode cX10_feed 52 = .ok (.getfield 49, 3) := by decide +kernel
theorem dX10_feed_55 : decode cX10_feed 55 = .ok (.iload 5, 2) := by decide +kernel
theorem dX10_feed_57 : decode cX10_feed 57 = .ok (.invokevirtual 141, 3) := by decide +kernel
theorem dX10_feed_60 : decode cX10_feed 60 = .ok (.aload_n 0, 1) := by decide +kernel
theorem dX10_feed_61 : decode cX10_feed 61 = .ok (.getfield 49, 3) := by decide +kernel
theorem dX10_feed_64 : decode cX10_feed 64 = .ok (.getfield 138, 3) := by decide +kernel
theorem dX10_feed_67 : decode cX10_feed 67 = .ok (.ireturn, 1) := by decide +kernel
theorem dX10_end_0 : decode cX10_end 0 = .ok (.iload_n 1, 1) := by decide +kernel
theorem dX10_end_1 : decode cX10_end 1 = .ok (.ifCond .lt 14, 3) := by decide +kernel
theorem dX10_end_4 : decode cX10_end 4 = .ok (.iload_n 1, 1) := by decide +kernel
theorem dX10_end_5 : decode cX10_end 5 = .ok (.aload_n 0, 1) := by decide +kernel
theorem dX10_end_6 : decode cX10_end 6 = .ok (.getfield 49, 3) := by decide +kernel
theorem dX10_end_9 : decode cX10_end 9 = .ok (.getfield 138, 3) := by decide +kernel
theorem dX10_end_12 : decode cX10_end 12 = .ok (.if_icmp .le 5, 3) := by decide +kernel
theorem dX10_end_15 : decode cX10_end 15 = .ok (.iconst 0, 1) := by decide +kernel
theorem dX10_end_16 : decode cX10_end 16 = .ok (.ireturn, 1) := by decide +kernel
theorem dX10_end_17 : decode cX10_end 17 = .ok (.aload_n 0, 1) := by decide +kernel
theorem dX10_end_18 : decode cX10_end 18 = .ok (.getfield 49, 3) := by decide +kernel
theorem dX10_end_21 : decode cX10_end 21 = .ok (.iload_n 1, 1) := by decide +kernel
theorem dX10_end_22 : decode cX10_end 22 = .ok (.putfield 138, 3) := by decide +kernel
theorem dX10_end_25 : decode cX10_end 25 = .ok (.iconst 1, 1) := by decide +kernel
theorem dX10_end_26 : decode cX10_end 26 = .ok (.ireturn, 1) := by decide +kernel
theorem dX10_text_0 : decode cX10_text 0 = .ok (.aload_n 0, 1) := by decide +kernel
theorem dX10_text_1 : decode cX10_text 1 = .ok (.getfield 49, 3) := by decide +kernel
theorem dX10_text_4 : decode cX10_text 4 = .ok (.invokevirtual 144, 3) := by decide +kernel
theorem dX10_text_7 : decode cX10_text 7 = .ok (.iconst (-1), 1) := by decide +kernel
theorem dX10_text_8 : decode cX10_text 8 = .ok (.istore_n 3, 1) := by decide +kernel
theorem dX10_text_9 : decode cX10_text 9 = .ok (.iload_n 1, 1) := by decide +kernel
theorem dX10_text_10 : decode cX10_text 10 = .ok (.ifCond .ne 21, 3) := by decide +kernel
theorem dX10_text_13 : decode cX10_text 13 = .ok (.aload_n 0, 1) := by decide +kernel
theorem dX10_text_14 : decode cX10_text 14 = .ok (.getfield 58, 3) := by decide +kernel
theorem dX10_text_17 : decode cX10_text 17 = .ok (.aload_n 0, 1) := by decide +kernel
theorem dX10_text_18 : decode cX10_text 18 = .ok (.getfield 19, 3) := by decide +kernel
theorem dX10_text_21 : decode cX10_text 21 = .ok (.getfield 147, 3) := by decide +kernel
theorem dX10_text_24 : decode cX10_text 24 = .ok (.invokevirtual 151, 3) := by decide +kernel
theorem dX10_text_27 : decode cX10_text 27 = .ok (.istore_n 3, 1) := by decide +kernel
theorem dX10_text_28 : decode cX10_text 28 = .ok (.goto 71, 3) := by decide +kernel
theorem dX10_text_31 : decode cX10_text 31 = .ok (.iload_n 1, 1) := by decide +kernel
theorem dX10_text_32 : decode cX10_text 32 = .ok (.iconst 1, 1) := by decide +kernel
theorem dX10_text_33 : decode cX10_text 33 = .ok (.if_icmp .ne 37, 3) := by decide +kernel
theorem dX10_text_36 : decode cX10_text 36 = .ok (.aload_n 0, 1) := by decide +kernel
theorem dX10_text_37 : decode cX10_text 37 = .ok (.getfield 12, 3) := by decide +kernel
theorem dX10_text_40 : decode cX10_text 40 = .ok (.iload_n 2, 1) := by decide +kernel
theorem dX10_text_41 : decode cX10_text 41 = .ok (.invokevirtual 104, 3) := by decide +kernel
theorem dX10_text_44 : decode cX10_text 44 = .ok (.ifCond .eq 26, 3) := by decide +kernel
theorem dX10_text_47 : decode cX10_text 47 = .ok (.aload_n 0, 1) := by decide +kernel
theorem dX10_text_48 : decode cX10_text 48 = .ok (.getfield 65, 3) := by decide +kernel
theorem dX10_text_51 : decode cX10_text 51 = .ok (.iload_n 2, 1) := by decide +kernel
theorem dX10_text_52 : decode cX10_text 52 = .ok (.aload_n 0, 1) := by decide +kernel
theorem dX10_text_53 : decode cX10_text 53 = .ok (.getfield 12, 3) := by decide +kernel
theorem dX10_text_56 : decode cX10_text 56 = .ok (.getfield 89, 3) := by decide +kernel
theorem dX10_text_59 : decode cX10_text 59 = .ok (.aload_n 0, 1) := by decide +kernel
theorem dX10_text_60 : decode cX10_text 60 = .ok (.getfield 19, 3) := by decide +kernel
theorem dX10_text_63 : decode cX10_text 63 = .ok (.invokevirtual 155, 3) := by decide +kernel
theorem dX10_text_66 : decode cX10_text 66 = .ok (.istore_n 3, 1) := by decide +kernel
theorem dX10_text_67 : decode cX10_text 67 = .ok (.goto 32, 3) := by decide +kernel
theorem dX10_text_70 : decode cX10_text 70 = .ok (.iload_n 1, 1) := by decide +kernel
theorem dX10_text_71 : decode cX10_text 71 = .ok (.iconst 2, 1) := by decide +kernel
theorem dX10_text_72 : decode cX10_text 72 = .ok (.if_icmp .ne 27, 3) := by decide +kernel
theorem dX10_text_75 : decode cX10_text 75 = .ok (.aload_n 0, 1) := by decide +kernel
theorem dX10_text_76 : decode cX10_text 76 = .ok (.getfield 19, 3) := by decide +kernel
theorem dX10_text_79 : decode cX10_text 79 = .ok (.getfield 158, 3) := by decide +kernel
theorem dX10_text_82 : decode cX10_text 82 = .ok (.bipush 8, 2) := by decide +kernel
theorem dX10_text_84 : decode cX10_text 84 = .ok (.if_icmp .ge 15, 3) := by decide +kernel
theorem dX10_text_87 : decode cX10_text 87 = .ok (.aload_n 0, 1) := by decide +kernel
theorem dX10_text_88 : decode cX10_text 88 = .ok (.getfield 19, 3) := by decide +kernel
theorem dX10_text_91 : decode cX10_text 91 = .ok (.aload_n 0, 1) := by decide +kernel
theorem dX10_text_92 : decode cX10_text 92 = .ok (.getfield 49, 3) := by decide +kernel
theorem dX10_text_95 : decode cX10_text 95 = .ok (.invokevirtual 161, 3) := by decide +kernel
theorem dX10_text_98 : decode cX10_text 98 = .ok (.istore_n 3, 1) := by decide +kernel
theorem dX10_text_99 : decode cX10_text 99 = .ok (.aload_n 0, 1) := by decide +kernel
theorem dX10_text_100 : decode cX10_text 100 = .ok (.getfield 49, 3) := by decide +kernel
theorem dX10_text_103 : decode cX10_text 103 = .ok (.iconst 0, 1) := by decide +kernel
theorem dX10_text_104 : decode cX10_text 104 = .ok (.putfield 138, 3) := by decide +kernel
theorem dX10_text_107 : decode cX10_text 107 = .ok (.iload_n 3, 1) := by decide +kernel
theorem dX10_text_108 : decode cX10_text 108 = .ok (.ireturn, 1) := by decide +kernel
theorem dX10_fault_0 : decode cX10_fault 0 = .ok (.iload_n 1, 1) := by decide +kernel
theorem dX10_fault_1 : decode cX10_fault 1 = .ok (.ifCond .ne 11, 3) := by decide +kernel
theorem dX10_fault_4 : decode cX10_fault 4 = .ok (.aload_n 0, 1) := by decide +kernel
theorem dX10_fault_5 : decode cX10_fault 5 = .ok (.getfield 49, 3) := by decide +kernel
theorem dX10_fault_8 : decode cX10_fault 8 = .ok (.getfield 165, 3) := by decide +kernel
theorem dX10_fault_11 : decode cX10_fault 11 = .ok (.ireturn, 1) := by decide +kernel
theorem dX10_fault_12 : decode cX10_fault 12 = .ok (.iload_n 1, 1) := by decide +kernel
theorem dX10_fault_13 : decode cX10_fault 13 = .ok (.iconst 1, 1) := by decide +kernel
theorem dX10_fault_14 : decode cX10_fault 14 = .ok (.if_icmp .ne 11, 3) := by decide +kernel
theorem dX10_fault_17 : decode cX10_fault 17 = .ok (.aload_n 0, 1) := by decide +kernel
theorem dX10_fault_18 : decode cX10_fault 18 = .ok (.getfield 49, 3) := by decide +kernel
theorem dX10_fault_21 : decode cX10_fault 21 = .ok (.getfield 168, 3) := by decide +kernel
theorem dX10_fault_24 : decode cX10_fault 24 = .ok (.ireturn, 1) := by decide +kernel
theorem dX10_fault_25 : decode cX10_fault 25 = .ok (.iconst (-1), 1) := by decide +kernel
theorem dX10_fault_26 : decode cX10_fault 26 = .ok (.ireturn, 1) := by decide +kernel
theorem dX10_wed_0 : decode cX10_wed 0 = .ok (.aload_n 0, 1) := by decide +kernel
theorem dX10_wed_1 : decode cX10_wed 1 = .ok (.getfield 12, 3) := by decide +kernel
theorem dX10_wed_4 : decode cX10_wed 4 = .ok (.iload_n 1, 1) := by decide +kernel
theorem dX10_wed_5 : decode cX10_wed 5 = .ok (.iload_n 2, 1) := by decide +kernel
theorem dX10_wed_6 : decode cX10_wed 6 = .ok (.invokevirtual 171, 3) := by decide +kernel
theorem dX10_wed_9 : decode cX10_wed 9 = .ok (.ifCond .ne 5, 3) := by decide +kernel
theorem dX10_wed_12 : decode cX10_wed 12 = .ok (.iconst 0, 1) := by decide +kernel
theorem dX10_wed_13 : decode cX10_wed 13 = .ok (.ireturn, 1) := by decide +kernel
theorem dX10_wed_14 : decode cX10_wed 14 = .ok (.aload_n 0, 1) := by decide +kernel
theorem dX10_wed_15 : decode cX10_wed 15 = .ok (.getfield 33, 3) := by decide +kernel
theorem dX10_wed_18 : decode cX10_wed 18 = .ok (.aload_n 0, 1) := by decide +kernel
theorem dX10_wed_19 : decode cX10_wed 19 = .ok (.getfield 12, 3) := by decide +kernel
theorem dX10_wed_22 : decode cX10_wed 22 = .ok (.aload_n 0, 1) := by decide +kernel
theorem dX10_wed_23 : decode cX10_wed 23 = .ok (.getfield 26, 3) := by decide +kernel
theorem dX10_wed_26 : decode cX10_wed 26 = .ok (.invokevirtual 175, 3) := by decide +kernel
theorem dX10_wed_29 : decode cX10_wed 29 = .ok (.aload_n 0, 1) := by decide +kernel
theorem dX10_wed_30 : decode cX10_wed 30 = .ok (.getfield 12, 3) := by decide +kernel
theorem dX10_wed_33 : decode cX10_wed 33 = .ok (.iload_n 1, 1) := by decide +kernel
theorem dX10_wed_34 : decode cX10_wed 34 = .ok (.iload_n 2, 1) := by decide +kernel
theorem dX10_wed_35 : decode cX10_wed 35 = .ok (.invokevirtual 179, 3) := by decide +kernel
theorem dX10_wed_38 : decode cX10_wed 38 = .ok (.iconst 1, 1) := by decide +kernel
theorem dX10_wed_39 : decode cX10_wed 39 = .ok (.ireturn, 1) := by decide +kernel
theorem dX10_part_0 : decode cX10_part 0 = .ok (.aload_n 0, 1) := by decide +kernel
theorem dX10_part_1 : decode cX10_part 1 = .ok (.getfield 12, 3) := by decide +kernel
theorem dX10_part_4 : decode cX10_part 4 = .ok (.iload_n 1, 1) := by decide +kernel
theorem dX10_part_5 : decode cX10_part 5 = .ok (.invokevirtual 93, 3) := by decide +kernel
theorem dX10_part_8 : decode cX10_part 8 = .ok (.ifCond .eq 14, 3) := by decide +kernel
theorem dX10_part_11 : decode cX10_part 11 = .ok (.aload_n 0, 1) := by decide +kernel
theorem dX10_part_12 : decode cX10_part 12 = .ok (.getfield 12, 3) := by decide +kernel
theorem dX10_part_15 : decode cX10_part 15 = .ok (.iload_n 2, 1) := by decide +kernel
theorem dX10_part_16 : decode cX10_part 16 = .ok (.invokevirtual 93, 3) := by decide +kernel
theorem dX10_part_19 : decode cX10_part 19 = .ok (.ifCond .ne 5, 3) := by decide +kernel
theorem dX10_part_22 : decode cX10_part 22 = .ok (.iconst 0, 1) := by decide +kernel
theorem dX10_part_23 : decode cX10_part 23 = .ok (.ireturn, 1) := by decide +kernel
theorem dX10_part_24 : decode cX10_part 24 = .ok (.aload_n 0, 1) := by decide +kernel
theorem dX10_part_25 : decode cX10_part 25 = .ok (.getfield 12, 3) := by decide +kernel
theorem dX10_part_28 : decode cX10_part 28 = .ok (.getfield 183, 3) := by decide +kernel
theorem dX10_part_31 : decode cX10_part 31 = .ok (.iload_n 1, 1) := by decide +kernel
theorem dX10_part_32 : decode cX10_part 32 = .ok (.iaload, 1) := by decide +kernel
theorem dX10_part_33 : decode cX10_part 33 = .ok (.iload_n 2, 1) := by decide +kernel
theorem dX10_part_34 : decode cX10_part 34 = .ok (.if_icmp .ne 16, 3) := by decide +kernel
theorem dX10_part_37 : decode cX10_part 37 = .ok (.aload_n 0, 1) := by decide +kernel
theorem dX10_part_38 : decode cX10_part 38 = .ok (.getfield 12, 3) := by decide +kernel
theorem dX10_part_41 : decode cX10_part 41 = .ok (.getfield 183, 3) := by decide +kernel
theorem dX10_part_44 : decode cX10_part 44 = .ok (.iload_n 2, 1) := by decide +kernel
theorem dX10_part_45 : decode cX10_part 45 = .ok (.iaload, 1) := by decide +kernel
theorem dX10_part_46 : decode cX10_part 46 = .ok (.iload_n 1, 1) := by decide +kernel
theorem dX10_part_47 : decode cX10_part 47 = .ok (.if_icmp .eq 5, 3) := by decide +kernel
theorem dX10_part_50 : decode cX10_part 50 = .ok (.iconst 0, 1) := by decide +kernel
theorem dX10_part_51 : decode cX10_part 51 = .ok (.ireturn, 1) := by decide +kernel
theorem dX10_part_52 : decode cX10_part 52 = .ok (.aload_n 0, 1) := by decide +kernel
theorem dX10_part_53 : decode cX10_part 53 = .ok (.getfield 33, 3) := by decide +kernel
theorem dX10_part_56 : decode cX10_part 56 = .ok (.aload_n 0, 1) := by decide +kernel
theorem dX10_part_57 : decode cX10_part 57 = .ok (.getfield 12, 3) := by decide +kernel
theorem dX10_part_60 : decode cX10_part 60 = .ok (.aload_n 0, 1) := by decide +kernel
theorem dX10_part_61 : decode cX10_part 61 = .ok (.getfield 26, 3) := by decide +kernel
theorem dX10_part_64 : decode cX10_part 64 = .ok (.invokevirtual 175, 3) := by decide +kernel
theorem dX10_part_67 : decode cX10_part 67 = .ok (.aload_n 0, 1) := by decide +kernel
theorem dX10_part_68 : decode cX10_part 68 = .ok (.getfield 12, 3) := by decide +kernel
theorem dX10_part_71 : decode cX10_part 71 = .ok (.iload_n 1, 1) := by decide +kernel
theorem dX10_part_72 : decode cX10_part 72 = .ok (.iload_n 2, 1) := by decide +kernel
theorem dX10_part_73 : decode cX10_part 73 = .ok (.invokevirtual 186, 3) := by decide +kernel
theorem dX10_part_76 : decode cX10_part 76 = .ok (.iconst 1, 1) := by decide +kernel
theorem dX10_part_77 : decode cX10_part 77 = .ok (.ireturn, 1) := by decide +kernel
theorem dX10_lend_0 : decode cX10_lend 0 = .ok (.aload_n 0, 1) := by decide +kernel
theorem dX10_lend_1 : decode cX10_lend 1 = .ok (.iload_n 1, 1) := by decide +kernel
theorem dX10_lend_2 : decode cX10_lend 2 = .ok (.iload_n 2, 1) := by decide +kernel
theorem dX10_lend_3 : decode cX10_lend 3 = .ok (.invokevirtual 189, 3) := by decide +kernel
theorem dX10_lend_6 : decode cX10_lend 6 = .ok (.ifCond .eq 14, 3) := by decide +kernel
theorem dX10_lend_9 : decode cX10_lend 9 = .ok (.iload_n 3, 1) := by decide +kernel
theorem dX10_lend_10 : decode cX10_lend 10 = .ok (.iconst 1, 1) := by decide +kernel
theorem dX10_lend_11 : decode cX10_lend 11 = .ok (.if_icmp .lt 9, 3) := by decide +kernel
theorem dX10_lend_14 : decode cX10_lend 14 = .ok (.iload_n 3, 1) := by decide +kernel
theorem dX10_lend_15 : decode cX10_lend 15 = .ok (.bipush 99, 2) := by decide +kernel
theorem dX10_lend_17 : decode cX10_lend 17 = .ok (.if_icmp .le 5, 3) := by decide +kernel
theorem dX10_lend_20 : decode cX10_lend 20 = .ok (.iconst 0, 1) := by decide +kernel
theorem dX10_lend_21 : decode cX10_lend 21 = .ok (.ireturn, 1) := by decide +kernel
theorem dX10_lend_22 : decode cX10_lend 22 = .ok (.aload_n 0, 1) := by decide +kernel
theorem dX10_lend_23 : decode cX10_lend 23 = .ok (.getfield 12, 3) := by decide +kernel
theorem dX10_lend_26 : decode cX10_lend 26 = .ok (.getfield 192, 3) := by decide +kernel
theorem dX10_lend_29 : decode cX10_lend 29 = .ok (.iload_n 1, 1) := by decide +kernel
theorem dX10_lend_30 : decode cX10_lend 30 = .ok (.iaload, 1) := by decide +kernel
theorem dX10_lend_31 : decode cX10_lend 31 = .ok (.istore 5, 2) := by decide +kernel
theorem dX10_lend_33 : decode cX10_lend 33 = .ok (.iload 4, 2) := by decide +kernel
theorem dX10_lend_35 : decode cX10_lend 35 = .ok (.ifCond .lt 35, 3) := by decide +kernel
theorem dX10_lend_38 : decode cX10_lend 38 = .ok (.iload 4, 2) := by decide +kernel
theorem dX10_lend_40 : decode cX10_lend 40 = .ok (.aload_n 0, 1) := by decide +kernel
theorem dX10_lend_41 : decode cX10_lend 41 = .ok (.getfield 12, 3) := by decide +kernel
theorem dX10_lend_44 : decode cX10_lend 44 = .ok (.getfield 124, 3) := by decide +kernel
theorem dX10_lend_47 : decode cX10_lend 47 = .ok (.iload_n 2, 1) := by decide +kernel
theorem dX10_lend_48 : decode cX10_lend 48 = .ok (.iaload, 1) := by decide +kernel
theorem dX10_lend_49 : decode cX10_lend 49 = .ok (.if_icmp .gt 21, 3) := by decide +kernel
theorem dX10_lend_52 : decode cX10_lend 52 = .ok (.iload 4, 2) := by decide +kernel
theorem dX10_lend_54 : decode cX10_lend 54 = .ok (.ldc 92, 2) := by decide +kernel
theorem dX10_lend_56 : decode cX10_lend 56 = .ok (.aload_n 0, 1) := by decide +kernel
theorem dX10_lend_57 : decode cX10_lend 57 = .ok (.getfield 12, 3) := by decide +kernel
theorem dX10_lend_60 : decode cX10_lend 60 = .ok (.getfield 124, 3) := by decide +kernel
theorem dX10_lend_63 : decode cX10_lend 63 = .ok (.iload 5, 2) := by decide +kernel
theorem dX10_lend_65 : decode cX10_lend 65 = .ok (.iaload, 1) := by decide +kernel
theorem dX10_lend_66 : decode cX10_lend 66 = .ok (.isub, 1) := by decide +kernel
theorem dX10_lend_67 : decode cX10_lend 67 = .ok (.if_icmp .le 5, 3) := by decide +kernel
theorem dX10_lend_70 : decode cX10_lend 70 = .ok (.iconst 0, 1) := by decide +kernel
theorem dX10_lend_71 : decode cX10_lend 71 = .ok (.ireturn, 1) := by decide +kernel
theorem dX10_lend_72 : decode cX10_lend 72 = .ok (.aload_n 0, 1) := by decide +kernel
theorem dX10_lend_73 : decode cX10_lend 73 = .ok (.getfield 33, 3) := by decide +kernel
theorem dX10_lend_76 : decode cX10_lend 76 = .ok (.aload_n 0, 1) := by decide +kernel
theorem dX10_lend_77 : decode cX10_lend 77 = .ok (.getfield 12, 3) := by decide +kernel
theorem dX10_lend_80 : decode cX10_lend 80 = .ok (.aload_n 0, 1) := by decide +kernel
theorem dX10_lend_81 : decode cX10_lend 81 = .ok (.getfield 26, 3) := by decide +kernel
theorem dX10_lend_84 : decode cX10_lend 84 = .ok (.invokevirtual 175, 3) := by decide +kernel
theorem dX10_lend_87 : decode cX10_lend 87 = .ok (.aload_n 0, 1) := by decide +kernel
theorem dX10_lend_88 : decode cX10_lend 88 = .ok (.getfield 12, 3) := by decide +kernel
theorem dX10_lend_91 : decode cX10_lend 91 = .ok (.getfield 124, 3) := by decide +kernel
theorem dX10_lend_94 : decode cX10_lend 94 = .ok (.iload_n 2, 1) := by decide +kernel
theorem dX10_lend_95 : decode cX10_lend 95 = .ok (.dup2, 1) := by decide +kernel
theorem dX10_lend_96 : decode cX10_lend 96 = .ok (.iaload, 1) := by decide +kernel
theorem dX10_lend_97 : decode cX10_lend 97 = .ok (.iload 4, 2) := by decide +kernel
theorem dX10_lend_99 : decode cX10_lend 99 = .ok (.isub, 1) := by decide +kernel
theorem dX10_lend_100 : decode cX10_lend 100 = .ok (.iastore, 1) := by decide +kernel
theorem dX10_lend_101 : decode cX10_lend 101 = .ok (.aload_n 0, 1) := by decide +kernel
theorem dX10_lend_102 : decode cX10_lend 102 = .ok (.getfield 12, 3) := by decide +kernel
theorem dX10_lend_105 : decode cX10_lend 105 = .ok (.getfield 124, 3) := by decide +kernel
theorem dX10_lend_108 : decode cX10_lend 108 = .ok (.iload 5, 2) := by decide +kernel
theorem dX10_lend_110 : decode cX10_lend 110 = .ok (.dup2, 1) := by decide +kernel
theorem dX10_lend_111 : decode cX10_lend 111 = .ok (.iaload, 1) := by decide +kernel
theorem dX10_lend_112 : decode cX10_lend 112 = .ok (.iload 4, 2) := by decide +kernel
theorem dX10_lend_114 : decode cX10_lend 114 = .ok (.iadd, 1) := by decide +kernel
theorem dX10_lend_115 : decode cX10_lend 115 = .ok (.iastore, 1) := by decide +kernel
theorem dX10_lend_116 : decode cX10_lend 116 = .ok (.aload_n 0, 1) := by decide +kernel
theorem dX10_lend_117 : decode cX10_lend 117 = .ok (.getfield 12, 3) := by decide +kernel
theorem dX10_lend_120 : decode cX10_lend 120 = .ok (.getfield 195, 3) := by decide +kernel
theorem dX10_lend_123 : decode cX10_lend 123 = .ok (.iload_n 1, 1) := by decide +kernel
theorem dX10_lend_124 : decode cX10_lend 124 = .ok (.iload_n 2, 1) := by decide +kernel
theorem dX10_lend_125 : decode cX10_lend 125 = .ok (.iastore, 1) := by decide +kernel
theorem dX10_lend_126 : decode cX10_lend 126 = .ok (.aload_n 0, 1) := by decide +kernel
theorem dX10_lend_127 : decode cX10_lend 127 = .ok (.getfield 12, 3) := by decide +kernel
theorem dX10_lend_130 : decode cX10_lend 130 = .ok (.getfield 198, 3) := by decide +kernel
theorem dX10_lend_133 : decode cX10_lend 133 = .ok (.iload_n 1, 1) := by decide +kernel
theorem dX10_lend_134 : decode cX10_lend 134 = .ok (.aload_n 0, 1) := by decide +kernel
theorem dX10_lend_135 : decode cX10_lend 135 = .ok (.getfield 12, 3) := by decide +kernel
theorem dX10_lend_138 : decode cX10_lend 138 = .ok (.getfield 111, 3) := by decide +kernel
theorem dX10_lend_141 : decode cX10_lend 141 = .ok (.iload_n 3, 1) := by decide +kernel
theorem dX10_lend_142 : decode cX10_lend 142 = .ok (.iadd, 1) := by decide +kernel
theorem dX10_lend_143 : decode cX10_lend 143 = .ok (.iastore, 1) := by decide +kernel
theorem dX10_lend_144 : decode cX10_lend 144 = .ok (.iconst 1, 1) := by decide +kernel
theorem dX10_lend_145 : decode cX10_lend 145 = .ok (.ireturn, 1) := by decide +kernel
theorem dX10_give_0 : decode cX10_give 0 = .ok (.aload_n 0, 1) := by decide +kernel
theorem dX10_give_1 : decode cX10_give 1 = .ok (.iload_n 1, 1) := by decide +kernel
theorem dX10_give_2 : decode cX10_give 2 = .ok (.iload_n 2, 1) := by decide +kernel
theorem dX10_give_3 : decode cX10_give 3 = .ok (.invokevirtual 189, 3) := by decide +kernel
theorem dX10_give_6 : decode cX10_give 6 = .ok (.ifCond .ne 5, 3) := by decide +kernel
theorem dX10_give_9 : decode cX10_give 9 = .ok (.iconst 0, 1) := by decide +kernel
theorem dX10_give_10 : decode cX10_give 10 = .ok (.ireturn, 1) := by decide +kernel
theorem dX10_give_11 : decode cX10_give 11 = .ok (.aload_n 0, 1) := by decide +kernel
theorem dX10_give_12 : decode cX10_give 12 = .ok (.getfield 33, 3) := by decide +kernel
theorem dX10_give_15 : decode cX10_give 15 = .ok (.aload_n 0, 1) := by decide +kernel
theorem dX10_give_16 : decode cX10_give 16 = .ok (.getfield 12, 3) := by decide +kernel
theorem dX10_give_19 : decode cX10_give 19 = .ok (.aload_n 0, 1) := by decide +kernel
theorem dX10_give_20 : decode cX10_give 20 = .ok (.getfield 26, 3) := by decide +kernel
theorem dX10_give_23 : decode cX10_give 23 = .ok (.invokevirtual 175, 3) := by decide +kernel
theorem dX10_give_26 : decode cX10_give 26 = .ok (.aload_n 0, 1) := by decide +kernel
theorem dX10_give_27 : decode cX10_give 27 = .ok (.getfield 12, 3) := by decide +kernel
theorem dX10_give_30 : decode cX10_give 30 = .ok (.iload_n 1, 1) := by decide +kernel
theorem dX10_give_31 : decode cX10_give 31 = .ok (.iload_n 2, 1) := by decide +kernel
theorem dX10_give_32 : decode cX10_give 32 = .ok (.iconst 1, 1) := by decide +kernel
theorem dX10_give_33 : decode cX10_give 33 = .ok (.aload_n 0, 1) := by decide +kernel
theorem dX10_give_34 : decode cX10_give 34 = .ok (.getfield 26, 3) := by decide +kernel
theorem dX10_give_37 : decode cX10_give 37 = .ok (.invokevirtual 134, 3) := by decide +kernel
theorem dX10_give_40 : decode cX10_give 40 = .ok (.iconst 1, 1) := by decide +kernel
theorem dX10_give_41 : decode cX10_give 41 = .ok (.ireturn, 1) := by decide +kernel
theorem dX10_mayHandOver_0 : decode cX10_mayHandOver 0 = .ok (.iload_n 1, 1) := by decide +kernel
theorem dX10_mayHandOver_1 : decode cX10_mayHandOver 1 = .ok (.invokestatic 127, 3) := by decide +kernel
theorem dX10_mayHandOver_4 : decode cX10_mayHandOver 4 = .ok (.ifCond .eq 14, 3) := by decide +kernel
theorem dX10_mayHandOver_7 : decode cX10_mayHandOver 7 = .ok (.aload_n 0, 1) := by decide +kernel
theorem dX10_mayHandOver_8 : decode cX10_mayHandOver 8 = .ok (.getfield 12, 3) := by decide +kernel
theorem dX10_mayHandOver_11 : decode cX10_mayHandOver 11 = .ok (.iload_n 2, 1) := by decide +kernel
theorem dX10_mayHandOver_12 : decode cX10_mayHandOver 12 = .ok (.invokevirtual 104, 3) := by decide +kernel
theorem dX10_mayHandOver_15 : decode cX10_mayHandOver 15 = .ok (.ifCond .ne 5, 3) := by decide +kernel
theorem dX10_mayHandOver_18 : decode cX10_mayHandOver 18 = .ok (.iconst 0, 1) := by decide +kernel
theorem dX10_mayHandOver_19 : decode cX10_mayHandOver 19 = .ok (.ireturn, 1) := by decide +kernel
theorem dX10_mayHandOver_20 : decode cX10_mayHandOver 20 = .ok (.aload_n 0, 1) := by decide +kernel
theorem dX10_mayHandOver_21 : decode cX10_mayHandOver 21 = .ok (.getfield 12, 3) := by decide +kernel
theorem dX10_mayHandOver_24 : decode cX10_mayHandOver 24 = .ok (.getfield 192, 3) := by decide +kernel
theorem dX10_mayHandOver_27 : decode cX10_mayHandOver 27 = .ok (.iload_n 1, 1) := by decide +kernel
theorem dX10_mayHandOver_28 : decode cX10_mayHandOver 28 = .ok (.iaload, 1) := by decide +kernel
theorem dX10_mayHandOver_29 : decode cX10_mayHandOver 29 = .ok (.istore_n 3, 1) := by decide +kernel
theorem dX10_mayHandOver_30 : decode cX10_mayHandOver 30 = .ok (.iload_n 3, 1) := by decide +kernel
theorem dX10_mayHandOver_31 : decode cX10_mayHandOver 31 = .ok (.iload_n 2, 1) := by decide +kernel
theorem dX10_mayHandOver_32 : decode cX10_mayHandOver 32 = .ok (.if_icmp .eq 31, 3) := by decide +kernel
theorem dX10_mayHandOver_35 : decode cX10_mayHandOver 35 = .ok (.aload_n 0, 1) := by decide +kernel
theorem dX10_mayHandOver_36 : decode cX10_mayHandOver 36 = .ok (.getfield 12, 3) := by decide +kernel
theorem dX10_mayHandOver_39 : decode cX10_mayHandOver 39 = .ok (.iload_n 3, 1) := by decide +kernel
theorem dX10_mayHandOver_40 : decode cX10_mayHandOver 40 = .ok (.invokevirtual 104, 3) := by decide +kernel
theorem dX10_mayHandOver_43 : decode cX10_mayHandOver 43 = .ok (.ifCond .eq 20, 3) := by decide +kernel
theorem dX10_mayHandOver_46 : decode cX10_mayHandOver 46 = .ok (.aload_n 0, 1) := by decide +kernel
theorem dX10_mayHandOver_47 : decode cX10_mayHandOver 47 = .ok (.getfield 12, 3) := by decide +kernel
theorem dX10_mayHandOver_50 : decode cX10_mayHandOver 50 = .ok (.getfield 195, 3) := by decide +kernel
theorem dX10_mayHandOver_53 : decode cX10_mayHandOver 53 = .ok (.iload_n 1, 1) := by decide +kernel
theorem dX10_mayHandOver_54 : decode cX10_mayHandOver 54 = .ok (.iaload, 1) := by decide +kernel
theorem dX10_mayHandOver_55 : decode cX10_mayHandOver 55 = .ok (.iconst (-1), 1) := by decide +kernel
theorem dX10_mayHandOver_56 : decode cX10_mayHandOver 56 = .ok (.if_icmp .ne 7, 3) := by decide +kernel
theorem dX10_mayHandOver_59 : decode cX10_mayHandOver 59 = .ok (.iconst 1, 1) := by decide +kernel
theorem dX10_mayHandOver_60 : decode cX10_mayHandOver 60 = .ok (.goto 4, 3) := by decide +kernel
theorem dX10_mayHandOver_63 : decode cX10_mayHandOver 63 = .ok (.iconst 0, 1) := by decide +kernel
theorem dX10_mayHandOver_64 : decode cX10_mayHandOver 64 = .ok (.ireturn, 1) := by decide +kernel
theorem dX10_duel_0 : decode cX10_duel 0 = .ok (.iload_n 3, 1) := by decide +kernel
theorem dX10_duel_1 : decode cX10_duel 1 = .ok (.invokestatic 127, 3) := by decide +kernel
theorem dX10_duel_4 : decode cX10_duel 4 = .ok (.ifCond .eq 30, 3) := by decide +kernel
theorem dX10_duel_7 : decode cX10_duel 7 = .ok (.iload_n 1, 1) := by decide +kernel
theorem dX10_duel_8 : decode cX10_duel 8 = .ok (.iload_n 2, 1) := by decide +kernel
theorem dX10_duel_9 : decode cX10_duel 9 = .ok (.if_icmp .eq 25, 3) := by decide +kernel
theorem dX10_duel_12 : decode cX10_duel 12 = .ok (.aload_n 0, 1) := by decide +kernel
theorem dX10_duel_13 : decode cX10_duel 13 = .ok (.getfield 12, 3) := by decide +kernel
theorem dX10_duel_16 : decode cX10_duel 16 = .ok (.iload_n 1, 1) := by decide +kernel
theorem dX10_duel_17 : decode cX10_duel 17 = .ok (.invokevirtual 104, 3) := by decide +kernel
theorem dX10_duel_20 : decode cX10_duel 20 = .ok (.ifCond .eq 14, 3) := by decide +kernel
theorem dX10_duel_23 : decode cX10_duel 23 = .ok (.aload_n 0, 1) := by decide +kernel
theorem dX10_duel_24 : decode cX10_duel 24 = .ok (.getfield 12, 3) := by decide +kernel
theorem dX10_duel_27 : decode cX10_duel 27 = .ok (.iload_n 2, 1) := by decide +kernel
theorem dX10_duel_28 : decode cX10_duel 28 = .ok (.invokevirtual 104, 3) := by decide +kernel
theorem dX10_duel_31 : decode cX10_duel 31 = .ok (.ifCond .ne 5, 3) := by decide +kernel
theorem dX10_duel_34 : decode cX10_duel 34 = .ok (.iconst (-1), 1) := by decide +kernel
theorem dX10_duel_35 : decode cX10_duel 35 = .ok (.ireturn, 1) := by decide +kernel
theorem dX10_duel_36 : decode cX10_duel 36 = .ok (.aload_n 0, 1) := by decide +kernel
theorem dX10_duel_37 : decode cX10_duel 37 = .ok (.getfield 12, 3) := by decide +kernel
theorem dX10_duel_40 : decode cX10_duel 40 = .ok (.getfield 192, 3) := by decide +kernel
theorem dX10_duel_43 : decode cX10_duel 43 = .ok (.iload_n 3, 1) := by decide +kernel
theorem dX10_duel_44 : decode cX10_duel 44 = .ok (.iaload, 1) := by decide +kernel
theorem dX10_duel_45 : decode cX10_duel 45 = .ok (.iload_n 1, 1) := by decide +kernel
theorem dX10_duel_46 : decode cX10_duel 46 = .ok (.if_icmp .eq 18, 3) := by decide +kernel
theorem dX10_duel_49 : decode cX10_duel 49 = .ok (.aload_n 0, 1) := by decide +kernel
theorem dX10_duel_50 : decode cX10_duel 50 = .ok (.getfield 12, 3) := by decide +kernel
theorem dX10_duel_53 : decode cX10_duel 53 = .ok (.getfield 192, 3) := by decide +kernel
theorem dX10_duel_56 : decode cX10_duel 56 = .ok (.iload_n 3, 1) := by decide +kernel
theorem dX10_duel_57 : decode cX10_duel 57 = .ok (.iaload, 1) := by decide +kernel
theorem dX10_duel_58 : decode cX10_duel 58 = .ok (.iload_n 2, 1) := by decide +kernel
theorem dX10_duel_59 : decode cX10_duel 59 = .ok (.if_icmp .eq 5, 3) := by decide +kernel
theorem dX10_duel_62 : decode cX10_duel 62 = .ok (.iconst (-1), 1) := by decide +kernel
theorem dX10_duel_63 : decode cX10_duel 63 = .ok (.ireturn, 1) := by decide +kernel
theorem dX10_duel_64 : decode cX10_duel 64 = .ok (.aload_n 0, 1) := by decide +kernel
theorem dX10_duel_65 : decode cX10_duel 65 = .ok (.getfield 33, 3) := by decide +kernel
theorem dX10_duel_68 : decode cX10_duel 68 = .ok (.aload_n 0, 1) := by decide +kernel
theorem dX10_duel_69 : decode cX10_duel 69 = .ok (.getfield 12, 3) := by decide +kernel
theorem dX10_duel_72 : decode cX10_duel 72 = .ok (.aload_n 0, 1) := by decide +kernel
theorem dX10_duel_73 : decode cX10_duel 73 = .ok (.getfield 26, 3) := by decide +kernel
theorem dX10_duel_76 : decode cX10_duel 76 = .ok (.invokevirtual 175, 3) := by decide +kernel
theorem dX10_duel_79 : decode cX10_duel 79 = .ok (.aload_n 0, 1) := by decide +kernel
theorem dX10_duel_80 : decode cX10_duel 80 = .ok (.getfield 12, 3) := by decide +kernel
theorem dX10_duel_83 : decode cX10_duel 83 = .ok (.aload_n 0, 1) := by decide +kernel
theorem dX10_duel_84 : decode cX10_duel 84 = .ok (.getfield 12, 3) := by decide +kernel
theorem dX10_duel_87 : decode cX10_duel 87 = .ok (.getfield 121, 3) := by decide +kernel
theorem dX10_duel_90 : decode cX10_duel 90 = .ok (.iload_n 1, 1) := by decide +kernel
theorem dX10_duel_91 : decode cX10_duel 91 = .ok (.iaload, 1) := by decide +kernel
theorem dX10_duel_92 : decode cX10_duel 92 = .ok (.aload_n 0, 1) := by decide +kernel
theorem dX10_duel_93 : decode cX10_duel 93 = .ok (.getfield 12, 3) := by decide +kernel
theorem dX10_duel_96 : decode cX10_duel 96 = .ok (.getfield 121, 3) := by decide +kernel
theorem dX10_duel_99 : decode cX10_duel 99 = .ok (.iload_n 2, 1) := by decide +kernel
theorem dX10_duel_100 : decode cX10_duel 100 = .ok (.iaload, 1) := by decide +kernel
theorem dX10_duel_101 : decode cX10_duel 101 = .ok (.iadd, 1) := by decide +kernel
theorem dX10_duel_102 : decode cX10_duel 102 = .ok (.iconst 2, 1) := by decide +kernel
theorem dX10_duel_103 : decode cX10_duel 103 = .ok (.iadd, 1) := by decide +kernel
theorem dX10_duel_104 : decode cX10_duel 104 = .ok (.invokevirtual 201, 3) := by decide +kernel
theorem dX10_duel_107 : decode cX10_duel 107 = .ok (.istore 4, 2) := by decide +kernel
theorem dX10_duel_109 : decode cX10_duel 109 = .ok (.iload 4, 2) := by decide +kernel
theorem dX10_duel_111 : decode cX10_duel 111 = .ok (.aload_n 0, 1) := by decide +kernel
theorem dX10_duel_112 : decode cX10_duel 112 = .ok (.getfield 12, 3) := by decide +kernel
theorem dX10_duel_115 : decode cX10_duel 115 = .ok (.getfield 121, 3) := by decide +kernel
theorem dX10_duel_118 : decode cX10_duel 118 = .ok (.iload_n 1, 1) := by decide +kernel
theorem dX10_duel_119 : decode cX10_duel 119 = .ok (.iaload, 1) := by decide +kernel
theorem dX10_duel_120 : decode cX10_duel 120 = .ok (.iconst 1, 1) := by decide +kernel
theorem dX10_duel_121 : decode cX10_duel 121 = .ok (.iadd, 1) := by decide +kernel
theorem dX10_duel_122 : decode cX10_duel 122 = .ok (.if_icmp .ge 7, 3) := by decide +kernel
theorem dX10_duel_125 : decode cX10_duel 125 = .ok (.iload_n 1, 1) := by decide +kernel
theorem dX10_duel_126 : decode cX10_duel 126 = .ok (.goto 4, 3) := by decide +kernel
theorem dX10_duel_129 : decode cX10_duel 129 = .ok (.iload_n 2, 1) := by decide +kernel
theorem dX10_duel_130 : decode cX10_duel 130 = .ok (.istore 5, 2) := by decide +kernel
theorem dX10_duel_132 : decode cX10_duel 132 = .ok (.aload_n 0, 1) := by decide +kernel
theorem dX10_duel_133 : decode cX10_duel 133 = .ok (.getfield 12, 3) := by decide +kernel
theorem dX10_duel_136 : decode cX10_duel 136 = .ok (.iload_n 3, 1) := by decide +kernel
theorem dX10_duel_137 : decode cX10_duel 137 = .ok (.invokevirtual 130, 3) := by decide +kernel
theorem dX10_duel_140 : decode cX10_duel 140 = .ok (.aload_n 0, 1) := by decide +kernel
theorem dX10_duel_141 : decode cX10_duel 141 = .ok (.getfield 12, 3) := by decide +kernel
theorem dX10_duel_144 : decode cX10_duel 144 = .ok (.iload_n 3, 1) := by decide +kernel
theorem dX10_duel_145 : decode cX10_duel 145 = .ok (.iload 5, 2) := by decide +kernel
theorem dX10_duel_147 : decode cX10_duel 147 = .ok (.iconst 2, 1) := by decide +kernel
theorem dX10_duel_148 : decode cX10_duel 148 = .ok (.aload_n 0, 1) := by decide +kernel
theorem dX10_duel_149 : decode cX10_duel 149 = .ok (.getfield 26, 3) := by decide +kernel
theorem dX10_duel_152 : decode cX10_duel 152 = .ok (.invokevirtual 134, 3) := by decide +kernel
theorem dX10_duel_155 : decode cX10_duel 155 = .ok (.iload 5, 2) := by decide +kernel
theorem dX10_duel_157 : decode cX10_duel 157 = .ok (.ireturn, 1) := by decide +kernel
theorem dX10_sign_0 : decode cX10_sign 0 = .ok (.aload_n 0, 1) := by decide +kernel
theorem dX10_sign_1 : decode cX10_sign 1 = .ok (.iload_n 1, 1) := by decide +kernel
theorem dX10_sign_2 : decode cX10_sign 2 = .ok (.invokevirtual 205, 3) := by decide +kernel
theorem dX10_sign_5 : decode cX10_sign 5 = .ok (.ifCond .eq 21, 3) := by decide +kernel
theorem dX10_sign_8 : decode cX10_sign 8 = .ok (.iload_n 2, 1) := by decide +kernel
theorem dX10_sign_9 : decode cX10_sign 9 = .ok (.ifCond .eq 17, 3) := by decide +kernel
theorem dX10_sign_12 : decode cX10_sign 12 = .ok (.iload_n 2, 1) := by decide +kernel
theorem dX10_sign_13 : decode cX10_sign 13 = .ok (.aload_n 0, 1) := by decide +kernel
theorem dX10_sign_14 : decode cX10_sign 14 = .ok (.getfield 12, 3) := by decide +kernel
theorem dX10_sign_17 : decode cX10_sign 17 = .ok (.getfield 208, 3) := by decide +kernel
theorem dX10_sign_20 : decode cX10_sign 20 = .ok (.iconst (-1), 1) := by decide +kernel
theorem dX10_sign_21 : decode cX10_sign 21 = .ok (.ixor, 1) := by decide +kernel
theorem dX10_sign_22 : decode cX10_sign 22 = .ok (.iand, 1) := by decide +kernel
theorem dX10_sign_23 : decode cX10_sign 23 = .ok (.ifCond .eq 5, 3) := by decide +kernel
theorem dX10_sign_26 : decode cX10_sign 26 = .ok (.iconst (-1), 1) := by decide +kernel
theorem dX10_sign_27 : decode cX10_sign 27 = .ok (.ireturn, 1) := by decide +kernel
theorem dX10_sign_28 : decode cX10_sign 28 = .ok (.aload_n 0, 1) := by decide +kernel
theorem dX10_sign_29 : decode cX10_sign 29 = .ok (.getfield 33, 3) := by decide +kernel
theorem dX10_sign_32 : decode cX10_sign 32 = .ok (.aload_n 0, 1) := by decide +kernel
theorem dX10_sign_33 : decode cX10_sign 33 = .ok (.getfield 12, 3) := by decide +kernel
theorem dX10_sign_36 : decode cX10_sign 36 = .ok (.aload_n 0, 1) := by decide +kernel
theorem dX10_sign_37 : decode cX10_sign 37 = .ok (.getfield 26, 3) := by decide +kernel
theorem dX10_sign_40 : decode cX10_sign 40 = .ok (.invokevirtual 175, 3) := by decide +kernel
theorem dX10_sign_43 : decode cX10_sign 43 = .ok (.aload_n 0, 1) := by decide +kernel
theorem dX10_sign_44 : decode cX10_sign 44 = .ok (.getfield 12, 3) := by decide +kernel
theorem dX10_sign_47 : decode cX10_sign 47 = .ok (.getfield 211, 3) := by decide +kernel
theorem dX10_sign_50 : decode cX10_sign 50 = .ok (.iload_n 1, 1) := by decide +kernel
theorem dX10_sign_51 : decode cX10_sign 51 = .ok (.iload_n 2, 1) := by decide +kernel
theorem dX10_sign_52 : decode cX10_sign 52 = .ok (.iastore, 1) := by decide +kernel
theorem dX10_sign_53 : decode cX10_sign 53 = .ok (.aload_n 0, 1) := by decide +kernel
theorem dX10_sign_54 : decode cX10_sign 54 = .ok (.getfield 12, 3) := by decide +kernel
theorem dX10_sign_57 : decode cX10_sign 57 = .ok (.getfield 214, 3) := by decide +kernel
theorem dX10_sign_60 : decode cX10_sign 60 = .ok (.iload_n 1, 1) := by decide +kernel
theorem dX10_sign_61 : decode cX10_sign 61 = .ok (.aload_n 0, 1) := by decide +kernel
theorem dX10_sign_62 : decode cX10_sign 62 = .ok (.getfield 19, 3) := by decide +kernel
theorem dX10_sign_65 : decode cX10_sign 65 = .ok (.getfield 217, 3) := by decide +kernel
theorem dX10_sign_68 : decode cX10_sign 68 = .ok (.iload_n 1, 1) := by decide +kernel
theorem dX10_sign_69 : decode cX10_sign 69 = .ok (.iaload, 1) := by decide +kernel
theorem dX10_sign_70 : decode cX10_sign 70 = .ok (.aload_n 0, 1) := by decide +kernel
theorem dX10_sign_71 : decode cX10_sign 71 = .ok (.getfield 42, 3) := by decide +kernel
theorem dX10_sign_74 : decode cX10_sign 74 = .ok (.iload_n 2, 1) := by decide +kernel
theorem dX10_sign_75 : decode cX10_sign 75 = .ok (.invokevirtual 220, 3) := by decide +kernel
theorem dX10_sign_78 : decode cX10_sign 78 = .ok (.iconst (-1), 1) := by decide +kernel
theorem dX10_sign_79 : decode cX10_sign 79 = .ok (.ixor, 1) := by decide +kernel
theorem dX10_sign_80 : decode cX10_sign 80 = .ok (.iand, 1) := by decide +kernel
theorem dX10_sign_81 : decode cX10_sign 81 = .ok (.iastore, 1) := by decide +kernel
theorem dX10_sign_82 : decode cX10_sign 82 = .ok (.aload_n 0, 1) := by decide +kernel
theorem dX10_sign_83 : decode cX10_sign 83 = .ok (.getfield 12, 3) := by decide +kernel
theorem dX10_sign_86 : decode cX10_sign 86 = .ok (.getfield 223, 3) := by decide +kernel
theorem dX10_sign_89 : decode cX10_sign 89 = .ok (.iload_n 1, 1) := by decide +kernel
theorem dX10_sign_90 : decode cX10_sign 90 = .ok (.aload_n 0, 1) := by decide +kernel
theorem dX10_sign_91 : decode cX10_sign 91 = .ok (.getfield 12, 3) := by decide +kernel
theorem dX10_sign_94 : decode cX10_sign 94 = .ok (.getfield 111, 3) := by decide +kernel
theorem dX10_sign_97 : decode cX10_sign 97 = .ok (.iastore, 1) := by decide +kernel
theorem dX10_sign_98 : decode cX10_sign 98 = .ok (.aload_n 0, 1) := by decide +kernel
theorem dX10_sign_99 : decode cX10_sign 99 = .ok (.getfield 12, 3) := by decide +kernel
theorem dX10_sign_102 : decode cX10_sign 102 = .ok (.getfield 214, 3) := by decide +kernel
theorem dX10_sign_105 : decode cX10_sign 105 = .ok (.iload_n 1, 1) := by decide +kernel
theorem dX10_sign_106 : decode cX10_sign 106 = .ok (.iaload, 1) := by decide +kernel
theorem dX10_sign_107 : decode cX10_sign 107 = .ok (.ireturn, 1) := by decide +kernel
theorem dX10_days_0 : decode cX10_days 0 = .ok (.iload_n 1, 1) := by decide +kernel
theorem dX10_days_1 : decode cX10_days 1 = .ok (.iconst 1, 1) := by decide +kernel
theorem dX10_days_2 : decode cX10_days 2 = .ok (.if_icmp .lt 24, 3) := by decide +kernel
theorem dX10_days_5 : decode cX10_days 5 = .ok (.iload_n 1, 1) := by decide +kernel
theorem dX10_days_6 : decode cX10_days 6 = .ok (.bipush 100, 2) := by decide +kernel
theorem dX10_days_8 : decode cX10_days 8 = .ok (.if_icmp .gt 18, 3) := by decide +kernel
theorem dX10_days_11 : decode cX10_days 11 = .ok (.aload_n 0, 1) := by decide +kernel
theorem dX10_days_12 : decode cX10_days 12 = .ok (.getfield 12, 3) := by decide +kernel
theorem dX10_days_15 : decode cX10_days 15 = .ok (.getfield 111, 3) := by decide +kernel
theorem dX10_days_18 : decode cX10_days 18 = .ok (.iload_n 1, 1) := by decide +kernel
theorem dX10_days_19 : decode cX10_days 19 = .ok (.iadd, 1) := by decide +kernel
theorem dX10_days_20 : decode cX10_days 20 = .ok (.sipush 9999, 3) := by decide +kernel
theorem dX10_days_23 : decode cX10_days 23 = .ok (.if_icmp .le 5, 3) := by decide +kernel
theorem dX10_days_26 : decode cX10_days 26 = .ok (.iconst (-1), 1) := by decide +kernel
theorem dX10_days_27 : decode cX10_days 27 = .ok (.ireturn, 1) := by decide +kernel
theorem dX10_days_28 : decode cX10_days 28 = .ok (.iconst 0, 1) := by decide +kernel
theorem dX10_days_29 : decode cX10_days 29 = .ok (.istore_n 2, 1) := by decide +kernel
theorem dX10_days_30 : decode cX10_days 30 = .ok (.iconst 0, 1) := by decide +kernel
theorem dX10_days_31 : decode cX10_days 31 = .ok (.istore_n 3, 1) := by decide +kernel
theorem dX10_days_32 : decode cX10_days 32 = .ok (.iload_n 3, 1) := by decide +kernel
theorem dX10_days_33 : decode cX10_days 33 = .ok (.iload_n 1, 1) := by decide +kernel
theorem dX10_days_34 : decode cX10_days 34 = .ok (.if_icmp .ge 43, 3) := by decide +kernel
theorem dX10_days_37 : decode cX10_days 37 = .ok (.aload_n 0, 1) := by decide +kernel
theorem dX10_days_38 : decode cX10_days 38 = .ok (.getfield 33, 3) := by decide +kernel
theorem dX10_days_41 : decode cX10_days 41 = .ok (.aload_n 0, 1) := by decide +kernel
theorem dX10_days_42 : decode cX10_days 42 = .ok (.getfield 12, 3) := by decide +kernel
theorem dX10_days_45 : decode cX10_days 45 = .ok (.aload_n 0, 1) := by decide +kernel
theorem dX10_days_46 : decode cX10_days 46 = .ok (.getfield 26, 3) := by decide +kernel
theorem dX10_days_49 : decode cX10_days 49 = .ok (.invokevirtual 175, 3) := by decide +kernel
theorem dX10_days_52 : decode cX10_days 52 = .ok (.iload_n 2, 1) := by decide +kernel
theorem dX10_days_53 : decode cX10_days 53 = .ok (.aload_n 0, 1) := by decide +kernel
theorem dX10_days_54 : decode cX10_days 54 = .ok (.getfield 12, 3) := by decide +kernel
theorem dX10_days_57 : decode cX10_days 57 = .ok (.aload_n 0, 1) := by decide +kernel
theorem dX10_days_58 : decode cX10_days 58 = .ok (.getfield 19, 3) := by decide +kernel
theorem dX10_days_61 : decode cX10_days 61 = .ok (.aload_n 0, 1) := by decide +kernel
theorem dX10_days_62 : decode cX10_days 62 = .ok (.getfield 26, 3) := by decide +kernel
theorem dX10_days_65 : decode cX10_days 65 = .ok (.iconst 1, 1) := by decide +kernel
theorem dX10_days_66 : decode cX10_days 66 = .ok (.invokevirtual 226, 3) := by decide +kernel
theorem dX10_days_69 : decode cX10_days 69 = .ok (.iadd, 1) := by decide +kernel
theorem dX10_days_70 : decode cX10_days 70 = .ok (.istore_n 2, 1) := by decide +kernel
theorem dX10_days_71 : decode cX10_days 71 = .ok (.iinc 3 1, 3) := by decide +kernel
theorem dX10_days_74 : decode cX10_days 74 = .ok (.goto (-42), 3) := by decide +kernel
theorem dX10_days_77 : decode cX10_days 77 = .ok (.iload_n 2, 1) := by decide +kernel
theorem dX10_days_78 : decode cX10_days 78 = .ok (.ireturn, 1) := by decide +kernel
theorem dX10_of_0 : decode cX10_of 0 = .ok (.aload_n 0, 1) := by decide +kernel
theorem dX10_of_1 : decode cX10_of 1 = .ok (.getfield 12, 3) := by decide +kernel
theorem dX10_of_4 : decode cX10_of 4 = .ok (.iload_n 1, 1) := by decide +kernel
theorem dX10_of_5 : decode cX10_of 5 = .ok (.invokevirtual 93, 3) := by decide +kernel
theorem dX10_of_8 : decode cX10_of 8 = .ok (.ifCond .ne 6, 3) := by decide +kernel
theorem dX10_of_11 : decode cX10_of 11 = .ok (.bipush (-2), 2) := by decide +kernel
theorem dX10_of_13 : decode cX10_of 13 = .ok (.ireturn, 1) := by decide +kernel
theorem dX10_of_14 : decode cX10_of 14 = .ok (.iload_n 2, 1) := by decide +kernel
theorem dX10_of_15 : decode cX10_of 15 = .ok (.tableswitch 186 0 11 #[61, 71, 81, 91, 101, 111, 121, 131, 141, 158, 167, 176], 61) := by decide +kernel
theorem dX10_of_76 : decode cX10_of 76 = .ok (.aload_n 0, 1) := by decide +kernel
theorem dX10_of_77 : decode cX10_of 77 = .ok (.getfield 12, 3) := by decide +kernel
theorem dX10_of_80 : decode cX10_of 80 = .ok (.getfield 230, 3) := by decide +kernel
theorem dX10_of_83 : decode cX10_of 83 = .ok (.iload_n 1, 1) := by decide +kernel
theorem dX10_of_84 : decode cX10_of 84 = .ok (.iaload, 1) := by decide +kernel
theorem dX10_of_85 : decode cX10_of 85 = .ok (.ireturn, 1) := by decide +kernel
theorem dX10_of_86 : decode cX10_of 86 = .ok (.aload_n 0, 1) := by decide +kernel
theorem dX10_of_87 : decode cX10_of 87 = .ok (.getfield 12, 3) := by decide +kernel
theorem dX10_of_90 : decode cX10_of 90 = .ok (.getfield 233, 3) := by decide +kernel
theorem dX10_of_93 : decode cX10_of 93 = .ok (.iload_n 1, 1) := by decide +kernel
theorem dX10_of_94 : decode cX10_of 94 = .ok (.iaload, 1) := by decide +kernel
theorem dX10_of_95 : decode cX10_of 95 = .ok (.ireturn, 1) := by decide +kernel
theorem dX10_of_96 : decode cX10_of 96 = .ok (.aload_n 0, 1) := by decide +kernel
theorem dX10_of_97 : decode cX10_of 97 = .ok (.getfield 12, 3) := by decide +kernel
theorem dX10_of_100 : decode cX10_of 100 = .ok (.getfield 236, 3) := by decide +kernel
theorem dX10_of_103 : decode cX10_of 103 = .ok (.iload_n 1, 1) := by decide +kernel
theorem dX10_of_104 : decode cX10_of 104 = .ok (.iaload, 1) := by decide +kernel
theorem dX10_of_105 : decode cX10_of 105 = .ok (.ireturn, 1) := by decide +kernel
theorem dX10_of_106 : decode cX10_of 106 = .ok (.aload_n 0, 1) := by decide +kernel
theorem dX10_of_107 : decode cX10_of 107 = .ok (.getfield 12, 3) := by decide +kernel
theorem dX10_of_110 : decode cX10_of 110 = .ok (.getfield 114, 3) := by decide +kernel
theorem dX10_of_113 : decode cX10_of 113 = .ok (.iload_n 1, 1) := by decide +kernel
theorem dX10_of_114 : decode cX10_of 114 = .ok (.iaload, 1) := by decide +kernel
theorem dX10_of_115 : decode cX10_of 115 = .ok (.ireturn, 1) := by decide +kernel
theorem dX10_of_116 : decode cX10_of 116 = .ok (.aload_n 0, 1) := by decide +kernel
theorem dX10_of_117 : decode cX10_of 117 = .ok (.getfield 12, 3) := by decide +kernel
theorem dX10_of_120 : decode cX10_of 120 = .ok (.getfield 118, 3) := by decide +kernel
theorem dX10_of_123 : decode cX10_of 123 = .ok (.iload_n 1, 1) := by decide +kernel
theorem dX10_of_124 : decode cX10_of 124 = .ok (.iaload, 1) := by decide +kernel
theorem dX10_of_125 : decode cX10_of 125 = .ok (.ireturn, 1) := by decide +kernel
theorem dX10_of_126 : decode cX10_of 126 = .ok (.aload_n 0, 1) := by decide +kernel
theorem dX10_of_127 : decode cX10_of 127 = .ok (.getfield 12, 3) := by decide +kernel
theorem dX10_of_130 : decode cX10_of 130 = .ok (.getfield 121, 3) := by decide +kernel
theorem dX10_of_133 : decode cX10_of 133 = .ok (.iload_n 1, 1) := by decide +kernel
theorem dX10_of_134 : decode cX10_of 134 = .ok (.iaload, 1) := by decide +kernel
theorem dX10_of_135 : decode cX10_of 135 = .ok (.ireturn, 1) := by decide +kernel
theorem dX10_of_136 : decode cX10_of 136 = .ok (.aload_n 0, 1) := by decide +kernel
theorem dX10_of_137 : decode cX10_of 137 = .ok (.getfield 12, 3) := by decide +kernel
theorem dX10_of_140 : decode cX10_of 140 = .ok (.getfield 124, 3) := by decide +kernel
theorem dX10_of_143 : decode cX10_of 143 = .ok (.iload_n 1, 1) := by decide +kernel
theorem dX10_of_144 : decode cX10_of 144 = .ok (.iaload, 1) := by decide +kernel
theorem dX10_of_145 : decode cX10_of 145 = .ok (.ireturn, 1) := by decide +kernel
theorem dX10_of_146 : decode cX10_of 146 = .ok (.aload_n 0, 1) := by decide +kernel
theorem dX10_of_147 : decode cX10_of 147 = .ok (.getfield 12, 3) := by decide +kernel
theorem dX10_of_150 : decode cX10_of 150 = .ok (.getfield 183, 3) := by decide +kernel
theorem dX10_of_153 : decode cX10_of 153 = .ok (.iload_n 1, 1) := by decide +kernel
theorem dX10_of_154 : decode cX10_of 154 = .ok (.iaload, 1) := by decide +kernel
theorem dX10_of_155 : decode cX10_of 155 = .ok (.ireturn, 1) := by decide +kernel
theorem dX10_of_156 : decode cX10_of 156 = .ok (.aload_n 0, 1) := by decide +kernel
theorem dX10_of_157 : decode cX10_of 157 = .ok (.getfield 12, 3) := by decide +kernel
theorem dX10_of_160 : decode cX10_of 160 = .ok (.iload_n 1, 1) := by decide +kernel
theorem dX10_of_161 : decode cX10_of 161 = .ok (.invokevirtual 104, 3) := by decide +kernel
theorem dX10_of_164 : decode cX10_of 164 = .ok (.ifCond .eq 7, 3) := by decide +kernel
theorem dX10_of_167 : decode cX10_of 167 = .ok (.iconst 1, 1) := by decide +kernel
theorem dX10_of_168 : decode cX10_of 168 = .ok (.goto 4, 3) := by decide +kernel
theorem dX10_of_171 : decode cX10_of 171 = .ok (.iconst 0, 1) := by decide +kernel
theorem dX10_of_172 : decode cX10_of 172 = .ok (.ireturn, 1) := by decide +kernel
theorem dX10_of_173 : decode cX10_of 173 = .ok (.aload_n 0, 1) := by decide +kernel
theorem dX10_of_174 : decode cX10_of 174 = .ok (.getfield 12, 3) := by decide +kernel
theorem dX10_of_177 : decode cX10_of 177 = .ok (.iload_n 1, 1) := by decide +kernel
theorem dX10_of_178 : decode cX10_of 178 = .ok (.invokevirtual 239, 3) := by decide +kernel
theorem dX10_of_181 : decode cX10_of 181 = .ok (.ireturn, 1) := by decide +kernel
theorem dX10_of_182 : decode cX10_of 182 = .ok (.aload_n 0, 1) := by decide +kernel
theorem dX10_of_183 : decode cX10_of 183 = .ok (.getfield 12, 3) := by decide +kernel
theorem dX10_of_186 : decode cX10_of 186 = .ok (.iload_n 1, 1) := by decide +kernel
theorem dX10_of_187 : decode cX10_of 187 = .ok (.invokevirtual 242, 3) := by decide +kernel
theorem dX10_of_190 : decode cX10_of 190 = .ok (.ireturn, 1) := by decide +kernel
theorem dX10_of_191 : decode cX10_of 191 = .ok (.aload_n 0, 1) := by decide +kernel
theorem dX10_of_192 : decode cX10_of 192 = .ok (.getfield 19, 3) := by decide +kernel
theorem dX10_of_195 : decode cX10_of 195 = .ok (.getfield 245, 3) := by decide +kernel
theorem dX10_of_198 : decode cX10_of 198 = .ok (.iload_n 1, 1) := by decide +kernel
theorem dX10_of_199 : decode cX10_of 199 = .ok (.iaload, 1) := by decide +kernel
theorem dX10_of_200 : decode cX10_of 200 = .ok (.ireturn, 1) := by decide +kernel
theorem dX10_of_201 : decode cX10_of 201 = .ok (.bipush (-2), 2) := by decide +kernel
theorem dX10_of_203 : decode cX10_of 203 = .ok (.ireturn, 1) := by decide +kernel
theorem dX10_kin_0 : decode cX10_kin 0 = .ok (.aload_n 0, 1) := by decide +kernel
theorem dX10_kin_1 : decode cX10_kin 1 = .ok (.getfield 12, 3) := by decide +kernel
theorem dX10_kin_4 : decode cX10_kin 4 = .ok (.iload_n 1, 1) := by decide +kernel
theorem dX10_kin_5 : decode cX10_kin 5 = .ok (.invokevirtual 93, 3) := by decide +kernel
theorem dX10_kin_8 : decode cX10_kin 8 = .ok (.ifCond .eq 14, 3) := by decide +kernel
theorem dX10_kin_11 : decode cX10_kin 11 = .ok (.aload_n 0, 1) := by decide +kernel
theorem dX10_kin_12 : decode cX10_kin 12 = .ok (.getfield 12, 3) := by decide +kernel
theorem dX10_kin_15 : decode cX10_kin 15 = .ok (.iload_n 2, 1) := by decide +kernel
theorem dX10_kin_16 : decode cX10_kin 16 = .ok (.invokevirtual 93, 3) := by decide +kernel
theorem dX10_kin_19 : decode cX10_kin 19 = .ok (.ifCond .ne 5, 3) := by decide +kernel
theorem dX10_kin_22 : decode cX10_kin 22 = .ok (.iconst (-1), 1) := by decide +kernel
theorem dX10_kin_23 : decode cX10_kin 23 = .ok (.ireturn, 1) := by decide +kernel
theorem dX10_kin_24 : decode cX10_kin 24 = .ok (.aload_n 0, 1) := by decide +kernel
theorem dX10_kin_25 : decode cX10_kin 25 = .ok (.getfield 12, 3) := by decide +kernel
theorem dX10_kin_28 : decode cX10_kin 28 = .ok (.iload_n 1, 1) := by decide +kernel
theorem dX10_kin_29 : decode cX10_kin 29 = .ok (.iload_n 2, 1) := by decide +kernel
theorem dX10_kin_30 : decode cX10_kin 30 = .ok (.invokevirtual 248, 3) := by decide +kernel
theorem dX10_kin_33 : decode cX10_kin 33 = .ok (.ireturn, 1) := by decide +kernel
theorem dX10_letter_0 : decode cX10_letter 0 = .ok (.iload_n 1, 1) := by decide +kernel
theorem dX10_letter_1 : decode cX10_letter 1 = .ok (.invokestatic 127, 3) := by decide +kernel
theorem dX10_letter_4 : decode cX10_letter 4 = .ok (.ifCond .ne 6, 3) := by decide +kernel
theorem dX10_letter_7 : decode cX10_letter 7 = .ok (.bipush (-2), 2) := by decide +kernel
theorem dX10_letter_9 : decode cX10_letter 9 = .ok (.ireturn, 1) := by decide +kernel
theorem dX10_letter_10 : decode cX10_letter 10 = .ok (.iload_n 2, 1) := by decide +kernel
theorem dX10_letter_11 : decode cX10_letter 11 = .ok (.tableswitch 96 0 5 #[37, 47, 57, 67, 78, 87], 37) := by decide +kernel
theorem dX10_letter_48 : decode cX10_letter 48 = .ok (.aload_n 0, 1) := by decide +kernel
theorem dX10_letter_49 : decode cX10_letter 49 = .ok (.getfield 12, 3) := by decide +kernel
theorem dX10_letter_52 : decode cX10_letter 52 = .ok (.getfield 192, 3) := by decide +kernel
theorem dX10_letter_55 : decode cX10_letter 55 = .ok (.iload_n 1, 1) := by decide +kernel
theorem dX10_letter_56 : decode cX10_letter 56 = .ok (.iaload, 1) := by decide +kernel
theorem dX10_letter_57 : decode cX10_letter 57 = .ok (.ireturn, 1) := by decide +kernel
theorem dX10_letter_58 : decode cX10_letter 58 = .ok (.aload_n 0, 1) := by decide +kernel
theorem dX10_letter_59 : decode cX10_letter 59 = .ok (.getfield 12, 3) := by decide +kernel
theorem dX10_letter_62 : decode cX10_letter 62 = .ok (.getfield 195, 3) := by decide +kernel
theorem dX10_letter_65 : decode cX10_letter 65 = .ok (.iload_n 1, 1) := by decide +kernel
theorem dX10_letter_66 : decode cX10_letter 66 = .ok (.iaload, 1) := by decide +kernel
theorem dX10_letter_67 : decode cX10_letter 67 = .ok (.ireturn, 1) := by decide +kernel
theorem dX10_letter_68 : decode cX10_letter 68 = .ok (.aload_n 0, 1) := by decide +kernel
theorem dX10_letter_69 : decode cX10_letter 69 = .ok (.getfield 12, 3) := by decide +kernel
theorem dX10_letter_72 : decode cX10_letter 72 = .ok (.getfield 198, 3) := by decide +kernel
theorem dX10_letter_75 : decode cX10_letter 75 = .ok (.iload_n 1, 1) := by decide +kernel
theorem dX10_letter_76 : decode cX10_letter 76 = .ok (.iaload, 1) := by decide +kernel
theorem dX10_letter_77 : decode cX10_letter 77 = .ok (.ireturn, 1) := by decide +kernel
theorem dX10_letter_78 : decode cX10_letter 78 = .ok (.aload_n 0, 1) := by decide +kernel
theorem dX10_letter_79 : decode cX10_letter 79 = .ok (.getfield 42, 3) := by decide +kernel
theorem dX10_letter_82 : decode cX10_letter 82 = .ok (.iconst 1, 1) := by decide +kernel
theorem dX10_letter_83 : decode cX10_letter 83 = .ok (.iload_n 1, 1) := by decide +kernel
theorem dX10_letter_84 : decode cX10_letter 84 = .ok (.ishl, 1) := by decide +kernel
theorem dX10_letter_85 : decode cX10_letter 85 = .ok (.invokevirtual 252, 3) := by decide +kernel
theorem dX10_letter_88 : decode cX10_letter 88 = .ok (.ireturn, 1) := by decide +kernel
theorem dX10_letter_89 : decode cX10_letter 89 = .ok (.aload_n 0, 1) := by decide +kernel
theorem dX10_letter_90 : decode cX10_letter 90 = .ok (.getfield 26, 3) := by decide +kernel
theorem dX10_letter_93 : decode cX10_letter 93 = .ok (.iload_n 1, 1) := by decide +kernel
theorem dX10_letter_94 : decode cX10_letter 94 = .ok (.invokevirtual 255, 3) := by decide +kernel
theorem dX10_letter_97 : decode cX10_letter 97 = .ok (.ireturn, 1) := by decide +kernel
theorem dX10_letter_98 : decode cX10_letter 98 = .ok (.aload_n 0, 1) := by decide +kernel
theorem dX10_letter_99 : decode cX10_letter 99 = .ok (.getfield 42, 3) := by decide +kernel
theorem dX10_letter_102 : decode cX10_letter 102 = .ok (.iload_n 1, 1) := by decide +kernel
theorem dX10_letter_103 : decode cX10_letter 103 = .ok (.invokevirtual 258, 3) := by decide +kernel
theorem dX10_letter_106 : decode cX10_letter 106 = .ok (.ireturn, 1) := by decide +kernel
theorem dX10_letter_107 : decode cX10_letter 107 = .ok (.bipush (-2), 2) := by decide +kernel
theorem dX10_letter_109 : decode cX10_letter 109 = .ok (.ireturn, 1) := by decide +kernel
theorem dX10_deed_0 : decode cX10_deed 0 = .ok (.aload_n 0, 1) := by decide +kernel
theorem dX10_deed_1 : decode cX10_deed 1 = .ok (.iload_n 1, 1) := by decide +kernel
theorem dX10_deed_2 : decode cX10_deed 2 = .ok (.invokevirtual 205, 3) := by decide +kernel
theorem dX10_deed_5 : decode cX10_deed 5 = .ok (.ifCond .ne 6, 3) := by decide +kernel
theorem dX10_deed_8 : decode cX10_deed 8 = .ok (.bipush (-2), 2) := by decide +kernel
theorem dX10_deed_10 : decode cX10_deed 10 = .ok (.ireturn, 1) := by decide +kernel
theorem dX10_deed_11 : decode cX10_deed 11 = .ok (.aload_n 0, 1) := by decide +kernel
theorem dX10_deed_12 : decode cX10_deed 12 = .ok (.getfield 19, 3) := by decide +kernel
theorem dX10_deed_15 : decode cX10_deed 15 = .ok (.getfield 217, 3) := by decide +kernel
theorem dX10_deed_18 : decode cX10_deed 18 = .ok (.iload_n 1, 1) := by decide +kernel
theorem dX10_deed_19 : decode cX10_deed 19 = .ok (.iaload, 1) := by decide +kernel
theorem dX10_deed_20 : decode cX10_deed 20 = .ok (.istore_n 3, 1) := by decide +kernel
theorem dX10_deed_21 : decode cX10_deed 21 = .ok (.iload_n 2, 1) := by decide +kernel
theorem dX10_deed_22 : decode cX10_deed 22 = .ok (.tableswitch 115 0 7 #[46, 48, 58, 68, 78, 88, 97, 106], 46) := by decide +kernel
theorem dX10_deed_68 : decode cX10_deed 68 = .ok (.iload_n 3, 1) := by decide +kernel
theorem dX10_deed_69 : decode cX10_deed 69 = .ok (.ireturn, 1) := by decide +kernel
theorem dX10_deed_70 : decode cX10_deed 70 = .ok (.aload_n 0, 1) := by decide +kernel
theorem dX10_deed_71 : decode cX10_deed 71 = .ok (.getfield 19, 3) := by decide +kernel
theorem dX10_deed_74 : decode cX10_deed 74 = .ok (.getfield 261, 3) := by decide +kernel
theorem dX10_deed_77 : decode cX10_deed 77 = .ok (.iload_n 1, 1) := by decide +kernel
theorem dX10_deed_78 : decode cX10_deed 78 = .ok (.iaload, 1) := by decide +kernel
theorem dX10_deed_79 : decode cX10_deed 79 = .ok (.ireturn, 1) := by decide +kernel
theorem dX10_deed_80 : decode cX10_deed 80 = .ok (.aload_n 0, 1) := by decide +kernel
theorem dX10_deed_81 : decode cX10_deed 81 = .ok (.getfield 12, 3) := by decide +kernel
theorem dX10_deed_84 : decode cX10_deed 84 = .ok (.getfield 211, 3) := by decide +kernel
theorem dX10_deed_87 : decode cX10_deed 87 = .ok (.iload_n 1, 1) := by decide +kernel
theorem dX10_deed_88 : decode cX10_deed 88 = .ok (.iaload, 1) := by decide +kernel
theorem dX10_deed_89 : decode cX10_deed 89 = .ok (.ireturn, 1) := by decide +kernel
theorem dX10_deed_90 : decode cX10_deed 90 = .ok (.aload_n 0, 1) := by decide +kernel
theorem dX10_deed_91 : decode cX10_deed 91 = .ok (.getfield 12, 3) := by decide +kernel
theorem dX10_deed_94 : decode cX10_deed 94 = .ok (.getfield 214, 3) := by decide +kernel
theorem dX10_deed_97 : decode cX10_deed 97 = .ok (.iload_n 1, 1) := by decide +kernel
theorem dX10_deed_98 : decode cX10_deed 98 = .ok (.iaload, 1) := by decide +kernel
theorem dX10_deed_99 : decode cX10_deed 99 = .ok (.ireturn, 1) := by decide +kernel
theorem dX10_deed_100 : decode cX10_deed 100 = .ok (.aload_n 0, 1) := by decide +kernel
theorem dX10_deed_101 : decode cX10_deed 101 = .ok (.getfield 12, 3) := by decide +kernel
theorem dX10_deed_104 : decode cX10_deed 104 = .ok (.getfield 223, 3) := by decide +kernel
theorem dX10_deed_107 : decode cX10_deed 107 = .ok (.iload_n 1, 1) := by decide +kernel
theorem dX10_deed_108 : decode cX10_deed 108 = .ok (.iaload, 1) := by decide +kernel
theorem dX10_deed_109 : decode cX10_deed 109 = .ok (.ireturn, 1) := by decide +kernel
theorem dX10_deed_110 : decode cX10_deed 110 = .ok (.aload_n 0, 1) := by decide +kernel
theorem dX10_deed_111 : decode cX10_deed 111 = .ok (.getfield 42, 3) := by decide +kernel
theorem dX10_deed_114 : decode cX10_deed 114 = .ok (.iload_n 3, 1) := by decide +kernel
theorem dX10_deed_115 : decode cX10_deed 115 = .ok (.invokevirtual 264, 3) := by decide +kernel
theorem dX10_deed_118 : decode cX10_deed 118 = .ok (.ireturn, 1) := by decide +kernel
theorem dX10_deed_119 : decode cX10_deed 119 = .ok (.aload_n 0, 1) := by decide +kernel
theorem dX10_deed_120 : decode cX10_deed 120 = .ok (.getfield 42, 3) := by decide +kernel
theorem dX10_deed_123 : decode cX10_deed 123 = .ok (.iload_n 3, 1) := by decide +kernel
theorem dX10_deed_124 : decode cX10_deed 124 = .ok (.invokevirtual 252, 3) := by decide +kernel
theorem dX10_deed_127 : decode cX10_deed 127 = .ok (.ireturn, 1) := by decide +kernel
theorem dX10_deed_128 : decode cX10_deed 128 = .ok (.aload_n 0, 1) := by decide +kernel
theorem dX10_deed_129 : decode cX10_deed 129 = .ok (.getfield 42, 3) := by decide +kernel
theorem dX10_deed_132 : decode cX10_deed 132 = .ok (.iload_n 3, 1) := by decide +kernel
theorem dX10_deed_133 : decode cX10_deed 133 = .ok (.invokevirtual 267, 3) := by decide +kernel
theorem dX10_deed_136 : decode cX10_deed 136 = .ok (.ireturn, 1) := by decide +kernel
theorem dX10_deed_137 : decode cX10_deed 137 = .ok (.bipush (-2), 2) := by decide +kernel
theorem dX10_deed_139 : decode cX10_deed 139 = .ok (.ireturn, 1) := by decide +kernel
theorem dX10_at_0 : decode cX10_at 0 = .ok (.aload_n 0, 1) := by decide +kernel
theorem dX10_at_1 : decode cX10_at 1 = .ok (.iload_n 1, 1) := by decide +kernel
theorem dX10_at_2 : decode cX10_at 2 = .ok (.invokevirtual 205, 3) := by decide +kernel
theorem dX10_at_5 : decode cX10_at 5 = .ok (.ifCond .eq 20, 3) := by decide +kernel
theorem dX10_at_8 : decode cX10_at 8 = .ok (.iload_n 2, 1) := by decide +kernel
theorem dX10_at_9 : decode cX10_at 9 = .ok (.ifCond .lt 16, 3) := by decide +kernel
theorem dX10_at_12 : decode cX10_at 12 = .ok (.iload_n 2, 1) := by decide +kernel
theorem dX10_at_13 : decode cX10_at 13 = .ok (.aload_n 0, 1) := by decide +kernel
theorem dX10_at_14 : decode cX10_at 14 = .ok (.getfield 19, 3) := by decide +kernel
theorem dX10_at_17 : decode cX10_at 17 = .ok (.getfield 261, 3) := by decide +kernel
theorem dX10_at_20 : decode cX10_at 20 = .ok (.iload_n 1, 1) := by decide +kernel
theorem dX10_at_21 : decode cX10_at 21 = .ok (.iaload, 1) := by decide +kernel
theorem dX10_at_22 : decode cX10_at 22 = .ok (.if_icmp .lt 5, 3) := by decide +kernel
theorem dX10_at_25 : decode cX10_at 25 = .ok (.iconst (-1), 1) := by decide +kernel
theorem dX10_at_26 : decode cX10_at 26 = .ok (.ireturn, 1) := by decide +kernel
theorem dX10_at_27 : decode cX10_at 27 = .ok (.aload_n 0, 1) := by decide +kernel
theorem dX10_at_28 : decode cX10_at 28 = .ok (.getfield 19, 3) := by decide +kernel
theorem dX10_at_31 : decode cX10_at 31 = .ok (.getfield 270, 3) := by decide +kernel
theorem dX10_at_34 : decode cX10_at 34 = .ok (.iload_n 1, 1) := by decide +kernel
theorem dX10_at_35 : decode cX10_at 35 = .ok (.bipush 40, 2) := by decide +kernel
theorem dX10_at_37 : decode cX10_at 37 = .ok (.imul, 1) := by decide +kernel
theorem dX10_at_38 : decode cX10_at 38 = .ok (.iload_n 2, 1) := by decide +kernel
theorem dX10_at_39 : decode cX10_at 39 = .ok (.iadd, 1) := by decide +kernel
theorem dX10_at_40 : decode cX10_at 40 = .ok (.iaload, 1) := by decide +kernel
theorem dX10_at_41 : decode cX10_at 41 = .ok (.ireturn, 1) := by decide +kernel
theorem dX10_book_0 : decode cX10_book 0 = .ok (.iload_n 1, 1) := by decide +kernel
theorem dX10_book_1 : decode cX10_book 1 = .ok (.ifCond .lt 23, 3) := by decide +kernel
theorem dX10_book_4 : decode cX10_book 4 = .ok (.iload_n 1, 1) := by decide +kernel
theorem dX10_book_5 : decode cX10_book 5 = .ok (.aload_n 0, 1) := by decide +kernel
theorem dX10_book_6 : decode cX10_book 6 = .ok (.getfield 26, 3) := by decide +kernel
theorem dX10_book_9 : decode cX10_book 9 = .ok (.getfield 273, 3) := by decide +kernel
theorem dX10_book_12 : decode cX10_book 12 = .ok (.if_icmp .ge 12, 3) := by decide +kernel
theorem dX10_book_15 : decode cX10_book 15 = .ok (.iload_n 2, 1) := by decide +kernel
theorem dX10_book_16 : decode cX10_book 16 = .ok (.ifCond .lt 8, 3) := by decide +kernel
theorem dX10_book_19 : decode cX10_book 19 = .ok (.iload_n 2, 1) := by decide +kernel
theorem dX10_book_20 : decode cX10_book 20 = .ok (.iconst 5, 1) := by decide +kernel
theorem dX10_book_21 : decode cX10_book 21 = .ok (.if_icmp .lt 6, 3) := by decide +kernel
theorem dX10_book_24 : decode cX10_book 24 = .ok (.bipush (-2), 2) := by decide +kernel
theorem dX10_book_26 : decode cX10_book 26 = .ok (.ireturn, 1) := by decide +kernel
theorem dX10_book_27 : decode cX10_book 27 = .ok (.aload_n 0, 1) := by decide +kernel
theorem dX10_book_28 : decode cX10_book 28 = .ok (.getfield 26, 3) := by decide +kernel
theorem dX10_book_31 : decode cX10_book 31 = .ok (.getfield 276, 3) := by decide +kernel
theorem dX10_book_34 : decode cX10_book 34 = .ok (.iload_n 1, 1) := by decide +kernel
theorem dX10_book_35 : decode cX10_book 35 = .ok (.iconst 5, 1) := by decide +kernel
theorem dX10_book_36 : decode cX10_book 36 = .ok (.imul, 1) := by decide +kernel
theorem dX10_book_37 : decode cX10_book 37 = .ok (.iload_n 2, 1) := by decide +kernel
theorem dX10_book_38 : decode cX10_book 38 = .ok (.iadd, 1) := by decide +kernel
theorem dX10_book_39 : decode cX10_book 39 = .ok (.iaload, 1) := by decide +kernel
theorem dX10_book_40 : decode cX10_book 40 = .ok (.ireturn, 1) := by decide +kernel
theorem dX10_trace_0 : decode cX10_trace 0 = .ok (.iload_n 1, 1) := by decide +kernel
theorem dX10_trace_1 : decode cX10_trace 1 = .ok (.invokestatic 127, 3) := by decide +kernel
theorem dX10_trace_4 : decode cX10_trace 4 = .ok (.ifCond .eq 7, 3) := by decide +kernel
theorem dX10_trace_7 : decode cX10_trace 7 = .ok (.iload_n 2, 1) := by decide +kernel
theorem dX10_trace_8 : decode cX10_trace 8 = .ok (.ifCond .ge 5, 3) := by decide +kernel
theorem dX10_trace_11 : decode cX10_trace 11 = .ok (.iconst (-1), 1) := by decide +kernel
theorem dX10_trace_12 : decode cX10_trace 12 = .ok (.ireturn, 1) := by decide +kernel
theorem dX10_trace_13 : decode cX10_trace 13 = .ok (.aload_n 0, 1) := by decide +kernel
theorem dX10_trace_14 : decode cX10_trace 14 = .ok (.getfield 26, 3) := by decide +kernel
theorem dX10_trace_17 : decode cX10_trace 17 = .ok (.iload_n 1, 1) := by decide +kernel
theorem dX10_trace_18 : decode cX10_trace 18 = .ok (.iload_n 2, 1) := by decide +kernel
theorem dX10_trace_19 : decode cX10_trace 19 = .ok (.invokevirtual 279, 3) := by decide +kernel
theorem dX10_trace_22 : decode cX10_trace 22 = .ok (.ireturn, 1) := by decide +kernel
theorem dX10_look_0 : decode cX10_look 0 = .ok (.iload_n 1, 1) := by decide +kernel
theorem dX10_look_1 : decode cX10_look 1 = .ok (.tableswitch 151 0 10 #[59, 67, 75, 83, 91, 99, 107, 115, 126, 134, 143], 59) := by decide +kernel
theorem dX10_look_60 : decode cX10_look 60 = .ok (.aload_n 0, 1) := by decide +kernel
theorem dX10_look_61 : decode cX10_look 61 = .ok (.getfield 12, 3) := by decide +kernel
theorem dX10_look_64 : decode cX10_look 64 = .ok (.getfield 89, 3) := by decide +kernel
theorem dX10_look_67 : decode cX10_look 67 = .ok (.ireturn, 1) := by decide +kernel
theorem dX10_look_68 : decode cX10_look 68 = .ok (.aload_n 0, 1) := by decide +kernel
theorem dX10_look_69 : decode cX10_look 69 = .ok (.getfield 12, 3) := by decide +kernel
theorem dX10_look_72 : decode cX10_look 72 = .ok (.getfield 208, 3) := by decide +kernel
theorem dX10_look_75 : decode cX10_look 75 = .ok (.ireturn, 1) := by decide +kernel
theorem dX10_look_76 : decode cX10_look 76 = .ok (.aload_n 0, 1) := by decide +kernel
theorem dX10_look_77 : decode cX10_look 77 = .ok (.getfield 12, 3) := by decide +kernel
theorem dX10_look_80 : decode cX10_look 80 = .ok (.getfield 111, 3) := by decide +kernel
theorem dX10_look_83 : decode cX10_look 83 = .ok (.ireturn, 1) := by decide +kernel
theorem dX10_look_84 : decode cX10_look 84 = .ok (.aload_n 0, 1) := by decide +kernel
theorem dX10_look_85 : decode cX10_look 85 = .ok (.getfield 12, 3) := by decide +kernel
theorem dX10_look_88 : decode cX10_look 88 = .ok (.getfield 101, 3) := by decide +kernel
theorem dX10_look_91 : decode cX10_look 91 = .ok (.ireturn, 1) := by decide +kernel
theorem dX10_look_92 : decode cX10_look 92 = .ok (.aload_n 0, 1) := by decide +kernel
theorem dX10_look_93 : decode cX10_look 93 = .ok (.getfield 19, 3) := by decide +kernel
theorem dX10_look_96 : decode cX10_look 96 = .ok (.getfield 158, 3) := by decide +kernel
theorem dX10_look_99 : decode cX10_look 99 = .ok (.ireturn, 1) := by decide +kernel
theorem dX10_look_100 : decode cX10_look 100 = .ok (.aload_n 0, 1) := by decide +kernel
theorem dX10_look_101 : decode cX10_look 101 = .ok (.getfield 26, 3) := by decide +kernel
theorem dX10_look_104 : decode cX10_look 104 = .ok (.getfield 273, 3) := by decide +kernel
theorem dX10_look_107 : decode cX10_look 107 = .ok (.ireturn, 1) := by decide +kernel
theorem dX10_look_108 : decode cX10_look 108 = .ok (.aload_n 0, 1) := by decide +kernel
theorem dX10_look_109 : decode cX10_look 109 = .ok (.getfield 12, 3) := by decide +kernel
theorem dX10_look_112 : decode cX10_look 112 = .ok (.getfield 82, 3) := by decide +kernel
theorem dX10_look_115 : decode cX10_look 115 = .ok (.ireturn, 1) := by decide +kernel
theorem dX10_look_116 : decode cX10_look 116 = .ok (.aload_n 0, 1) := by decide +kernel
theorem dX10_look_117 : decode cX10_look 117 = .ok (.getfield 19, 3) := by decide +kernel
theorem dX10_look_120 : decode cX10_look 120 = .ok (.getfield 147, 3) := by decide +kernel
theorem dX10_look_123 : decode cX10_look 123 = .ok (.getfield 282, 3) := by decide +kernel
theorem dX10_look_126 : decode cX10_look 126 = .ok (.ireturn, 1) := by decide +kernel
theorem dX10_look_127 : decode cX10_look 127 = .ok (.aload_n 0, 1) := by decide +kernel
theorem dX10_look_128 : decode cX10_look 128 = .ok (.getfield 33, 3) := by decide +kernel
theorem dX10_look_131 : decode cX10_look 131 = .ok (.getfield 285, 3) := by decide +kernel
theorem dX10_look_134 : decode cX10_look 134 = .ok (.ireturn, 1) := by decide +kernel
theorem dX10_look_135 : decode cX10_look 135 = .ok (.aload_n 0, 1) := by decide +kernel
theorem dX10_look_136 : decode cX10_look 136 = .ok (.getfield 12, 3) := by decide +kernel
theorem dX10_look_139 : decode cX10_look 139 = .ok (.iconst (-1), 1) := by decide +kernel
theorem dX10_look_140 : decode cX10_look 140 = .ok (.invokevirtual 239, 3) := by decide +kernel
theorem dX10_look_143 : decode cX10_look 143 = .ok (.ireturn, 1) := by decide +kernel
theorem dX10_look_144 : decode cX10_look 144 = .ok (.aload_n 0, 1) := by decide +kernel
theorem dX10_look_145 : decode cX10_look 145 = .ok (.getfield 12, 3) := by decide +kernel
theorem dX10_look_148 : decode cX10_look 148 = .ok (.invokevirtual 288, 3) := by decide +kernel
theorem dX10_look_151 : decode cX10_look 151 = .ok (.ireturn, 1) := by decide +kernel
theorem dX10_look_152 : decode cX10_look 152 = .ok (.bipush (-2), 2) := by decide +kernel
theorem dX10_look_154 : decode cX10_look 154 = .ok (.ireturn, 1) := by decide +kernel
theorem dX10_weddings_0 : decode cX10_weddings 0 = .ok (.aload_n 0, 1) := by decide +kernel
theorem dX10_weddings_1 : decode cX10_weddings 1 = .ok (.getfield 12, 3) := by decide +kernel
theorem dX10_weddings_4 : decode cX10_weddings 4 = .ok (.iload_n 1, 1) := by decide +kernel
theorem dX10_weddings_5 : decode cX10_weddings 5 = .ok (.invokevirtual 104, 3) := by decide +kernel
theorem dX10_weddings_8 : decode cX10_weddings 8 = .ok (.ifCond .eq 20, 3) := by decide +kernel
theorem dX10_weddings_11 : decode cX10_weddings 11 = .ok (.aload_n 0, 1) := by decide +kernel
theorem dX10_weddings_12 : decode cX10_weddings 12 = .ok (.iload_n 2, 1) := by decide +kernel
theorem dX10_weddings_13 : decode cX10_weddings 13 = .ok (.invokevirtual 205, 3) := by decide +kernel
theorem dX10_weddings_16 : decode cX10_weddings 16 = .ok (.ifCond .eq 12, 3) := by decide +kernel
theorem dX10_weddings_19 : decode cX10_weddings 19 = .ok (.iload_n 3, 1) := by decide +kernel
theorem dX10_weddings_20 : decode cX10_weddings 20 = .ok (.ifCond .lt 8, 3) := by decide +kernel
theorem dX10_weddings_23 : decode cX10_weddings 23 = .ok (.iload_n 3, 1) := by decide +kernel
theorem dX10_weddings_24 : decode cX10_weddings 24 = .ok (.iconst 4, 1) := by decide +kernel
theorem dX10_weddings_25 : decode cX10_weddings 25 = .ok (.if_icmp .le 5, 3) := by decide +kernel
theorem dX10_weddings_28 : decode cX10_weddings 28 = .ok (.iconst (-1), 1) := by decide +kernel
theorem dX10_weddings_29 : decode cX10_weddings 29 = .ok (.ireturn, 1) := by decide +kernel
theorem dX10_weddings_30 : decode cX10_weddings 30 = .ok (.aload_n 0, 1) := by decide +kernel
theorem dX10_weddings_31 : decode cX10_weddings 31 = .ok (.getfield 42, 3) := by decide +kernel
theorem dX10_weddings_34 : decode cX10_weddings 34 = .ok (.iload_n 1, 1) := by decide +kernel
theorem dX10_weddings_35 : decode cX10_weddings 35 = .ok (.aload_n 0, 1) := by decide +kernel
theorem dX10_weddings_36 : decode cX10_weddings 36 = .ok (.getfield 19, 3) := by decide +kernel
theorem dX10_weddings_39 : decode cX10_weddings 39 = .ok (.getfield 217, 3) := by decide +kernel
theorem dX10_weddings_42 : decode cX10_weddings 42 = .ok (.iload_n 2, 1) := by decide +kernel
theorem dX10_weddings_43 : decode cX10_weddings 43 = .ok (.iaload, 1) := by decide +kernel
theorem dX10_weddings_44 : decode cX10_weddings 44 = .ok (.iload_n 3, 1) := by decide +kernel
theorem dX10_weddings_45 : decode cX10_weddings 45 = .ok (.invokevirtual 292, 3) := by decide +kernel
theorem dX10_weddings_48 : decode cX10_weddings 48 = .ok (.ireturn, 1) := by decide +kernel
theorem dX10_whenCan_0 : decode cX10_whenCan 0 = .ok (.aload_n 0, 1) := by decide +kernel
theorem dX10_whenCan_1 : decode cX10_whenCan 1 = .ok (.getfield 12, 3) := by decide +kernel
theorem dX10_whenCan_4 : decode cX10_whenCan 4 = .ok (.iload_n 1, 1) := by decide +kernel
theorem dX10_whenCan_5 : decode cX10_whenCan 5 = .ok (.invokevirtual 104, 3) := by decide +kernel
theorem dX10_whenCan_8 : decode cX10_whenCan 8 = .ok (.ifCond .eq 11, 3) := by decide +kernel
theorem dX10_whenCan_11 : decode cX10_whenCan 11 = .ok (.aload_n 0, 1) := by decide +kernel
theorem dX10_whenCan_12 : decode cX10_whenCan 12 = .ok (.iload_n 2, 1) := by decide +kernel
theorem dX10_whenCan_13 : decode cX10_whenCan 13 = .ok (.invokevirtual 205, 3) := by decide +kernel
theorem dX10_whenCan_16 : decode cX10_whenCan 16 = .ok (.ifCond .ne 5, 3) := by decide +kernel
theorem dX10_whenCan_19 : decode cX10_whenCan 19 = .ok (.iconst (-1), 1) := by decide +kernel
theorem dX10_whenCan_20 : decode cX10_whenCan 20 = .ok (.ireturn, 1) := by decide +kernel
theorem dX10_whenCan_21 : decode cX10_whenCan 21 = .ok (.aload_n 0, 1) := by decide +kernel
theorem dX10_whenCan_22 : decode cX10_whenCan 22 = .ok (.getfield 42, 3) := by decide +kernel
theorem dX10_whenCan_25 : decode cX10_whenCan 25 = .ok (.iload_n 1, 1) := by decide +kernel
theorem dX10_whenCan_26 : decode cX10_whenCan 26 = .ok (.aload_n 0, 1) := by decide +kernel
theorem dX10_whenCan_27 : decode cX10_whenCan 27 = .ok (.getfield 19, 3) := by decide +kernel
theorem dX10_whenCan_30 : decode cX10_whenCan 30 = .ok (.getfield 217, 3) := by decide +kernel
theorem dX10_whenCan_33 : decode cX10_whenCan 33 = .ok (.iload_n 2, 1) := by decide +kernel
theorem dX10_whenCan_34 : decode cX10_whenCan 34 = .ok (.iaload, 1) := by decide +kernel
theorem dX10_whenCan_35 : decode cX10_whenCan 35 = .ok (.invokevirtual 295, 3) := by decide +kernel
theorem dX10_whenCan_38 : decode cX10_whenCan 38 = .ok (.ireturn, 1) := by decide +kernel
theorem dX10_hand_0 : decode cX10_hand 0 = .ok (.iload_n 1, 1) := by decide +kernel
theorem dX10_hand_1 : decode cX10_hand 1 = .ok (.iconst 1, 1) := by decide +kernel
theorem dX10_hand_2 : decode cX10_hand 2 = .ok (.if_icmp .lt 10, 3) := by decide +kernel
theorem dX10_hand_5 : decode cX10_hand 5 = .ok (.iload_n 1, 1) := by decide +kernel
theorem dX10_hand_6 : decode cX10_hand 6 = .ok (.ldc_w 298, 3) := by decide +kernel
theorem dX10_hand_9 : decode cX10_hand 9 = .ok (.if_icmp .le 5, 3) := by decide +kernel
theorem dX10_hand_12 : decode cX10_hand 12 = .ok (.iconst (-1), 1) := by decide +kernel
theorem dX10_hand_13 : decode cX10_hand 13 = .ok (.ireturn, 1) := by decide +kernel
theorem dX10_hand_14 : decode cX10_hand 14 = .ok (.aload_n 0, 1) := by decide +kernel
theorem dX10_hand_15 : decode cX10_hand 15 = .ok (.getfield 42, 3) := by decide +kernel
theorem dX10_hand_18 : decode cX10_hand 18 = .ok (.iload_n 1, 1) := by decide +kernel
theorem dX10_hand_19 : decode cX10_hand 19 = .ok (.invokevirtual 252, 3) := by decide +kernel
theorem dX10_hand_22 : decode cX10_hand 22 = .ok (.ireturn, 1) := by decide +kernel
theorem dX10_inherit_0 : decode cX10_inherit 0 = .ok (.iload_n 2, 1) := by decide +kernel
theorem dX10_inherit_1 : decode cX10_inherit 1 = .ok (.invokestatic 127, 3) := by decide +kernel
theorem dX10_inherit_4 : decode cX10_inherit 4 = .ok (.ifCond .eq 27, 3) := by decide +kernel
theorem dX10_inherit_7 : decode cX10_inherit 7 = .ok (.aload_n 0, 1) := by decide +kernel
theorem dX10_inherit_8 : decode cX10_inherit 8 = .ok (.getfield 12, 3) := by decide +kernel
theorem dX10_inherit_11 : decode cX10_inherit 11 = .ok (.iload_n 1, 1) := by decide +kernel
theorem dX10_inherit_12 : decode cX10_inherit 12 = .ok (.invokevirtual 104, 3) := by decide +kernel
theorem dX10_inherit_15 : decode cX10_inherit 15 = .ok (.ifCond .eq 16, 3) := by decide +kernel
theorem dX10_inherit_18 : decode cX10_inherit 18 = .ok (.aload_n 0, 1) := by decide +kernel
theorem dX10_inherit_19 : decode cX10_inherit 19 = .ok (.getfield 12, 3) := by decide +kernel
theorem dX10_inherit_22 : decode cX10_inherit 22 = .ok (.getfield 192, 3) := by decide +kernel
theorem dX10_inherit_25 : decode cX10_inherit 25 = .ok (.iload_n 2, 1) := by decide +kernel
theorem dX10_inherit_26 : decode cX10_inherit 26 = .ok (.iaload, 1) := by decide +kernel
theorem dX10_inherit_27 : decode cX10_inherit 27 = .ok (.iload_n 1, 1) := by decide +kernel
theorem dX10_inherit_28 : decode cX10_inherit 28 = .ok (.if_icmp .eq 6, 3) := by decide +kernel
theorem dX10_inherit_31 : decode cX10_inherit 31 = .ok (.bipush (-2), 2) := by decide +kernel
theorem dX10_inherit_33 : decode cX10_inherit 33 = .ok (.ireturn, 1) := by decide +kernel
theorem dX10_inherit_34 : decode cX10_inherit 34 = .ok (.iload_n 3, 1) := by decide +kernel
theorem dX10_inherit_35 : decode cX10_inherit 35 = .ok (.ifCond .ne 13, 3) := by decide +kernel
theorem dX10_inherit_38 : decode cX10_inherit 38 = .ok (.aload_n 0, 1) := by decide +kernel
theorem dX10_inherit_39 : decode cX10_inherit 39 = .ok (.getfield 42, 3) := by decide +kernel
theorem dX10_inherit_42 : decode cX10_inherit 42 = .ok (.iload_n 1, 1) := by decide +kernel
theorem dX10_inherit_43 : decode cX10_inherit 43 = .ok (.iload_n 2, 1) := by decide +kernel
theorem dX10_inherit_44 : decode cX10_inherit 44 = .ok (.invokevirtual 299, 3) := by decide +kernel
theorem dX10_inherit_47 : decode cX10_inherit 47 = .ok (.ireturn, 1) := by decide +kernel
theorem dX10_inherit_48 : decode cX10_inherit 48 = .ok (.iload_n 3, 1) := by decide +kernel
theorem dX10_inherit_49 : decode cX10_inherit 49 = .ok (.iconst 1, 1) := by decide +kernel
theorem dX10_inherit_50 : decode cX10_inherit 50 = .ok (.if_icmp .ne 29, 3) := by decide +kernel
theorem dX10_inherit_53 : decode cX10_inherit 53 = .ok (.aload_n 0, 1) := by decide +kernel
theorem dX10_inherit_54 : decode cX10_inherit 54 = .ok (.getfield 19, 3) := by decide +kernel
theorem dX10_inherit_57 : decode cX10_inherit 57 = .ok (.iload_n 1, 1) := by decide +kernel
theorem dX10_inherit_58 : decode cX10_inherit 58 = .ok (.iload_n 2, 1) := by decide +kernel
theorem dX10_inherit_59 : decode cX10_inherit 59 = .ok (.aload_n 0, 1) := by decide +kernel
theorem dX10_inherit_60 : decode cX10_inherit 60 = .ok (.getfield 12, 3) := by decide +kernel
theorem dX10_inherit_63 : decode cX10_inherit 63 = .ok (.getfield 208, 3) := by decide +kernel
theorem dX10_inherit_66 : decode cX10_inherit 66 = .ok (.invokevirtual 302, 3) := by decide +kernel
theorem dX10_inherit_69 : decode cX10_inherit 69 = .ok (.iconst (-1), 1) := by decide +kernel
theorem dX10_inherit_70 : decode cX10_inherit 70 = .ok (.if_icmp .ne 7, 3) := by decide +kernel
theorem dX10_inherit_73 : decode cX10_inherit 73 = .ok (.iconst 0, 1) := by decide +kernel
theorem dX10_inherit_74 : decode cX10_inherit 74 = .ok (.goto 4, 3) := by decide +kernel
theorem dX10_inherit_77 : decode cX10_inherit 77 = .ok (.iconst 1, 1) := by decide +kernel
theorem dX10_inherit_78 : decode cX10_inherit 78 = .ok (.ireturn, 1) := by decide +kernel
theorem dX10_inherit_79 : decode cX10_inherit 79 = .ok (.bipush (-2), 2) := by decide +kernel
theorem dX10_inherit_81 : decode cX10_inherit 81 = .ok (.ireturn, 1) := by decide +kernel
theorem dX10_worth_0 : decode cX10_worth 0 = .ok (.iload_n 3, 1) := by decide +kernel
theorem dX10_worth_1 : decode cX10_worth 1 = .ok (.invokestatic 127, 3) := by decide +kernel
theorem dX10_worth_4 : decode cX10_worth 4 = .ok (.ifCond .eq 30, 3) := by decide +kernel
theorem dX10_worth_7 : decode cX10_worth 7 = .ok (.iload_n 1, 1) := by decide +kernel
theorem dX10_worth_8 : decode cX10_worth 8 = .ok (.iload_n 2, 1) := by decide +kernel
theorem dX10_worth_9 : decode cX10_worth 9 = .ok (.if_icmp .eq 25, 3) := by decide +kernel
theorem dX10_worth_12 : decode cX10_worth 12 = .ok (.aload_n 0, 1) := by decide +kernel
theorem dX10_worth_13 : decode cX10_worth 13 = .ok (.getfield 12, 3) := by decide +kernel
theorem dX10_worth_16 : decode cX10_worth 16 = .ok (.iload_n 1, 1) := by decide +kernel
theorem dX10_worth_17 : decode cX10_worth 17 = .ok (.invokevirtual 104, 3) := by decide +kernel
theorem dX10_worth_20 : decode cX10_worth 20 = .ok (.ifCond .eq 14, 3) := by decide +kernel
theorem dX10_worth_23 : decode cX10_worth 23 = .ok (.aload_n 0, 1) := by decide +kernel
theorem dX10_worth_24 : decode cX10_worth 24 = .ok (.getfield 12, 3) := by decide +kernel
theorem dX10_worth_27 : decode cX10_worth 27 = .ok (.iload_n 2, 1) := by decide +kernel
theorem dX10_worth_28 : decode cX10_worth 28 = .ok (.invokevirtual 104, 3) := by decide +kernel
theorem dX10_worth_31 : decode cX10_worth 31 = .ok (.ifCond .ne 5, 3) := by decide +kernel
theorem dX10_worth_34 : decode cX10_worth 34 = .ok (.iconst 0, 1) := by decide +kernel
theorem dX10_worth_35 : decode cX10_worth 35 = .ok (.ireturn, 1) := by decide +kernel
theorem dX10_worth_36 : decode cX10_worth 36 = .ok (.aload_n 0, 1) := by decide +kernel
theorem dX10_worth_37 : decode cX10_worth 37 = .ok (.getfield 19, 3) := by decide +kernel
theorem dX10_worth_40 : decode cX10_worth 40 = .ok (.getfield 147, 3) := by decide +kernel
theorem dX10_worth_43 : decode cX10_worth 43 = .ok (.aload_n 0, 1) := by decide +kernel
theorem dX10_worth_44 : decode cX10_worth 44 = .ok (.getfield 12, 3) := by decide +kernel
theorem dX10_worth_47 : decode cX10_worth 47 = .ok (.iload_n 1, 1) := by decide +kernel
theorem dX10_worth_48 : decode cX10_worth 48 = .ok (.iload_n 2, 1) := by decide +kernel
theorem dX10_worth_49 : decode cX10_worth 49 = .ok (.iload_n 3, 1) := by decide +kernel
theorem dX10_worth_50 : decode cX10_worth 50 = .ok (.invokevirtual 305, 3) := by decide +kernel
theorem dX10_worth_53 : decode cX10_worth 53 = .ok (.ireturn, 1) := by decide +kernel
theorem dX10_silent_0 : decode cX10_silent 0 = .ok (.aload_n 0, 1) := by decide +kernel
theorem dX10_silent_1 : decode cX10_silent 1 = .ok (.getfield 12, 3) := by decide +kernel
theorem dX10_silent_4 : decode cX10_silent 4 = .ok (.iload_n 1, 1) := by decide +kernel
theorem dX10_silent_5 : decode cX10_silent 5 = .ok (.invokevirtual 104, 3) := by decide +kernel
theorem dX10_silent_8 : decode cX10_silent 8 = .ok (.ifCond .ne 5, 3) := by decide +kernel
theorem dX10_silent_11 : decode cX10_silent 11 = .ok (.iconst (-1), 1) := by decide +kernel
theorem dX10_silent_12 : decode cX10_silent 12 = .ok (.ireturn, 1) := by decide +kernel
theorem dX10_silent_13 : decode cX10_silent 13 = .ok (.aload_n 0, 1) := by decide +kernel
theorem dX10_silent_14 : decode cX10_silent 14 = .ok (.getfield 42, 3) := by decide +kernel
theorem dX10_silent_17 : decode cX10_silent 17 = .ok (.iload_n 1, 1) := by decide +kernel
theorem dX10_silent_18 : decode cX10_silent 18 = .ok (.invokevirtual 309, 3) := by decide +kernel
theorem dX10_silent_21 : decode cX10_silent 21 = .ok (.ireturn, 1) := by decide +kernel
theorem dX10_best_0 : decode cX10_best 0 = .ok (.aload_n 0, 1) := by decide +kernel
theorem dX10_best_1 : decode cX10_best 1 = .ok (.getfield 12, 3) := by decide +kernel
theorem dX10_best_4 : decode cX10_best 4 = .ok (.iload_n 1, 1) := by decide +kernel
theorem dX10_best_5 : decode cX10_best 5 = .ok (.invokevirtual 104, 3) := by decide +kernel
theorem dX10_best_8 : decode cX10_best 8 = .ok (.ifCond .eq 12, 3) := by decide +kernel
theorem dX10_best_11 : decode cX10_best 11 = .ok (.iload_n 2, 1) := by decide +kernel
theorem dX10_best_12 : decode cX10_best 12 = .ok (.ifCond .lt 8, 3) := by decide +kernel
theorem dX10_best_15 : decode cX10_best 15 = .ok (.iload_n 2, 1) := by decide +kernel
theorem dX10_best_16 : decode cX10_best 16 = .ok (.iconst 1, 1) := by decide +kernel
theorem dX10_best_17 : decode cX10_best 17 = .ok (.if_icmp .le 5, 3) := by decide +kernel
theorem dX10_best_20 : decode cX10_best 20 = .ok (.iconst (-1), 1) := by decide +kernel
theorem dX10_best_21 : decode cX10_best 21 = .ok (.ireturn, 1) := by decide +kernel
theorem dX10_best_22 : decode cX10_best 22 = .ok (.aload_n 0, 1) := by decide +kernel
theorem dX10_best_23 : decode cX10_best 23 = .ok (.getfield 42, 3) := by decide +kernel
theorem dX10_best_26 : decode cX10_best 26 = .ok (.iload_n 1, 1) := by decide +kernel
theorem dX10_best_27 : decode cX10_best 27 = .ok (.iload_n 2, 1) := by decide +kernel
theorem dX10_best_28 : decode cX10_best 28 = .ok (.invokevirtual 312, 3) := by decide +kernel
theorem dX10_best_31 : decode cX10_best 31 = .ok (.ireturn, 1) := by decide +kernel
theorem dX10_dumb_0 : decode cX10_dumb 0 = .ok (.aload_n 0, 1) := by decide +kernel
theorem dX10_dumb_1 : decode cX10_dumb 1 = .ok (.getfield 42, 3) := by decide +kernel
theorem dX10_dumb_4 : decode cX10_dumb 4 = .ok (.invokevirtual 315, 3) := by decide +kernel
theorem dX10_dumb_7 : decode cX10_dumb 7 = .ok (.ireturn, 1) := by decide +kernel
theorem dX10_undo_0 : decode cX10_undo 0 = .ok (.aload_n 0, 1) := by decide +kernel
theorem dX10_undo_1 : decode cX10_undo 1 = .ok (.getfield 33, 3) := by decide +kernel
theorem dX10_undo_4 : decode cX10_undo 4 = .ok (.aload_n 0, 1) := by decide +kernel
theorem dX10_undo_5 : decode cX10_undo 5 = .ok (.getfield 12, 3) := by decide +kernel
theorem dX10_undo_8 : decode cX10_undo 8 = .ok (.aload_n 0, 1) := by decide +kernel
theorem dX10_undo_9 : decode cX10_undo 9 = .ok (.getfield 26, 3) := by decide +kernel
theorem dX10_undo_12 : decode cX10_undo 12 = .ok (.invokevirtual 318, 3) := by decide +kernel
theorem dX10_undo_15 : decode cX10_undo 15 = .ok (.ireturn, 1) := by decide +kernel
theorem dX10_image_0 : decode cX10_image 0 = .ok (.iload_n 1, 1) := by decide +kernel
theorem dX10_image_1 : decode cX10_image 1 = .ok (.ifCond .eq 43, 3) := by decide +kernel
theorem dX10_image_4 : decode cX10_image 4 = .ok (.aload_n 0, 1) := by decide +kernel
theorem dX10_image_5 : decode cX10_image 5 = .ok (.getfield 69, 3) := by decide +kernel
theorem dX10_image_8 : decode cX10_image 8 = .ok (.aload_n 0, 1) := by decide +kernel
theorem dX10_image_9 : decode cX10_image 9 = .ok (.getfield 12, 3) := by decide +kernel
theorem dX10_image_12 : decode cX10_image 12 = .ok (.invokevirtual 322, 3) := by decide +kernel
theorem dX10_image_15 : decode cX10_image 15 = .ok (.aload_n 0, 1) := by decide +kernel
theorem dX10_image_16 : decode cX10_image 16 = .ok (.getfield 72, 3) := by decide +kernel
theorem dX10_image_19 : decode cX10_image 19 = .ok (.aload_n 0, 1) := by decide +kernel
theorem dX10_image_20 : decode cX10_image 20 = .ok (.getfield 19, 3) := by decide +kernel
theorem dX10_image_23 : decode cX10_image 23 = .ok (.invokevirtual 326, 3) := by decide +kernel
theorem dX10_image_26 : decode cX10_image 26 = .ok (.aload_n 0, 1) := by decide +kernel
theorem dX10_image_27 : decode cX10_image 27 = .ok (.getfield 75, 3) := by decide +kernel
theorem dX10_image_30 : decode cX10_image 30 = .ok (.aload_n 0, 1) := by decide +kernel
theorem dX10_image_31 : decode cX10_image 31 = .ok (.getfield 26, 3) := by decide +kernel
theorem dX10_image_34 : decode cX10_image 34 = .ok (.invokevirtual 329, 3) := by decide +kernel
theorem dX10_image_37 : decode cX10_image 37 = .ok (.aload_n 0, 1) := by decide +kernel
theorem dX10_image_38 : decode cX10_image 38 = .ok (.iconst 1, 1) := by decide +kernel
theorem dX10_image_39 : decode cX10_image 39 = .ok (.putfield 78, 3) := by decide +kernel
theorem dX10_image_42 : decode cX10_image 42 = .ok (.iconst 1, 1) := by decide +kernel
theorem dX10_image_43 : decode cX10_image 43 = .ok (.ireturn, 1) := by decide +kernel
theorem dX10_image_44 : decode cX10_image 44 = .ok (.aload_n 0, 1) := by decide +kernel
theorem dX10_image_45 : decode cX10_image 45 = .ok (.getfield 78, 3) := by decide +kernel
theorem dX10_image_48 : decode cX10_image 48 = .ok (.ifCond .ne 5, 3) := by decide +kernel
theorem dX10_image_51 : decode cX10_image 51 = .ok (.iconst 0, 1) := by decide +kernel
theorem dX10_image_52 : decode cX10_image 52 = .ok (.ireturn, 1) := by decide +kernel
theorem dX10_image_53 : decode cX10_image 53 = .ok (.aload_n 0, 1) := by decide +kernel
theorem dX10_image_54 : decode cX10_image 54 = .ok (.getfield 12, 3) := by decide +kernel
theorem dX10_image_57 : decode cX10_image 57 = .ok (.aload_n 0, 1) := by decide +kernel
theorem dX10_image_58 : decode cX10_image 58 = .ok (.getfield 69, 3) := by decide +kernel
theorem dX10_image_61 : decode cX10_image 61 = .ok (.invokevirtual 322, 3) := by decide +kernel
theorem dX10_image_64 : decode cX10_image 64 = .ok (.aload_n 0, 1) := by decide +kernel
theorem dX10_image_65 : decode cX10_image 65 = .ok (.getfield 19, 3) := by decide +kernel
theorem dX10_image_68 : decode cX10_image 68 = .ok (.aload_n 0, 1) := by decide +kernel
theorem dX10_image_69 : decode cX10_image 69 = .ok (.getfield 72, 3) := by decide +kernel
theorem dX10_image_72 : decode cX10_image 72 = .ok (.invokevirtual 326, 3) := by decide +kernel
theorem dX10_image_75 : decode cX10_image 75 = .ok (.aload_n 0, 1) := by decide +kernel
theorem dX10_image_76 : decode cX10_image 76 = .ok (.getfield 26, 3) := by decide +kernel
theorem dX10_image_79 : decode cX10_image 79 = .ok (.aload_n 0, 1) := by decide +kernel
theorem dX10_image_80 : decode cX10_image 80 = .ok (.getfield 75, 3) := by decide +kernel
theorem dX10_image_83 : decode cX10_image 83 = .ok (.invokevirtual 329, 3) := by decide +kernel
theorem dX10_image_86 : decode cX10_image 86 = .ok (.aload_n 0, 1) := by decide +kernel
theorem dX10_image_87 : decode cX10_image 87 = .ok (.getfield 33, 3) := by decide +kernel
theorem dX10_image_90 : decode cX10_image 90 = .ok (.invokevirtual 86, 3) := by decide +kernel
theorem dX10_image_93 : decode cX10_image 93 = .ok (.iconst 1, 1) := by decide +kernel
theorem dX10_image_94 : decode cX10_image 94 = .ok (.ireturn, 1) := by decide +kernel
theorem dX10_isDeed_0 : decode cX10_isDeed 0 = .ok (.iload_n 1, 1) := by decide +kernel
theorem dX10_isDeed_1 : decode cX10_isDeed 1 = .ok (.ifCond .lt 18, 3) := by decide +kernel
theorem dX10_isDeed_4 : decode cX10_isDeed 4 = .ok (.iload_n 1, 1) := by decide +kernel
theorem dX10_isDeed_5 : decode cX10_isDeed 5 = .ok (.aload_n 0, 1) := by decide +kernel
theorem dX10_isDeed_6 : decode cX10_isDeed 6 = .ok (.getfield 19, 3) := by decide +kernel
theorem dX10_isDeed_9 : decode cX10_isDeed 9 = .ok (.getfield 158, 3) := by decide +kernel
theorem dX10_isDeed_12 : decode cX10_isDeed 12 = .ok (.if_icmp .ge 7, 3) := by decide +kernel
theorem dX10_isDeed_15 : decode cX10_isDeed 15 = .ok (.iconst 1, 1) := by decide +kernel
theorem dX10_isDeed_16 : decode cX10_isDeed 16 = .ok (.goto 4, 3) := by decide +kernel
theorem dX10_isDeed_19 : decode cX10_isDeed 19 = .ok (.iconst 0, 1) := by decide +kernel
theorem dX10_isDeed_20 : decode cX10_isDeed 20 = .ok (.ireturn, 1) := by decide +kernel
theorem dX10_isLetter_0 : decode cX10_isLetter 0 = .ok (.iload_n 0, 1) := by decide +kernel
theorem dX10_isLetter_1 : decode cX10_isLetter 1 = .ok (.ifCond .lt 13, 3) := by decide +kernel
theorem dX10_isLetter_4 : decode cX10_isLetter 4 = .ok (.iload_n 0, 1) := by decide +kernel
theorem dX10_isLetter_5 : decode cX10_isLetter 5 = .ok (.bipush 28, 2) := by decide +kernel
theorem dX10_isLetter_7 : decode cX10_isLetter 7 = .ok (.if_icmp .ge 7, 3) := by decide +kernel
theorem dX10_isLetter_10 : decode cX10_isLetter 10 = .ok (.iconst 1, 1) := by decide +kernel
theorem dX10_isLetter_11 : decode cX10_isLetter 11 = .ok (.goto 4, 3) := by decide +kernel
theorem dX10_isLetter_14 : decode cX10_isLetter 14 = .ok (.iconst 0, 1) := by decide +kernel
theorem dX10_isLetter_15 : decode cX10_isLetter 15 = .ok (.ireturn, 1) := by decide +kernel
theorem dX10_letterOf_0 : decode cX10_letterOf 0 = .ok (.iload_n 0, 1) := by decide +kernel
theorem dX10_letterOf_1 : decode cX10_letterOf 1 = .ok (.bipush 97, 2) := by decide +kernel
theorem dX10_letterOf_3 : decode cX10_letterOf 3 = .ok (.if_icmp .lt 14, 3) := by decide +kernel
theorem dX10_letterOf_6 : decode cX10_letterOf 6 = .ok (.iload_n 0, 1) := by decide +kernel
theorem dX10_letterOf_7 : decode cX10_letterOf 7 = .ok (.bipush 122, 2) := by decide +kernel
theorem dX10_letterOf_9 : decode cX10_letterOf 9 = .ok (.if_icmp .gt 8, 3) := by decide +kernel
theorem dX10_letterOf_12 : decode cX10_letterOf 12 = .ok (.iload_n 0, 1) := by decide +kernel
theorem dX10_letterOf_13 : decode cX10_letterOf 13 = .ok (.bipush 97, 2) := by decide +kernel
theorem dX10_letterOf_15 : decode cX10_letterOf 15 = .ok (.isub, 1) := by decide +kernel
theorem dX10_letterOf_16 : decode cX10_letterOf 16 = .ok (.ireturn, 1) := by decide +kernel
theorem dX10_letterOf_17 : decode cX10_letterOf 17 = .ok (.iload_n 0, 1) := by decide +kernel
theorem dX10_letterOf_18 : decode cX10_letterOf 18 = .ok (.bipush 46, 2) := by decide +kernel
theorem dX10_letterOf_20 : decode cX10_letterOf 20 = .ok (.if_icmp .ne 6, 3) := by decide +kernel
theorem dX10_letterOf_23 : decode cX10_letterOf 23 = .ok (.bipush 26, 2) := by decide +kernel
theorem dX10_letterOf_25 : decode cX10_letterOf 25 = .ok (.ireturn, 1) := by decide +kernel
theorem dX10_letterOf_26 : decode cX10_letterOf 26 = .ok (.iload_n 0, 1) := by decide +kernel
theorem dX10_letterOf_27 : decode cX10_letterOf 27 = .ok (.bipush 44, 2) := by decide +kernel
theorem dX10_letterOf_29 : decode cX10_letterOf 29 = .ok (.if_icmp .ne 6, 3) := by decide +kernel
theorem dX10_letterOf_32 : decode cX10_letterOf 32 = .ok (.bipush 27, 2) := by decide +kernel
theorem dX10_letterOf_34 : decode cX10_letterOf 34 = .ok (.ireturn, 1) := by decide +kernel
theorem dX10_letterOf_35 : decode cX10_letterOf 35 = .ok (.iconst (-1), 1) := by decide +kernel
theorem dX10_letterOf_36 : decode cX10_letterOf 36 = .ok (.ireturn, 1) := by decide +kernel
theorem dX10_isBlank_0 : decode cX10_isBlank 0 = .ok (.iload_n 0, 1) := by decide +kernel
theorem dX10_isBlank_1 : decode cX10_isBlank 1 = .ok (.bipush 32, 2) := by decide +kernel
theorem dX10_isBlank_3 : decode cX10_isBlank 3 = .ok (.if_icmp .eq 9, 3) := by decide +kernel
theorem dX10_isBlank_6 : decode cX10_isBlank 6 = .ok (.iload_n 0, 1) := by decide +kernel
theorem dX10_isBlank_7 : decode cX10_isBlank 7 = .ok (.bipush 10, 2) := by decide +kernel
theorem dX10_isBlank_9 : decode cX10_isBlank 9 = .ok (.if_icmp .ne 7, 3) := by decide +kernel
theorem dX10_isBlank_12 : decode cX10_isBlank 12 = .ok (.iconst 1, 1) := by decide +kernel
theorem dX10_isBlank_13 : decode cX10_isBlank 13 = .ok (.goto 4, 3) := by decide +kernel
theorem dX10_isBlank_16 : decode cX10_isBlank 16 = .ok (.iconst 0, 1) := by decide +kernel
theorem dX10_isBlank_17 : decode cX10_isBlank 17 = .ok (.ireturn, 1) := by decide +kernel
theorem dX11_init_0 : decode cX11_init 0 = .ok (.aload_n 0, 1) := by decide +kernel
theorem dX11_init_1 : decode cX11_init 1 = .ok (.invokespecial 1, 3) := by decide +kernel
theorem dX11_init_4 : decode cX11_init 4 = .ok (.aload_n 0, 1) := by decide +kernel
theorem dX11_init_5 : decode cX11_init 5 = .ok (.sipush 148, 3) := by decide +kernel
theorem dX11_init_8 : decode cX11_init 8 = .ok (.newarray .int, 2) := by decide +kernel
theorem dX11_init_10 : decode cX11_init 10 = .ok (.putfield 7, 3) := by decide +kernel
theorem dX11_init_13 : decode cX11_init 13 = .ok (.aload_n 0, 1) := by decide +kernel
theorem dX11_init_14 : decode cX11_init 14 = .ok (.sipush 1184, 3) := by decide +kernel
theorem dX11_init_17 : decode cX11_init 17 = .ok (.newarray .int, 2) := by decide +kernel
theorem dX11_init_19 : decode cX11_init 19 = .ok (.putfield 13, 3) := by decide +kernel
theorem dX11_init_22 : decode cX11_init 22 = .ok (.aload_n 0, 1) := by decide +kernel
theorem dX11_init_23 : decode cX11_init 23 = .ok (.sipush 148, 3) := by decide +kernel
theorem dX11_init_26 : decode cX11_init 26 = .ok (.newarray .int, 2) := by decide +kernel
theorem dX11_init_28 : decode cX11_init 28 = .ok (.putfield 16, 3) := by decide +kernel
theorem dX11_init_31 : decode cX11_init 31 = .ok (.aload_n 0, 1) := by decide +kernel
theorem dX11_init_32 : decode cX11_init 32 = .ok (.bipush 12, 2) := by decide +kernel
theorem dX11_init_34 : decode cX11_init 34 = .ok (.newarray .int, 2) := by decide +kernel
theorem dX11_init_36 : decode cX11_init 36 = .ok (.putfield 19, 3) := by decide +kernel
theorem dX11_init_39 : decode cX11_init 39 = .ok (.aload_n 0, 1) := by decide +kernel
theorem dX11_init_40 : decode cX11_init 40 = .ok (.bipush 12, 2) := by decide +kernel
theorem dX11_init_42 : decode cX11_init 42 = .ok (.newarray .int, 2) := by decide +kernel
theorem dX11_init_44 : decode cX11_init 44 = .ok (.putfield 22, 3) := by decide +kernel
theorem dX11_init_47 : decode cX11_init 47 = .ok (.aload_n 0, 1) := by decide +kernel
theorem dX11_init_48 : decode cX11_init 48 = .ok (.bipush 12, 2) := by decide +kernel
theorem dX11_init_50 : decode cX11_init 50 = .ok (.newarray .int, 2) := by decide +kernel
theorem dX11_init_52 : decode cX11_init 52 = .ok (.putfield 25, 3) := by decide +kernel
theorem dX11_init_55 : decode cX11_init 55 = .ok (.aload_n 0, 1) := by decide +kernel
theorem dX11_init_56 : decode cX11_init 56 = .ok (.bipush 12, 2) := by decide +kernel
theorem dX11_init_58 : decode cX11_init 58 = .ok (.newarray .int, 2) := by decide +kernel
theorem dX11_init_60 : decode cX11_init 60 = .ok (.putfield 28, 3) := by decide +kernel
theorem dX11_init_63 : decode cX11_init 63 = .ok (.aload_n 0, 1) := by decide +kernel
theorem dX11_init_64 : decode cX11_init 64 = .ok (.bipush 12, 2) := by decide +kernel
theorem dX11_init_66 : decode cX11_init 66 = .ok (.newarray .int, 2) := by decide +kernel
theorem dX11_init_68 : decode cX11_init 68 = .ok (.putfield 31, 3) := by decide +kernel
theorem dX11_init_71 : decode cX11_init 71 = .ok (.aload_n 0, 1) := by decide +kernel
theorem dX11_init_72 : decode cX11_init 72 = .ok (.sipush 1000, 3) := by decide +kernel
theorem dX11_init_75 : decode cX11_init 75 = .ok (.newarray .int, 2) := by decide +kernel
theorem dX11_init_77 : decode cX11_init 77 = .ok (.putfield 34, 3) := by decide +kernel
theorem dX11_init_80 : decode cX11_init 80 = .ok (.aload_n 0, 1) := by decide +kernel
theorem dX11_init_81 : decode cX11_init 81 = .ok (.sipush 144, 3) := by decide +kernel
theorem dX11_init_84 : decode cX11_init 84 = .ok (.newarray .int, 2) := by decide +kernel
theorem dX11_init_86 : decode cX11_init 86 = .ok (.putfield 37, 3) := by decide +kernel
theorem dX11_init_89 : decode cX11_init 89 = .ok (.aload_n 0, 1) := by decide +kernel
theorem dX11_init_90 : decode cX11_init 90 = .ok (.sipush 400, 3) := by decide +kernel
theorem dX11_init_93 : decode cX11_init 93 = .ok (.newarray .int, 2) := by decide +kernel
theorem dX11_init_95 : decode cX11_init 95 = .ok (.putfield 40, 3) := by decide +kernel
theorem dX11_init_98 : decode cX11_init 98 = .ok (.aload_n 0, 1) := by decide +kernel
theorem dX11_init_99 : decode cX11_init 99 = .ok (.bipush 93, 2) := by decide +kernel
theorem dX11_init_101 : decode cX11_init 101 = .ok (.newarray .int, 2) := by decide +kernel
theorem dX11_init_103 : decode cX11_init 103 = .ok (.dup, 1) := by decide +kernel
theorem dX11_init_104 : decode cX11_init 104 = .ok (.iconst 0, 1) := by decide +kernel
theorem dX11_init_105 : decode cX11_init 105 = .ok (.bipush 32, 2) := by decide +kernel
theorem dX11_init_107 : decode cX11_init 107 = .ok (.iastore, 1) := by decide +kernel
theorem dX11_init_108 : decode cX11_init 108 = .ok (.dup, 1) := by decide +kernel
theorem dX11_init_109 : decode cX11_init 109 = .ok (.iconst 1, 1) := by decide +kernel
theorem dX11_init_110 : decode cX11_init 110 = .ok (.bipush 104, 2) := by decide +kernel
theorem dX11_init_112 : decode cX11_init 112 = .ok (.iastore, 1) := by decide +kernel
theorem dX11_init_113 : decode cX11_init 113 = .ok (.dup, 1) := by decide +kernel
theorem dX11_init_114 : decode cX11_init 114 = .ok (.iconst 2, 1) := by decide +kernel
theorem dX11_init_115 : decode cX11_init 115 = .ok (.bipush 101, 2) := by decide +kernel
theorem dX11_init_117 : decode cX11_init 117 = .ok (.iastore, 1) := by decide +kernel
theorem dX11_init_118 : decode cX11_init 118 = .ok (.dup, 1) := by decide +kernel
theorem dX11_init_119 : decode cX11_init 119 = .ok (.iconst 3, 1) := by decide +kernel
theorem dX11_init_120 : decode cX11_init 120 = .ok (.bipush 105, 2) := by decide +kernel
theorem dX11_init_122 : decode cX11_init 122 = .ok (.iastore, 1) := by decide +kernel
theorem dX11_init_123 : decode cX11_init 123 = .ok (.dup, 1) := by decide +kernel
theorem dX11_init_124 : decode cX11_init 124 = .ok (.iconst 4, 1) := by decide +kernel
theorem dX11_init_125 : decode cX11_init 125 = .ok (.bipush 114, 2) := by decide +kernel
theorem dX11_init_127 : decode cX11_init 127 = .ok (.iastore, 1) := by decide +kernel
theorem dX11_init_128 : decode cX11_init 128 = .ok (.dup, 1) := by decide +kernel
theorem dX11_init_129 : decode cX11_init 129 = .ok (.iconst 5, 1) := by decide +kernel
theorem dX11_init_130 : decode cX11_init 130 = .ok (.bipush 32, 2) := by decide +kernel
theorem dX11_init_132 : decode cX11_init 132 = .ok (.iastore, 1) := by decide +kernel
theorem dX11_init_133 : decode cX11_init 133 = .ok (.dup, 1) := by decide +kernel
theorem dX11_init_134 : decode cX11_init 134 = .ok (.bipush 6, 2) := by decide +kernel
theorem dX11_init_136 : decode cX11_init 136 = .ok (.bipush 119, 2) := by decide +kernel
theorem dX11_init_138 : decode cX11_init 138 = .ok (.iastore, 1) := by decide +kernel
theorem dX11_init_139 : decode cX11_init 139 = .ok (.dup, 1) := by decide +kernel
theorem dX11_init_140 : decode cX11_init 140 = .ok (.bipush 7, 2) := by decide +kernel
theorem dX11_init_142 : decode cX11_init 142 = .ok (.bipush 104, 2) := by decide +kernel
theorem dX11_init_144 : decode cX11_init 144 = .ok (.iastore, 1) := by decide +kernel
theorem dX11_init_145 : decode cX11_init 145 = .ok (.dup, 1) := by decide +kernel
theorem dX11_init_146 : decode cX11_init 146 = .ok (.bipush 8, 2) := by decide +kernel
theorem dX11_init_148 : decode cX11_init 148 = .ok (.bipush 101, 2) := by decide +kernel
theorem dX11_init_150 : decode cX11_init 150 = .ok (.iastore, 1) := by decide +kernel
theorem dX11_init_151 : decode cX11_init 151 = .ok (.dup, 1) := by decide +kernel
theorem dX11_init_152 : decode cX11_init 152 = .ok (.bipush 9, 2) := by decide +kernel
theorem dX11_init_154 : decode cX11_init 154 = .ok (.bipush 110, 2) := by decide +kernel
theorem dX11_init_156 : decode cX11_init 156 = .ok (.iastore, 1) := by decide +kernel
theorem dX11_init_157 : decode cX11_init 157 = .ok (.dup, 1) := by decide +kernel
theorem dX11_init_158 : decode cX11_init 158 = .ok (.bipush 10, 2) := by decide +kernel
theorem dX11_init_160 : decode cX11_init 160 = .ok (.bipush 32, 2) := by decide +kernel
theorem dX11_init_162 : decode cX11_init 162 = .ok (.iastore, 1) := by decide +kernel
theorem dX11_init_163 : decode cX11_init 163 = .ok (.dup, 1) := by decide +kernel
theorem dX11_init_164 : decode cX11_init 164 = .ok (.bipush 11, 2) := by decide +kernel
theorem dX11_init_166 : decode cX11_init 166 = .ok (.bipush 111, 2) := by decide +kernel
theorem dX11_init_168 : decode cX11_init 168 = .ok (.iastore, 1) := by decide +kernel
theorem dX11_init_169 : decode cX11_init 169 = .ok (.dup, 1) := by decide +kernel
theorem dX11_init_170 : decode cX11_init 170 = .ok (.bipush 12, 2) := by decide +kernel
theorem dX11_init_172 : decode cX11_init 172 = .ok (.bipush 114, 2) := by decide +kernel
theorem dX11_init_174 : decode cX11_init 174 = .ok (.iastore, 1) := by decide +kernel
theorem dX11_init_175 : decode cX11_init 175 = .ok (.dup, 1) := by decide +kernel
theorem dX11_init_176 : decode cX11_init 176 = .ok (.bipush 13, 2) := by decide +kernel
theorem dX11_init_178 : decode cX11_init 178 = .ok (.bipush 32, 2) := by decide +kernel
theorem dX11_init_180 : decode cX11_init 180 = .ok (.iastore, 1) := by decide +kernel
theorem dX11_init_181 : decode cX11_init 181 = .ok (.dup, 1) := by decide +kernel
theorem dX11_init_182 : decode cX11_init 182 = .ok (.bipush 14, 2) := by decide +kernel
theorem dX11_init_184 : decode cX11_init 184 = .ok (.bipush 97, 2) := by decide +kernel
theorem dX11_init_186 : decode cX11_init 186 = .ok (.iastore, 1) := by decide +kernel
theorem dX11_init_187 : decode cX11_init 187 = .ok (.dup, 1) := by decide +kernel
theorem dX11_init_188 : decode cX11_init 188 = .ok (.bipush 15, 2) := by decide +kernel
theorem dX11_init_190 : decode cX11_init 190 = .ok (.bipush 110, 2) := by decide +kernel
theorem dX11_init_192 : decode cX11_init 192 = .ok (.iastore, 1) := by decide +kernel
theorem dX11_init_193 : decode cX11_init 193 = .ok (.dup, 1) := by decide +kernel
theorem dX11_init_194 : decode cX11_init 194 = .ok (.bipush 16, 2) := by decide +kernel
theorem dX11_init_196 : decode cX11_init 196 = .ok (.bipush 100, 2) := by decide +kernel
theorem dX11_init_198 : decode cX11_init 198 = .ok (.iastore, 1) := by decide +kernel
theorem dX11_init_199 : decode cX11_init 199 = .ok (.dup, 1) := by decide +kernel
theorem dX11_init_200 : decode cX11_init 200 = .ok (.bipush 17, 2) := by decide +kernel
theorem dX11_init_202 : decode cX11_init 202 = .ok (.bipush 32, 2) := by decide +kernel
theorem dX11_init_204 : decode cX11_init 204 = .ok (.iastore, 1) := by decide +kernel
theorem dX11_init_205 : decode cX11_init 205 = .ok (.dup, 1) := by decide +kernel
theorem dX11_init_206 : decode cX11_init 206 = .ok (.bipush 18, 2) := by decide +kernel
theorem dX11_init_208 : decode cX11_init 208 = .ok (.bipush 110, 2) := by decide +kernel
theorem dX11_init_210 : decode cX11_init 210 = .ok (.iastore, 1) := by decide +kernel
theorem dX11_init_211 : decode cX11_init 211 = .ok (.dup, 1) := by decide +kernel
theorem dX11_init_212 : decode cX11_init 212 = .ok (.bipush 19, 2) := by decide +kernel
theorem dX11_init_214 : decode cX11_init 214 = .ok (.bipush 111, 2) := by decide +kernel
theorem dX11_init_216 : decode cX11_init 216 = .ok (.iastore, 1) := by decide +kernel
theorem dX11_init_217 : decode cX11_init 217 = .ok (.dup, 1) := by decide +kernel
theorem dX11_init_218 : decode cX11_init 218 = .ok (.bipush 20, 2) := by decide +kernel
theorem dX11_init_220 : decode cX11_init 220 = .ok (.bipush 116, 2) := by decide +kernel
theorem dX11_init_222 : decode cX11_init 222 = .ok (.iastore, 1) := by decide +kernel
theorem dX11_init_223 : decode cX11_init 223 = .ok (.dup, 1) := by decide +kernel
theorem dX11_init_224 : decode cX11_init 224 = .ok (.bipush 21, 2) := by decide +kernel
theorem dX11_init_226 : decode cX11_init 226 = .ok (.bipush 32, 2) := by decide +kernel
theorem dX11_init_228 : decode cX11_init 228 = .ok (.iastore, 1) := by decide +kernel
theorem dX11_init_229 : decode cX11_init 229 = .ok (.dup, 1) := by decide +kernel
theorem dX11_init_230 : decode cX11_init 230 = .ok (.bipush 22, 2) := by decide +kernel
theorem dX11_init_232 : decode cX11_init 232 = .ok (.bipush 108, 2) := by decide +kernel
theorem dX11_init_234 : decode cX11_init 234 = .ok (.iastore, 1) := by decide +kernel
theorem dX11_init_235 : decode cX11_init 235 = .ok (.dup, 1) := by decide +kernel
theorem dX11_init_236 : decode cX11_init 236 = .ok (.bipush 23, 2) := by decide +kernel
theorem dX11_init_238 : decode cX11_init 238 = .ok (.bipush 101, 2) := by decide +kernel
theorem dX11_init_240 : decode cX11_init 240 = .ok (.iastore, 1) := by decide +kernel
theorem dX11_init_241 : decode cX11_init 241 = .ok (.dup, 1) := by decide +kernel
theorem dX11_init_242 : decode cX11_init 242 = .ok (.bipush 24, 2) := by decide +kernel
theorem dX11_init_244 : decode cX11_init 244 = .ok (.bipush 116, 2) := by decide +kernel
theorem dX11_init_246 : decode cX11_init 246 = .ok (.iastore, 1) := by decide +kernel
theorem dX11_init_247 : decode cX11_init 247 = .ok (.dup, 1) := by decide +kernel
theorem dX11_init_248 : decode cX11_init 248 = .ok (.bipush 25, 2) := by decide +kernel
theorem dX11_init_250 : decode cX11_init 250 = .ok (.bipush 116, 2) := by decide +kernel
theorem dX11_init_252 : decode cX11_init 252 = .ok (.iastore, 1) := by decide +kernel
theorem dX11_init_253 : decode cX11_init 253 = .ok (.dup, 1) := by decide +kernel
theorem dX11_init_254 : decode cX11_init 254 = .ok (.bipush 26, 2) := by decide +kernel
theorem dX11_init_256 : decode cX11_init 256 = .ok (.bipush 101, 2) := by decide +kernel
theorem dX11_init_258 : decode cX11_init 258 = .ok (.iastore, 1) := by decide +kernel
theorem dX11_init_259 : decode cX11_init 259 = .ok (.dup, 1) := by decide +kernel
theorem dX11_init_260 : decode cX11_init 260 = .ok (.bipush 27, 2) := by decide +kernel
theorem dX11_init_262 : decode cX11_init 262 = .ok (.bipush 114, 2) := by decide +kernel
theorem dX11_init_264 : decode cX11_init 264 = .ok (.iastore, 1) := by decide +kernel
theorem dX11_init_265 : decode cX11_init 265 = .ok (.dup, 1) := by decide +kernel
theorem dX11_init_266 : decode cX11_init 266 = .ok (.bipush 28, 2) := by decide +kernel
theorem dX11_init_268 : decode cX11_init 268 = .ok (.bipush 32, 2) := by decide +kernel
theorem dX11_init_270 : decode cX11_init 270 = .ok (.iastore, 1) := by decide +kernel
theorem dX11_init_271 : decode cX11_init 271 = .ok (.dup, 1) := by decide +kernel
theorem dX11_init_272 : decode cX11_init 272 = .ok (.bipush 29, 2) := by decide +kernel
theorem dX11_init_274 : decode cX11_init 274 = .ok (.bipush 118, 2) := by decide +kernel
theorem dX11_init_276 : decode cX11_init 276 = .ok (.iastore, 1) := by decide +kernel
theorem dX11_init_277 : decode cX11_init 277 = .ok (.dup, 1) := by decide +kernel
theorem dX11_init_278 : decode cX11_init 278 = .ok (.bipush 30, 2) := by decide +kernel
theorem dX11_init_280 : decode cX11_init 280 = .ok (.bipush 111, 2) := by decide +kernel
theorem dX11_init_282 : decode cX11_init 282 = .ok (.iastore, 1) := by decide +kernel
theorem dX11_init_283 : decode cX11_init 283 = .ok (.dup, 1) := by decide +kernel
theorem dX11_init_284 : decode cX11_init 284 = .ok (.bipush 31, 2) := by decide +kernel
theorem dX11_init_286 : decode cX11_init 286 = .ok (.bipush 119, 2) := by decide +kernel
theorem dX11_init_288 : decode cX11_init 288 = .ok (.iastore, 1) := by decide +kernel
theorem dX11_init_289 : decode cX11_init 289 = .ok (.dup, 1) := by decide +kernel
theorem dX11_init_290 : decode cX11_init 290 = .ok (.bipush 32, 2) := by decide +kernel
theorem dX11_init_292 : decode cX11_init 292 = .ok (.bipush 101, 2) := by decide +kernel
theorem dX11_init_294 : decode cX11_init 294 = .ok (.iastore, 1) := by decide +kernel
theorem dX11_init_295 : decode cX11_init 295 = .ok (.dup, 1) := by decide +kernel
theorem dX11_init_296 : decode cX11_init 296 = .ok (.bipush 33, 2) := by decide +kernel
theorem dX11_init_298 : decode cX11_init 298 = .ok (.bipush 108, 2) := by decide +kernel
theorem dX11_init_300 : decode cX11_init 300 = .ok (.iastore, 1) := by decide +kernel
theorem dX11_init_301 : decode cX11_init 301 = .ok (.dup, 1) := by decide +kernel
theorem dX11_init_302 : decode cX11_init 302 = .ok (.bipush 34, 2) := by decide +kernel
theorem dX11_init_304 : decode cX11_init 304 = .ok (.bipush 32, 2) := by decide +kernel
theorem dX11_init_306 : decode cX11_init 306 = .ok (.iastore, 1) := by decide +kernel
theorem dX11_init_307 : decode cX11_init 307 = .ok (.dup, 1) := by decide +kernel
theorem dX11_init_308 : decode cX11_init 308 = .ok (.bipush 35, 2) := by decide +kernel
theorem dX11_init_310 : decode cX11_init 310 = .ok (.bipush 97, 2) := by decide +kernel
theorem dX11_init_312 : decode cX11_init 312 = .ok (.iastore, 1) := by decide +kernel
theorem dX11_init_313 : decode cX11_init 313 = .ok (.dup, 1) := by decide +kernel
theorem dX11_init_314 : decode cX11_init 314 = .ok (.bipush 36, 2) := by decide +kernel
theorem dX11_init_316 : decode cX11_init 316 = .ok (.bipush 103, 2) := by decide +kernel
theorem dX11_init_318 : decode cX11_init 318 = .ok (.iastore, 1) := by decide +kernel
theorem dX11_init_319 : decode cX11_init 319 = .ok (.dup, 1) := by decide +kernel
theorem dX11_init_320 : decode cX11_init 320 = .ok (.bipush 37, 2) := by decide +kernel
theorem dX11_init_322 : decode cX11_init 322 = .ok (.bipush 101, 2) := by decide +kernel
theorem dX11_init_324 : decode cX11_init 324 = .ok (.iastore, 1) := by decide +kernel
theorem dX11_init_325 : decode cX11_init 325 = .ok (.dup, 1) := by decide +kernel
theorem dX11_init_326 : decode cX11_init 326 = .ok (.bipush 38, 2) := by decide +kernel
theorem dX11_init_328 : decode cX11_init 328 = .ok (.bipush 32, 2) := by decide +kernel
theorem dX11_init_330 : decode cX11_init 330 = .ok (.iastore, 1) := by decide +kernel
theorem dX11_init_331 : decode cX11_init 331 = .ok (.dup, 1) := by decide +kernel
theorem dX11_init_332 : decode cX11_init 332 = .ok (.bipush 39, 2) := by decide +kernel
theorem dX11_init_334 : decode cX11_init 334 = .ok (.bipush 107, 2) := by decide +kernel
theorem dX11_init_336 : decode cX11_init 336 = .ok (.iastore, 1) := by decide +kernel
theorem dX11_init_337 : decode cX11_init 337 = .ok (.dup, 1) := by decide +kernel
theorem dX11_init_338 : decode cX11_init 338 = .ok (.bipush 40, 2) := by decide +kernel
theorem dX11_init_340 : decode cX11_init 340 = .ok (.bipush 105, 2) := by decide +kernel
theorem dX11_init_342 : decode cX11_init 342 = .ok (.iastore, 1) := by decide +kernel
theorem dX11_init_343 : decode cX11_init 343 = .ok (.dup, 1) := by decide +kernel
theorem dX11_init_344 : decode cX11_init 344 = .ok (.bipush 41, 2) := by decide +kernel
theorem dX11_init_346 : decode cX11_init 346 = .ok (.bipush 110, 2) := by decide +kernel
theorem dX11_init_348 : decode cX11_init 348 = .ok (.iastore, 1) := by decide +kernel
theorem dX11_init_349 : decode cX11_init 349 = .ok (.dup, 1) := by decide +kernel
theorem dX11_init_350 : decode cX11_init 350 = .ok (.bipush 42, 2) := by decide +kernel
theorem dX11_init_352 : decode cX11_init 352 = .ok (.bipush 32, 2) := by decide +kernel
theorem dX11_init_354 : decode cX11_init 354 = .ok (.iastore, 1) := by decide +kernel
theorem dX11_init_355 : decode cX11_init 355 = .ok (.dup, 1) := by decide +kernel
theorem dX11_init_356 : decode cX11_init 356 = .ok (.bipush 43, 2) := by decide +kernel
theorem dX11_init_358 : decode cX11_init 358 = .ok (.bipush 99, 2) := by decide +kernel
theorem dX11_init_360 : decode cX11_init 360 = .ok (.iastore, 1) := by decide +kernel
theorem dX11_init_361 : decode cX11_init 361 = .ok (.dup, 1) := by decide +kernel
theorem dX11_init_362 : decode cX11_init 362 = .ok (.bipush 44, 2) := by decide +kernel
theorem dX11_init_364 : decode cX11_init 364 = .ok (.bipush 104, 2) := by decide +kernel
theorem dX11_init_366 : decode cX11_init 366 = .ok (.iastore, 1) := by decide +kernel
theorem dX11_init_367 : decode cX11_init 367 = .ok (.dup, 1) := by decide +kernel
theorem dX11_init_368 : decode cX11_init 368 = .ok (.bipush 45, 2) := by decide +kernel
theorem dX11_init_370 : decode cX11_init 370 = .ok (.bipush 105, 2) := by decide +kernel
theorem dX11_init_372 : decode cX11_init 372 = .ok (.iastore, 1) := by decide +kernel
theorem dX11_init_373 : decode cX11_init 373 = .ok (.dup, 1) := by decide +kernel
theorem dX11_init_374 : decode cX11_init 374 = .ok (.bipush 46, 2) := by decide +kernel
theorem dX11_init_376 : decode cX11_init 376 = .ok (.bipush 108, 2) := by decide +kernel
theorem dX11_init_378 : decode cX11_init 378 = .ok (.iastore, 1) := by decide +kernel
theorem dX11_init_379 : decode cX11_init 379 = .ok (.dup, 1) := by decide +kernel
theorem dX11_init_380 : decode cX11_init 380 = .ok (.bipush 47, 2) := by decide +kernel
theorem dX11_init_382 : decode cX11_init 382 = .ok (.bipush 100, 2) := by decide +kernel
theorem dX11_init_384 : decode cX11_init 384 = .ok (.iastore, 1) := by decide +kernel
theorem dX11_init_385 : decode cX11_init 385 = .ok (.dup, 1) := by decide +kernel
theorem dX11_init_386 : decode cX11_init 386 = .ok (.bipush 48, 2) := by decide +kernel
theorem dX11_init_388 : decode cX11_init 388 = .ok (.bipush 32, 2) := by decide +kernel
theorem dX11_init_390 : decode cX11_init 390 = .ok (.iastore, 1) := by decide +kernel
theorem dX11_init_391 : decode cX11_init 391 = .ok (.dup, 1) := by decide +kernel
theorem dX11_init_392 : decode cX11_init 392 = .ok (.bipush 49, 2) := by decide +kernel
theorem dX11_init_394 : decode cX11_init 394 = .ok (.bipush 115, 2) := by decide +kernel
theorem dX11_init_396 : decode cX11_init 396 = .ok (.iastore, 1) := by decide +kernel
theorem dX11_init_397 : decode cX11_init 397 = .ok (.dup, 1) := by decide +kernel
theorem dX11_init_398 : decode cX11_init 398 = .ok (.bipush 50, 2) := by decide +kernel
theorem dX11_init_400 : decode cX11_init 400 = .ok (.bipush 112, 2) := by decide +kernel
theorem dX11_init_402 : decode cX11_init 402 = .ok (.iastore, 1) := by decide +kernel
theorem dX11_init_403 : decode cX11_init 403 = .ok (.dup, 1) := by decide +kernel
theorem dX11_init_404 : decode cX11_init 404 = .ok (.bipush 51, 2) := by decide +kernel
theorem dX11_init_406 : decode cX11_init 406 = .ok (.bipush 111, 2) := by decide +kernel
theorem dX11_init_408 : decode cX11_init 408 = .ok (.iastore, 1) := by decide +kernel
theorem dX11_init_409 : decode cX11_init 409 = .ok (.dup, 1) := by decide +kernel
theorem dX11_init_410 : decode cX11_init 410 = .ok (.bipush 52, 2) := by decide +kernel
theorem dX11_init_412 : decode cX11_init 412 = .ok (.bipush 117, 2) := by decide +kernel
theorem dX11_init_414 : decode cX11_init 414 = .ok (.iastore, 1) := by decide +kernel
theorem dX11_init_415 : decode cX11_init 415 = .ok (.dup, 1) := by decide +kernel
theorem dX11_init_416 : decode cX11_init 416 = .ok (.bipush 53, 2) := by decide +kernel
theorem dX11_init_418 : decode cX11_init 418 = .ok (.bipush 115, 2) := by decide +kernel
theorem dX11_init_420 : decode cX11_init 420 = .ok (.iastore, 1) := by decide +kernel
theorem dX11_init_421 : decode cX11_init 421 = .ok (.dup, 1) := by decide +kernel
theorem dX11_init_422 : decode cX11_init 422 = .ok (.bipush 54, 2) := by decide +kernel
theorem dX11_init_424 : decode cX11_init 424 = .ok (.bipush 101, 2) := by decide +kernel
theorem dX11_init_426 : decode cX11_init 426 = .ok (.iastore, 1) := by decide +kernel
theorem dX11_init_427 : decode cX11_init 427 = .ok (.dup, 1) := by decide +kernel
theorem dX11_init_428 : decode cX11_init 428 = .ok (.bipush 55, 2) := by decide +kernel
theorem dX11_init_430 : decode cX11_init 430 = .ok (.bipush 32, 2) := by decide +kernel
theorem dX11_init_432 : decode cX11_init 432 = .ok (.iastore, 1) := by decide +kernel
theorem dX11_init_433 : decode cX11_init 433 = .ok (.dup, 1) := by decide +kernel
theorem dX11_init_434 : decode cX11_init 434 = .ok (.bipush 56, 2) := by decide +kernel
theorem dX11_init_436 : decode cX11_init 436 = .ok (.bipush 111, 2) := by decide +kernel
theorem dX11_init_438 : decode cX11_init 438 = .ok (.iastore, 1) := by decide +kernel
theorem dX11_init_439 : decode cX11_init 439 = .ok (.dup, 1) := by decide +kernel
theorem dX11_init_440 : decode cX11_init 440 = .ok (.bipush 57, 2) := by decide +kernel
theorem dX11_init_442 : decode cX11_init 442 = .ok (.bipush 119, 2) := by decide +kernel
theorem dX11_init_444 : decode cX11_init 444 = .ok (.iastore, 1) := by decide +kernel
theorem dX11_init_445 : decode cX11_init 445 = .ok (.dup, 1) := by decide +kernel
theorem dX11_init_446 : decode cX11_init 446 = .ok (.bipush 58, 2) := by decide +kernel
theorem dX11_init_448 : decode cX11_init 448 = .ok (.bipush 110, 2) := by decide +kernel
theorem dX11_init_450 : decode cX11_init 450 = .ok (.iastore, 1) := by decide +kernel
theorem dX11_init_451 : decode cX11_init 451 = .ok (.dup, 1) := by decide +kernel
theorem dX11_init_452 : decode cX11_init 452 = .ok (.bipush 59, 2) := by decide +kernel
theorem dX11_init_454 : decode cX11_init 454 = .ok (.bipush 115, 2) := by decide +kernel
theorem dX11_init_456 : decode cX11_init 456 = .ok (.iastore, 1) := by decide +kernel
theorem dX11_init_457 : decode cX11_init 457 = .ok (.dup, 1) := by decide +kernel
theorem dX11_init_458 : decode cX11_init 458 = .ok (.bipush 60, 2) := by decide +kernel
theorem dX11_init_460 : decode cX11_init 460 = .ok (.bipush 32, 2) := by decide +kernel
theorem dX11_init_462 : decode cX11_init 462 = .ok (.iastore, 1) := by decide +kernel
theorem dX11_init_463 : decode cX11_init 463 = .ok (.dup, 1) := by decide +kernel
theorem dX11_init_464 : decode cX11_init 464 = .ok (.bipush 61, 2) := by decide +kernel
theorem dX11_init_466 : decode cX11_init 466 = .ok (.bipush 115, 2) := by decide +kernel
theorem dX11_init_468 : decode cX11_init 468 = .ok (.iastore, 1) := by decide +kernel
theorem dX11_init_469 : decode cX11_init 469 = .ok (.dup, 1) := by decide +kernel
theorem dX11_init_470 : decode cX11_init 470 = .ok (.bipush 62, 2) := by decide +kernel
theorem dX11_init_472 : decode cX11_init 472 = .ok (.bipush 107, 2) := by decide +kernel
theorem dX11_init_474 : decode cX11_init 474 = .ok (.iastore, 1) := by decide +kernel
theorem dX11_init_475 : decode cX11_init 475 = .ok (.dup, 1) := by decide +kernel
theorem dX11_init_476 : decode cX11_init 476 = .ok (.bipush 63, 2) := by decide +kernel
theorem dX11_init_478 : decode cX11_init 478 = .ok (.bipush 105, 2) := by decide +kernel
theorem dX11_init_480 : decode cX11_init 480 = .ok (.iastore, 1) := by decide +kernel
theorem dX11_init_481 : decode cX11_init 481 = .ok (.dup, 1) := by decide +kernel
theorem dX11_init_482 : decode cX11_init 482 = .ok (.bipush 64, 2) := by decide +kernel
theorem dX11_init_484 : decode cX11_init 484 = .ok (.bipush 108, 2) := by decide +kernel
theorem dX11_init_486 : decode cX11_init 486 = .ok (.iastore, 1) := by decide +kernel
theorem dX11_init_487 : decode cX11_init 487 = .ok (.dup, 1) := by decide +kernel
theorem dX11_init_488 : decode cX11_init 488 = .ok (.bipush 65, 2) := by decide +kernel
theorem dX11_init_490 : decode cX11_init 490 = .ok (.bipush 108, 2) := by decide +kernel
theorem dX11_init_492 : decode cX11_init 492 = .ok (.iastore, 1) := by decide +kernel
theorem dX11_init_493 : decode cX11_init 493 = .ok (.dup, 1) := by decide +kernel
theorem dX11_init_494 : decode cX11_init 494 = .ok (.bipush 66, 2) := by decide +kernel
theorem dX11_init_496 : decode cX11_init 496 = .ok (.bipush 32, 2) := by decide +kernel
theorem dX11_init_498 : decode cX11_init 498 = .ok (.iastore, 1) := by decide +kernel
theorem dX11_init_499 : decode cX11_init 499 = .ok (.dup, 1) := by decide +kernel
theorem dX11_init_500 : decode cX11_init 500 = .ok (.bipush 67, 2) := by decide +kernel
theorem dX11_init_502 : decode cX11_init 502 = .ok (.bipush 99, 2) := by decide +kernel
theorem dX11_init_504 : decode cX11_init 504 = .ok (.iastore, 1) := by decide +kernel
theorem dX11_init_505 : decode cX11_init 505 = .ok (.dup, 1) := by decide +kernel
theorem dX11_init_506 : decode cX11_init 506 = .ok (.bipush 68, 2) := by decide +kernel
theorem dX11_init_508 : decode cX11_init 508 = .ok (.bipush 111, 2) := by decide +kernel
theorem dX11_init_510 : decode cX11_init 510 = .ok (.iastore, 1) := by decide +kernel
theorem dX11_init_511 : decode cX11_init 511 = .ok (.dup, 1) := by decide +kernel
theorem dX11_init_512 : decode cX11_init 512 = .ok (.bipush 69, 2) := by decide +kernel
theorem dX11_init_514 : decode cX11_init 514 = .ok (.bipush 105, 2) := by decide +kernel
theorem dX11_init_516 : decode cX11_init 516 = .ok (.iastore, 1) := by decide +kernel
theorem dX11_init_517 : decode cX11_init 517 = .ok (.dup, 1) := by decide +kernel
theorem dX11_init_518 : decode cX11_init 518 = .ok (.bipush 70, 2) := by decide +kernel
theorem dX11_init_520 : decode cX11_init 520 = .ok (.bipush 110, 2) := by decide +kernel
theorem dX11_init_522 : decode cX11_init 522 = .ok (.iastore, 1) := by decide +kernel
theorem dX11_init_523 : decode cX11_init 523 = .ok (.dup, 1) := by decide +kernel
theorem dX11_init_524 : decode cX11_init 524 = .ok (.bipush 71, 2) := by decide +kernel
theorem dX11_init_526 : decode cX11_init 526 = .ok (.bipush 32, 2) := by decide +kernel
theorem dX11_init_528 : decode cX11_init 528 = .ok (.iastore, 1) := by decide +kernel
theorem dX11_init_529 : decode cX11_init 529 = .ok (.dup, 1) := by decide +kernel
theorem dX11_init_530 : decode cX11_init 530 = .ok (.bipush 72, 2) := by decide +kernel
theorem dX11_init_532 : decode cX11_init 532 = .ok (.bipush 100, 2) := by decide +kernel
theorem dX11_init_534 : decode cX11_init 534 = .ok (.iastore, 1) := by decide +kernel
theorem dX11_init_535 : decode cX11_init 535 = .ok (.dup, 1) := by decide +kernel
theorem dX11_init_536 : decode cX11_init 536 = .ok (.bipush 73, 2) := by decide +kernel
theorem dX11_init_538 : decode cX11_init 538 = .ok (.bipush 97, 2) := by decide +kernel
theorem dX11_init_540 : decode cX11_init 540 = .ok (.iastore, 1) := by decide +kernel
theorem dX11_init_541 : decode cX11_init 541 = .ok (.dup, 1) := by decide +kernel
theorem dX11_init_542 : decode cX11_init 542 = .ok (.bipush 74, 2) := by decide +kernel
theorem dX11_init_544 : decode cX11_init 544 = .ok (.bipush 121, 2) := by decide +kernel
theorem dX11_init_546 : decode cX11_init 546 = .ok (.iastore, 1) := by decide +kernel
theorem dX11_init_547 : decode cX11_init 547 = .ok (.dup, 1) := by decide +kernel
theorem dX11_init_548 : decode cX11_init 548 = .ok (.bipush 75, 2) := by decide +kernel
theorem dX11_init_550 : decode cX11_init 550 = .ok (.bipush 32, 2) := by decide +kernel
theorem dX11_init_552 : decode cX11_init 552 = .ok (.iastore, 1) := by decide +kernel
theorem dX11_init_553 : decode cX11_init 553 = .ok (.dup, 1) := by decide +kernel
theorem dX11_init_554 : decode cX11_init 554 = .ok (.bipush 76, 2) := by decide +kernel
theorem dX11_init_556 : decode cX11_init 556 = .ok (.bipush 108, 2) := by decide +kernel
theorem dX11_init_558 : decode cX11_init 558 = .ok (.iastore, 1) := by decide +kernel
theorem dX11_init_559 : decode cX11_init 559 = .ok (.dup, 1) := by decide +kernel
theorem dX11_init_560 : decode cX11_init 560 = .ok (.bipush 77, 2) := by decide +kernel
theorem dX11_init_562 : decode cX11_init 562 = .ok (.bipush 101, 2) := by decide +kernel
theorem dX11_init_564 : decode cX11_init 564 = .ok (.iastore, 1) := by decide +kernel
theorem dX11_init_565 : decode cX11_init 565 = .ok (.dup, 1) := by decide +kernel
theorem dX11_init_566 : decode cX11_init 566 = .ok (.bipush 78, 2) := by decide +kernel
theorem dX11_init_568 : decode cX11_init 568 = .ok (.bipush 97, 2) := by decide +kernel
theorem dX11_init_570 : decode cX11_init 570 = .ok (.iastore, 1) := by decide +kernel
theorem dX11_init_571 : decode cX11_init 571 = .ok (.dup, 1) := by decide +kernel
theorem dX11_init_572 : decode cX11_init 572 = .ok (.bipush 79, 2) := by decide +kernel
theorem dX11_init_574 : decode cX11_init 574 = .ok (.bipush 118, 2) := by decide +kernel
theorem dX11_init_576 : decode cX11_init 576 = .ok (.iastore, 1) := by decide +kernel
theorem dX11_init_577 : decode cX11_init 577 = .ok (.dup, 1) := by decide +kernel
theorem dX11_init_578 : decode cX11_init 578 = .ok (.bipush 80, 2) := by decide +kernel
theorem dX11_init_580 : decode cX11_init 580 = .ok (.bipush 101, 2) := by decide +kernel
theorem dX11_init_582 : decode cX11_init 582 = .ok (.iastore, 1) := by decide +kernel
theorem dX11_init_583 : decode cX11_init 583 = .ok (.dup, 1) := by decide +kernel
theorem dX11_init_584 : decode cX11_init 584 = .ok (.bipush 81, 2) := by decide +kernel
theorem dX11_init_586 : decode cX11_init 586 = .ok (.bipush 32, 2) := by decide +kernel
theorem dX11_init_588 : decode cX11_init 588 = .ok (.iastore, 1) := by decide +kernel
theorem dX11_init_589 : decode cX11_init 589 = .ok (.dup, 1) := by decide +kernel
theorem dX11_init_590 : decode cX11_init 590 = .ok (.bipush 82, 2) := by decide +kernel
theorem dX11_init_592 : decode cX11_init 592 = .ok (.bipush 116, 2) := by decide +kernel
theorem dX11_init_594 : decode cX11_init 594 = .ok (.iastore, 1) := by decide +kernel
theorem dX11_init_595 : decode cX11_init 595 = .ok (.dup, 1) := by decide +kernel
theorem dX11_init_596 : decode cX11_init 596 = .ok (.bipush 83, 2) := by decide +kernel
theorem dX11_init_598 : decode cX11_init 598 = .ok (.bipush 111, 2) := by decide +kernel
theorem dX11_init_600 : decode cX11_init 600 = .ok (.iastore, 1) := by decide +kernel
theorem dX11_init_601 : decode cX11_init 601 = .ok (.dup, 1) := by decide +kernel
theorem dX11_init_602 : decode cX11_init 602 = .ok (.bipush 84, 2) := by decide +kernel
theorem dX11_init_604 : decode cX11_init 604 = .ok (.bipush 32, 2) := by decide +kernel
theorem dX11_init_606 : decode cX11_init 606 = .ok (.iastore, 1) := by decide +kernel
theorem dX11_init_607 : decode cX11_init 607 = .ok (.dup, 1) := by decide +kernel
theorem dX11_init_608 : decode cX11_init 608 = .ok (.bipush 85, 2) := by decide +kernel
theorem dX11_init_610 : decode cX11_init 610 = .ok (.bipush 105, 2) := by decide +kernel
theorem dX11_init_612 : decode cX11_init 612 = .ok (.iastore, 1) := by decide +kernel
theorem dX11_init_613 : decode cX11_init 613 = .ok (.dup, 1) := by decide +kernel
theorem dX11_init_614 : decode cX11_init 614 = .ok (.bipush 86, 2) := by decide +kernel
theorem dX11_init_616 : decode cX11_init 616 = .ok (.bipush 102, 2) := by decide +kernel
theorem dX11_init_618 : decode cX11_init 618 = .ok (.iastore, 1) := by decide +kernel
theorem dX11_init_619 : decode cX11_init 619 = .ok (.dup, 1) := by decide +kernel
theorem dX11_init_620 : decode cX11_init 620 = .ok (.bipush 87, 2) := by decide +kernel
theorem dX11_init_622 : decode cX11_init 622 = .ok (.bipush 32, 2) := by decide +kernel
theorem dX11_init_624 : decode cX11_init 624 = .ok (.iastore, 1) := by decide +kernel
theorem dX11_init_625 : decode cX11_init 625 = .ok (.dup, 1) := by decide +kernel
theorem dX11_init_626 : decode cX11_init 626 = .ok (.bipush 88, 2) := by decide +kernel
theorem dX11_init_628 : decode cX11_init 628 = .ok (.bipush 114, 2) := by decide +kernel
theorem dX11_init_630 : decode cX11_init 630 = .ok (.iastore, 1) := by decide +kernel
theorem dX11_init_631 : decode cX11_init 631 = .ok (.dup, 1) := by decide +kernel
theorem dX11_init_632 : decode cX11_init 632 = .ok (.bipush 89, 2) := by decide +kernel
theorem dX11_init_634 : decode cX11_init 634 = .ok (.bipush 101, 2) := by decide +kernel
theorem dX11_init_636 : decode cX11_init 636 = .ok (.iastore, 1) := by decide +kernel
theorem dX11_init_637 : decode cX11_init 637 = .ok (.dup, 1) := by decide +kernel
theorem dX11_init_638 : decode cX11_init 638 = .ok (.bipush 90, 2) := by decide +kernel
theorem dX11_init_640 : decode cX11_init 640 = .ok (.bipush 115, 2) := by decide +kernel
theorem dX11_init_642 : decode cX11_init 642 = .ok (.iastore, 1) := by decide +kernel
theorem dX11_init_643 : decode cX11_init 643 = .ok (.dup, 1) := by decide +kernel
theorem dX11_init_644 : decode cX11_init 644 = .ok (.bipush 91, 2) := by decide +kernel
theorem dX11_init_646 : decode cX11_init 646 = .ok (.bipush 116, 2) := by decide +kernel
theorem dX11_init_648 : decode cX11_init 648 = .ok (.iastore, 1) := by decide +kernel
theorem dX11_init_649 : decode cX11_init 649 = .ok (.dup, 1) := by decide +kernel
theorem dX11_init_650 : decode cX11_init 650 = .ok (.bipush 92, 2) := by decide +kernel
theorem dX11_init_652 : decode cX11_init 652 = .ok (.bipush 32, 2) := by decide +kernel
theorem dX11_init_654 : decode cX11_init 654 = .ok (.iastore, 1) := by decide +kernel
theorem dX11_init_655 : decode cX11_init 655 = .ok (.putfield 43, 3) := by decide +kernel
theorem dX11_init_658 : decode cX11_init 658 = .ok (.aload_n 0, 1) := by decide +kernel
theorem dX11_init_659 : decode cX11_init 659 = .ok (.bipush 32, 2) := by decide +kernel
theorem dX11_init_661 : decode cX11_init 661 = .ok (.newarray .int, 2) := by decide +kernel
theorem dX11_init_663 : decode cX11_init 663 = .ok (.putfield 46, 3) := by decide +kernel
theorem dX11_init_666 : decode cX11_init 666 = .ok (.aload_n 0, 1) := by decide +kernel
theorem dX11_init_667 : decode cX11_init 667 = .ok (.bipush 32, 2) := by decide +kernel
theorem dX11_init_669 : decode cX11_init 669 = .ok (.newarray .int, 2) := by decide +kernel
theorem dX11_init_671 : decode cX11_init 671 = .ok (.putfield 49, 3) := by decide +kernel
theorem dX11_init_674 : decode cX11_init 674 = .ok (.aload_n 0, 1) := by decide +kernel
theorem dX11_init_675 : decode cX11_init 675 = .ok (.bipush 32, 2) := by decide +kernel
theorem dX11_init_677 : decode cX11_init 677 = .ok (.newarray .int, 2) := by decide +kernel
theorem dX11_init_679 : decode cX11_init 679 = .ok (.putfield 52, 3) := by decide +kernel
theorem dX11_init_682 : decode cX11_init 682 = .ok (.aload_n 0, 1) := by decide +kernel
theorem dX11_init_683 : decode cX11_init 683 = .ok (.sipush 800, 3) := by decide +kernel
theorem dX11_init_686 : decode cX11_init 686 = .ok (.newarray .int, 2) := by decide +kernel
theorem dX11_init_688 : decode cX11_init 688 = .ok (.putfield 55, 3) := by decide +kernel
theorem dX11_init_691 : decode cX11_init 691 = .ok (.aload_n 0, 1) := by decide +kernel
theorem dX11_init_692 : decode cX11_init 692 = .ok (.sipush 800, 3) := by decide +kernel
theorem dX11_init_695 : decode cX11_init 695 = .ok (.newarray .int, 2) := by decide +kernel
theorem dX11_init_697 : decode cX11_init 697 = .ok (.putfield 58, 3) := by decide +kernel
theorem dX11_init_700 : decode cX11_init 700 = .ok (.aload_n 0, 1) := by decide +kernel
theorem dX11_init_701 : decode cX11_init 701 = .ok (.bipush 40, 2) := by decide +kernel
theorem dX11_init_703 : decode cX11_init 703 = .ok (.newarray .int, 2) := by decide +kernel
theorem dX11_init_705 : decode cX11_init 705 = .ok (.putfield 61, 3) := by decide +kernel
theorem dX11_init_708 : decode cX11_init 708 = .ok (.aload_n 0, 1) := by decide +kernel
theorem dX11_init_709 : decode cX11_init 709 = .ok (.iconst (-1), 1) := by decide +kernel
theorem dX11_init_710 : decode cX11_init 710 = .ok (.putfield 64, 3) := by decide +kernel
theorem dX11_init_713 : decode cX11_init 713 = .ok (.aload_n 0, 1) := by decide +kernel
theorem dX11_init_714 : decode cX11_init 714 = .ok (.bipush 12, 2) := by decide +kernel
theorem dX11_init_716 : decode cX11_init 716 = .ok (.newarray .int, 2) := by decide +kernel
theorem dX11_init_718 : decode cX11_init 718 = .ok (.putfield 68, 3) := by decide +kernel
theorem dX11_init_721 : decode cX11_init 721 = .ok (.aload_n 0, 1) := by decide +kernel
theorem dX11_init_722 : decode cX11_init 722 = .ok (.sipush 156, 3) := by decide +kernel
theorem dX11_init_725 : decode cX11_init 725 = .ok (.newarray .int, 2) := by decide +kernel
theorem dX11_init_727 : decode cX11_init 727 = .ok (.putfield 71, 3) := by decide +kernel
theorem dX11_init_730 : decode cX11_init 730 = .ok (.aload_n 0, 1) := by decide +kernel
theorem dX11_init_731 : decode cX11_init 731 = .ok (.sipush 156, 3) := by decide +kernel
theorem dX11_init_734 : decode cX11_init 734 = .ok (.newarray .int, 2) := by decide +kernel
theorem dX11_init_736 : decode cX11_init 736 = .ok (.putfield 74, 3) := by decide +kernel
theorem dX11_init_739 : decode cX11_init 739 = .ok (.aload_n 0, 1) := by decide +kernel
theorem dX11_init_740 : decode cX11_init 740 = .ok (.sipush 156, 3) := by decide +kernel
theorem dX11_init_743 : decode cX11_init 743 = .ok (.newarray .int, 2) := by decide +kernel
theorem dX11_init_745 : decode cX11_init 745 = .ok (.putfield 77, 3) := by decide +kernel
theorem dX11_init_748 : decode cX11_init 748 = .ok (.aload_n 0, 1) := by decide +kernel
theorem dX11_init_749 : decode cX11_init 749 = .ok (.bipush 8, 2) := by decide +kernel
theorem dX11_init_751 : decode cX11_init 751 = .ok (.newarray .int, 2) := by decide +kernel
theorem dX11_init_753 : decode cX11_init 753 = .ok (.putfield 80, 3) := by decide +kernel
theorem dX11_init_756 : decode cX11_init 756 = .ok (.aload_n 0, 1) := by decide +kernel
theorem dX11_init_757 : decode cX11_init 757 = .ok (.bipush 8, 2) := by decide +kernel
theorem dX11_init_759 : decode cX11_init 759 = .ok (.newarray .int, 2) := by decide +kernel
theorem dX11_init_761 : decode cX11_init 761 = .ok (.putfield 83, 3) := by decide +kernel
theorem dX11_init_764 : decode cX11_init 764 = .ok (.aload_n 0, 1) := by decide +kernel
theorem dX11_init_765 : decode cX11_init 765 = .ok (.sipush 360, 3) := by decide +kernel
theorem dX11_init_768 : decode cX11_init 768 = .ok (.newarray .int, 2) := by decide +kernel
theorem dX11_init_770 : decode cX11_init 770 = .ok (.putfield 86, 3) := by decide +kernel
theorem dX11_init_773 : decode cX11_init 773 = .ok (.aload_n 0, 1) := by decide +kernel
theorem dX11_init_774 : decode cX11_init 774 = .ok (.bipush 10, 2) := by decide +kernel
theorem dX11_init_776 : decode cX11_init 776 = .ok (.newarray .int, 2) := by decide +kernel
theorem dX11_init_778 : decode cX11_init 778 = .ok (.putfield 89, 3) := by decide +kernel
theorem dX11_init_781 : decode cX11_init 781 = .ok (.aload_n 0, 1) := by decide +kernel
theorem dX11_init_782 : decode cX11_init 782 = .ok (.sipush 420, 3) := by decide +kernel
theorem dX11_init_785 : decode cX11_init 785 = .ok (.newarray .int, 2) := by decide +kernel
theorem dX11_init_787 : decode cX11_init 787 = .ok (.putfield 92, 3) := by decide +kernel
theorem dX11_init_790 : decode cX11_init 790 = .ok (.aload_n 0, 1) := by decide +kernel
theorem dX11_init_791 : decode cX11_init 791 = .ok (.bipush 12, 2) := by decide +kernel
theorem dX11_init_793 : decode cX11_init 793 = .ok (.newarray .int, 2) := by decide +kernel
theorem dX11_init_795 : decode cX11_init 795 = .ok (.putfield 95, 3) := by decide +kernel
theorem dX11_init_798 : decode cX11_init 798 = .ok (.aload_n 0, 1) := by decide +kernel
theorem dX11_init_799 : decode cX11_init 799 = .ok (.iconst (-1), 1) := by decide +kernel
theorem dX11_init_800 : decode cX11_init 800 = .ok (.putfield 98, 3) := by decide +kernel
theorem dX11_init_803 : decode cX11_init 803 = .ok (.aload_n 0, 1) := by decide +kernel
theorem dX11_init_804 : decode cX11_init 804 = .ok (.iconst 4, 1) := by decide +kernel
theorem dX11_init_805 : decode cX11_init 805 = .ok (.newarray .int, 2) := by decide +kernel
theorem dX11_init_807 : decode cX11_init 807 = .ok (.putfield 101, 3) := by decide +kernel
theorem dX11_init_810 : decode cX11_init 810 = .ok (.aload_n 0, 1) := by decide +kernel
theorem dX11_init_811 : decode cX11_init 811 = .ok (.sipush 3200, 3) := by decide +kernel
theorem dX11_init_814 : decode cX11_init 814 = .ok (.newarray .int, 2) := by decide +kernel
theorem dX11_init_816 : decode cX11_init 816 = .ok (.putfield 104, 3) := by decide +kernel
theorem dX11_init_819 : decode cX11_init 819 = .ok (.return_, 1) := by decide +kernel
theorem dX11_isIn_0 : decode cX11_isIn 0 = .ok (.iload_n 1, 1) := by decide +kernel
theorem dX11_isIn_1 : decode cX11_isIn 1 = .ok (.iload_n 2, 1) := by decide +kernel
theorem dX11_isIn_2 : decode cX11_isIn 2 = .ok (.if_icmp .lt 12, 3) := by decide +kernel
theorem dX11_isIn_5 : decode cX11_isIn 5 = .ok (.iload_n 1, 1) := by decide +kernel
theorem dX11_isIn_6 : decode cX11_isIn 6 = .ok (.iload_n 3, 1) := by decide +kernel
theorem dX11_isIn_7 : decode cX11_isIn 7 = .ok (.if_icmp .gt 7, 3) := by decide +kernel
theorem dX11_isIn_10 : decode cX11_isIn 10 = .ok (.iconst 1, 1) := by decide +kernel
theorem dX11_isIn_11 : decode cX11_isIn 11 = .ok (.goto 4, 3) := by decide +kernel
theorem dX11_isIn_14 : decode cX11_isIn 14 = .ok (.iconst 0, 1) := by decide +kernel
theorem dX11_isIn_15 : decode cX11_isIn 15 = .ok (.ireturn, 1) := by decide +kernel
theorem dX11_ones_0 : decode cX11_ones 0 = .ok (.iconst 0, 1) := by decide +kernel
theorem dX11_ones_1 : decode cX11_ones 1 = .ok (.istore_n 2, 1) := by decide +kernel
theorem dX11_ones_2 : decode cX11_ones 2 = .ok (.iload_n 1, 1) := by decide +kernel
theorem dX11_ones_3 : decode cX11_ones 3 = .ok (.istore_n 3, 1) := by decide +kernel
theorem dX11_ones_4 : decode cX11_ones 4 = .ok (.iload_n 3, 1) := by decide +kernel
theorem dX11_ones_5 : decode cX11_ones 5 = .ok (.ifCond .eq 16, 3) := by decide +kernel
theorem dX11_ones_8 : decode cX11_ones 8 = .ok (.iload_n 2, 1) := by decide +kernel
theorem dX11_ones_9 : decode cX11_ones 9 = .ok (.iconst 1, 1) := by decide +kernel
theorem dX11_ones_10 : decode cX11_ones 10 = .ok (.iadd, 1) := by decide +kernel
theorem dX11_ones_11 : decode cX11_ones 11 = .ok (.istore_n 2, 1) := by decide +kernel
theorem dX11_ones_12 : decode cX11_ones 12 = .ok (.iload_n 3, 1) := by decide +kernel
theorem dX11_ones_13 : decode cX11_ones 13 = .ok (.iload_n 3, 1) := by decide +kernel
theorem dX11_ones_14 : decode cX11_ones 14 = .ok (.iconst 1, 1) := by decide +kernel
theorem dX11_ones_15 : decode cX11_ones 15 = .ok (.isub, 1) := by decide +kernel
theorem dX11_ones_16 : decode cX11_ones 16 = .ok (.iand, 1) := by decide +kernel
theorem dX11_ones_17 : decode cX11_ones 17 = .ok (.istore_n 3, 1) := by decide +kernel
theorem dX11_ones_18 : decode cX11_ones 18 = .ok (.goto (-14), 3) := by decide +kernel
theorem dX11_ones_21 : decode cX11_ones 21 = .ok (.iload_n 2, 1) := by decide +kernel
theorem dX11_ones_22 : decode cX11_ones 22 = .ok (.ireturn, 1) := by decide +kernel
theorem dX11_keepsAhead_0 : decode cX11_keepsAhead 0 = .ok (.aload_n 0, 1) := by decide +kernel
theorem dX11_keepsAhead_1 : decode cX11_keepsAhead 1 = .ok (.getfield 110, 3) := by decide +kernel
theorem dX11_keepsAhead_4 : decode cX11_keepsAhead 4 = .ok (.bipush 8, 2) := by decide +kernel
theorem dX11_keepsAhead_6 : decode cX11_keepsAhead 6 = .ok (.if_icmp .ne 49, 3) := by decide +kernel
theorem dX11_keepsAhead_9 : decode cX11_keepsAhead 9 = .ok (.aload_n 0, 1) := by decide +kernel
theorem dX11_keepsAhead_10 : decode cX11_keepsAhead 10 = .ok (.aload_n 0, 1) := by decide +kernel
theorem dX11_keepsAhead_11 : decode cX11_keepsAhead 11 = .ok (.getfield 110, 3) := by decide +kernel
theorem dX11_keepsAhead_14 : decode cX11_keepsAhead 14 = .ok (.iconst 1, 1) := by decide +kernel
theorem dX11_keepsAhead_15 : decode cX11_keepsAhead 15 = .ok (.isub, 1) := by decide +kernel
theorem dX11_keepsAhead_16 : decode cX11_keepsAhead 16 = .ok (.putfield 110, 3) := by decide +kernel
theorem dX11_keepsAhead_19 : decode cX11_keepsAhead 19 = .ok (.iconst 0, 1) := by decide +kernel
theorem dX11_keepsAhead_20 : decode cX11_keepsAhead 20 = .ok (.istore_n 1, 1) := by decide +kernel
theorem dX11_keepsAhead_21 : decode cX11_keepsAhead 21 = .ok (.iload_n 1, 1) := by decide +kernel
theorem dX11_keepsAhead_22 : decode cX11_keepsAhead 22 = .ok (.sipush 148, 3) := by decide +kernel
theorem dX11_keepsAhead_25 : decode cX11_keepsAhead 25 = .ok (.aload_n 0, 1) := by decide +kernel
theorem dX11_keepsAhead_26 : decode cX11_keepsAhead 26 = .ok (.getfield 110, 3) := by decide +kernel
theorem dX11_keepsAhead_29 : decode cX11_keepsAhead 29 = .ok (.imul, 1) := by decide +kernel
theorem dX11_keepsAhead_30 : decode cX11_keepsAhead 30 = .ok (.if_icmp .ge 25, 3) := by decide +kernel
theorem dX11_keepsAhead_33 : decode cX11_keepsAhead 33 = .ok (.aload_n 0, 1) := by decide +kernel
theorem dX11_keepsAhead_34 : decode cX11_keepsAhead 34 = .ok (.getfield 13, 3) := by decide +kernel
theorem dX11_keepsAhead_37 : decode cX11_keepsAhead 37 = .ok (.iload_n 1, 1) := by decide +kernel
theorem dX11_keepsAhead_38 : decode cX11_keepsAhead 38 = .ok (.aload_n 0, 1) := by decide +kernel
theorem dX11_keepsAhead_39 : decode cX11_keepsAhead 39 = .ok (.getfield 13, 3) := by decide +kernel
theorem dX11_keepsAhead_42 : decode cX11_keepsAhead 42 = .ok (.iload_n 1, 1) := by decide +kernel
theorem dX11_keepsAhead_43 : decode cX11_keepsAhead 43 = .ok (.sipush 148, 3) := by decide +kernel
theorem dX11_keepsAhead_46 : decode cX11_keepsAhead 46 = .ok (.iadd, 1) := by decide +kernel
theorem dX11_keepsAhead_47 : decode cX11_keepsAhead 47 = .ok (.iaload, 1) := by decide +kernel
theorem dX11_keepsAhead_48 : decode cX11_keepsAhead 48 = .ok (.iastore, 1) := by decide +kernel
theorem dX11_keepsAhead_49 : decode cX11_keepsAhead 49 = .ok (.iinc 1 1, 3) := by decide +kernel
theorem dX11_keepsAhead_52 : decode cX11_keepsAhead 52 = .ok (.goto (-31), 3) := by decide +kernel
theorem dX11_keepsAhead_55 : decode cX11_keepsAhead 55 = .ok (.iconst 0, 1) := by decide +kernel
theorem dX11_keepsAhead_56 : decode cX11_keepsAhead 56 = .ok (.istore_n 1, 1) := by decide +kernel
theorem dX11_keepsAhead_57 : decode cX11_keepsAhead 57 = .ok (.iload_n 1, 1) := by decide +kernel
theorem dX11_keepsAhead_58 : decode cX11_keepsAhead 58 = .ok (.sipush 148, 3) := by decide +kernel
theorem dX11_keepsAhead_61 : decode cX11_keepsAhead 61 = .ok (.if_icmp .ge 30, 3) := by decide +kernel
theorem dX11_keepsAhead_64 : decode cX11_keepsAhead 64 = .ok (.aload_n 0, 1) := by decide +kernel
theorem dX11_keepsAhead_65 : decode cX11_keepsAhead 65 = .ok (.getfield 13, 3) := by decide +kernel
theorem dX11_keepsAhead_68 : decode cX11_keepsAhead 68 = .ok (.sipush 148, 3) := by decide +kernel
theorem dX11_keepsAhead_71 : decode cX11_keepsAhead 71 = .ok (.aload_n 0, 1) := by decide +kernel
theorem dX11_keepsAhead_72 : decode cX11_keepsAhead 72 = .ok (.getfield 110, 3) := by decide +kernel
theorem dX11_keepsAhead_75 : decode cX11_keepsAhead 75 = .ok (.imul, 1) := by decide +kernel
theorem dX11_keepsAhead_76 : decode cX11_keepsAhead 76 = .ok (.iload_n 1, 1) := by decide +kernel
theorem dX11_keepsAhead_77 : decode cX11_keepsAhead 77 = .ok (.iadd, 1) := by decide +kernel
theorem dX11_keepsAhead_78 : decode cX11_keepsAhead 78 = .ok (.aload_n 0, 1) := by decide +kernel
theorem dX11_keepsAhead_79 : decode cX11_keepsAhead 79 = .ok (.getfield 7, 3) := by decide +kernel
theorem dX11_keepsAhead_82 : decode cX11_keepsAhead 82 = .ok (.iload_n 1, 1) := by decide +kernel
theorem dX11_keepsAhead_83 : decode cX11_keepsAhead 83 = .ok (.iaload, 1) := by decide +kernel
theorem dX11_keepsAhead_84 : decode cX11_keepsAhead 84 = .ok (.iastore, 1) := by decide +kernel
theorem dX11_keepsAhead_85 : decode cX11_keepsAhead 85 = .ok (.iinc 1 1, 3) := by decide +kernel
theorem dX11_keepsAhead_88 : decode cX11_keepsAhead 88 = .ok (.goto (-31), 3) := by decide +kernel
theorem dX11_keepsAhead_91 : decode cX11_keepsAhead 91 = .ok (.aload_n 0, 1) := by decide +kernel
theorem dX11_keepsAhead_92 : decode cX11_keepsAhead 92 = .ok (.aload_n 0, 1) := by decide +kernel
theorem dX11_keepsAhead_93 : decode cX11_keepsAhead 93 = .ok (.getfield 110, 3) := by decide +kernel
theorem dX11_keepsAhead_96 : decode cX11_keepsAhead 96 = .ok (.iconst 1, 1) := by decide +kernel
theorem dX11_keepsAhead_97 : decode cX11_keepsAhead 97 = .ok (.iadd, 1) := by decide +kernel
theorem dX11_keepsAhead_98 : decode cX11_keepsAhead 98 = .ok (.putfield 110, 3) := by decide +kernel
theorem dX11_keepsAhead_101 : decode cX11_keepsAhead 101 = .ok (.return_, 1) := by decide +kernel
theorem dX11_undo_0 : decode cX11_undo 0 = .ok (.aload_n 0, 1) := by decide +kernel
theorem dX11_undo_1 : decode cX11_undo 1 = .ok (.iconst 0, 1) := by decide +kernel
theorem dX11_undo_2 : decode cX11_undo 2 = .ok (.putfield 107, 3) := by decide +kernel
theorem dX11_undo_5 : decode cX11_undo 5 = .ok (.aload_n 0, 1) := by decide +kernel
theorem dX11_undo_6 : decode cX11_undo 6 = .ok (.getfield 110, 3) := by decide +kernel
theorem dX11_undo_9 : decode cX11_undo 9 = .ok (.ifCond .ne 5, 3) := by decide +kernel
theorem dX11_undo_12 : decode cX11_undo 12 = .ok (.iconst 0, 1) := by decide +kernel
theorem dX11_undo_13 : decode cX11_undo 13 = .ok (.ireturn, 1) := by decide +kernel
theorem dX11_undo_14 : decode cX11_undo 14 = .ok (.aload_n 0, 1) := by decide +kernel
theorem dX11_undo_15 : decode cX11_undo 15 = .ok (.aload_n 0, 1) := by decide +kernel
theorem dX11_undo_16 : decode cX11_undo 16 = .ok (.getfield 110, 3) := by decide +kernel
theorem dX11_undo_19 : decode cX11_undo 19 = .ok (.iconst 1, 1) := by decide +kernel
theorem dX11_undo_20 : decode cX11_undo 20 = .ok (.isub, 1) := by decide +kernel
theorem dX11_undo_21 : decode cX11_undo 21 = .ok (.putfield 110, 3) := by decide +kernel
theorem dX11_undo_24 : decode cX11_undo 24 = .ok (.iconst 0, 1) := by decide +kernel
theorem dX11_undo_25 : decode cX11_undo 25 = .ok (.istore_n 1, 1) := by decide +kernel
theorem dX11_undo_26 : decode cX11_undo 26 = .ok (.iload_n 1, 1) := by decide +kernel
theorem dX11_undo_27 : decode cX11_undo 27 = .ok (.sipush 148, 3) := by decide +kernel
theorem dX11_undo_30 : decode cX11_undo 30 = .ok (.if_icmp .ge 30, 3) := by decide +kernel
theorem dX11_undo_33 : decode cX11_undo 33 = .ok (.aload_n 0, 1) := by decide +kernel
theorem dX11_undo_34 : decode cX11_undo 34 = .ok (.getfield 7, 3) := by decide +kernel
theorem dX11_undo_37 : decode cX11_undo 37 = .ok (.iload_n 1, 1) := by decide +kernel
theorem dX11_undo_38 : decode cX11_undo 38 = .ok (.aload_n 0, 1) := by decide +kernel
theorem dX11_undo_39 : decode cX11_undo 39 = .ok (.getfield 13, 3) := by decide +kernel
theorem dX11_undo_42 : decode cX11_undo 42 = .ok (.sipush 148, 3) := by decide +kernel
theorem dX11_undo_45 : decode cX11_undo 45 = .ok (.aload_n 0, 1) := by decide +kernel
theorem dX11_undo_46 : decode cX11_undo 46 = .ok (.getfield 110, 3) := by decide +kernel
theorem dX11_undo_49 : decode cX11_undo 49 = .ok (.imul, 1) := by decide +kernel
theorem dX11_undo_50 : decode cX11_undo 50 = .ok (.iload_n 1, 1) := by decide +kernel
theorem dX11_undo_51 : decode cX11_undo 51 = .ok (.iadd, 1) := by decide +kernel
theorem dX11_undo_52 : decode cX11_undo 52 = .ok (.iaload, 1) := by decide +kernel
theorem dX11_undo_53 : decode cX11_undo 53 = .ok (.iastore, 1) := by decide +kernel
theorem dX11_undo_54 : decode cX11_undo 54 = .ok (.iinc 1 1, 3) := by decide +kernel
theorem dX11_undo_57 : decode cX11_undo 57 = .ok (.goto (-31), 3) := by decide +kernel
theorem dX11_undo_60 : decode cX11_undo 60 = .ok (.aload_n 0, 1) := by decide +kernel
theorem dX11_undo_61 : decode cX11_undo 61 = .ok (.invokevirtual 113, 3) := by decide +kernel
theorem dX11_undo_64 : decode cX11_undo 64 = .ok (.iconst 1, 1) := by decide +kernel
theorem dX11_undo_65 : decode cX11_undo 65 = .ok (.ireturn, 1) := by decide +kernel
theorem dX11_thinks_0 : decode cX11_thinks 0 = .ok (.iconst 0, 1) := by decide +kernel
theorem dX11_thinks_1 : decode cX11_thinks 1 = .ok (.istore_n 1, 1) := by decide +kernel
theorem dX11_thinks_2 : decode cX11_thinks 2 = .ok (.iload_n 1, 1) := by decide +kernel
theorem dX11_thinks_3 : decode cX11_thinks 3 = .ok (.sipush 148, 3) := by decide +kernel
theorem dX11_thinks_6 : decode cX11_thinks 6 = .ok (.if_icmp .ge 21, 3) := by decide +kernel
theorem dX11_thinks_9 : decode cX11_thinks 9 = .ok (.aload_n 0, 1) := by decide +kernel
theorem dX11_thinks_10 : decode cX11_thinks 10 = .ok (.getfield 16, 3) := by decide +kernel
theorem dX11_thinks_13 : decode cX11_thinks 13 = .ok (.iload_n 1, 1) := by decide +kernel
theorem dX11_thinks_14 : decode cX11_thinks 14 = .ok (.aload_n 0, 1) := by decide +kernel
theorem dX11_thinks_15 : decode cX11_thinks 15 = .ok (.getfield 7, 3) := by decide +kernel
theorem dX11_thinks_18 : decode cX11_thinks 18 = .ok (.iload_n 1, 1) := by decide +kernel
theorem dX11_thinks_19 : decode cX11_thinks 19 = .ok (.iaload, 1) := by decide +kernel
theorem dX11_thinks_20 : decode cX11_thinks 20 = .ok (.iastore, 1) := by decide +kernel
theorem dX11_thinks_21 : decode cX11_thinks 21 = .ok (.iinc 1 1, 3) := by decide +kernel
theorem dX11_thinks_24 : decode cX11_thinks 24 = .ok (.goto (-22), 3) := by decide +kernel
theorem dX11_thinks_27 : decode cX11_thinks 27 = .ok (.aload_n 0, 1) := by decide +kernel
theorem dX11_thinks_28 : decode cX11_thinks 28 = .ok (.iconst 1, 1) := by decide +kernel
theorem dX11_thinks_29 : decode cX11_thinks 29 = .ok (.putfield 116, 3) := by decide +kernel
theorem dX11_thinks_32 : decode cX11_thinks 32 = .ok (.return_, 1) := by decide +kernel
theorem dX11_endsThought_0 : decode cX11_endsThought 0 = .ok (.iconst 0, 1) := by decide +kernel
theorem dX11_endsThought_1 : decode cX11_endsThought 1 = .ok (.istore_n 1, 1) := by decide +kernel
theorem dX11_endsThought_2 : decode cX11_endsThought 2 = .ok (.iload_n 1, 1) := by decide +kernel
theorem dX11_endsThought_3 : decode cX11_endsThought 3 = .ok (.sipush 148, 3) := by decide +kernel
theorem dX11_endsThought_6 : decode cX11_endsThought 6 = .ok (.if_icmp .ge 21, 3) := by decide +kernel
theorem dX11_endsThought_9 : decode cX11_endsThought 9 = .ok (.aload_n 0, 1) := by decide +kernel
theorem dX11_endsThought_10 : decode cX11_endsThought 10 = .ok (.getfield 7, 3) := by decide +kernel
theorem dX11_endsThought_13 : decode cX11_endsThought 13 = .ok (.iload_n 1, 1) := by decide +kernel
theorem dX11_endsThought_14 : decode cX11_endsThought 14 = .ok (.aload_n 0, 1) := by decide +kernel
theorem dX11_endsThought_15 : decode cX11_endsThought 15 = .ok (.getfield 16, 3) := by decide +kernel
theorem dX11_endsThought_18 : decode cX11_endsThought 18 = .ok (.iload_n 1, 1) := by decide +kernel
theorem dX11_endsThought_19 : decode cX11_endsThought 19 = .ok (.iaload, 1) := by decide +kernel
theorem dX11_endsThought_20 : decode cX11_endsThought 20 = .ok (.iastore, 1) := by decide +kernel
theorem dX11_endsThought_21 : decode cX11_endsThought 21 = .ok (.iinc 1 1, 3) := by decide +kernel
theorem dX11_endsThought_24 : decode cX11_endsThought 24 = .ok (.goto (-22), 3) := by decide +kernel
theorem dX11_endsThought_27 : decode cX11_endsThought 27 = .ok (.aload_n 0, 1) := by decide +kernel
theorem dX11_endsThought_28 : decode cX11_endsThought 28 = .ok (.iconst 0, 1) := by decide +kernel
theorem dX11_endsThought_29 : decode cX11_endsThought 29 = .ok (.putfield 116, 3) := by decide +kernel
theorem dX11_endsThought_32 : decode cX11_endsThought 32 = .ok (.aload_n 0, 1) := by decide +kernel
theorem dX11_endsThought_33 : decode cX11_endsThought 33 = .ok (.invokevirtual 113, 3) := by decide +kernel
theorem dX11_endsThought_36 : decode cX11_endsThought 36 = .ok (.return_, 1) := by decide +kernel
theorem dX11_state_0 : decode cX11_state 0 = .ok (.aload_n 0, 1) := by decide +kernel
theorem dX11_state_1 : decode cX11_state 1 = .ok (.iconst 0, 1) := by decide +kernel
theorem dX11_state_2 : decode cX11_state 2 = .ok (.putfield 107, 3) := by decide +kernel
theorem dX11_state_5 : decode cX11_state 5 = .ok (.aload_n 0, 1) := by decide +kernel
theorem dX11_state_6 : decode cX11_state 6 = .ok (.getfield 7, 3) := by decide +kernel
theorem dX11_state_9 : decode cX11_state 9 = .ok (.iconst 1, 1) := by decide +kernel
theorem dX11_state_10 : decode cX11_state 10 = .ok (.iaload, 1) := by decide +kernel
theorem dX11_state_11 : decode cX11_state 11 = .ok (.istore_n 2, 1) := by decide +kernel
theorem dX11_state_12 : decode cX11_state 12 = .ok (.aload_n 0, 1) := by decide +kernel
theorem dX11_state_13 : decode cX11_state 13 = .ok (.getfield 7, 3) := by decide +kernel
theorem dX11_state_16 : decode cX11_state 16 = .ok (.iconst 1, 1) := by decide +kernel
theorem dX11_state_17 : decode cX11_state 17 = .ok (.iload_n 1, 1) := by decide +kernel
theorem dX11_state_18 : decode cX11_state 18 = .ok (.iastore, 1) := by decide +kernel
theorem dX11_state_19 : decode cX11_state 19 = .ok (.aload_n 0, 1) := by decide +kernel
theorem dX11_state_20 : decode cX11_state 20 = .ok (.iconst 0, 1) := by decide +kernel
theorem dX11_state_21 : decode cX11_state 21 = .ok (.putfield 110, 3) := by decide +kernel
theorem dX11_state_24 : decode cX11_state 24 = .ok (.iload_n 2, 1) := by decide +kernel
theorem dX11_state_25 : decode cX11_state 25 = .ok (.ireturn, 1) := by decide +kernel
theorem dX11_draw_0 : decode cX11_draw 0 = .ok (.aload_n 0, 1) := by decide +kernel
theorem dX11_draw_1 : decode cX11_draw 1 = .ok (.getfield 7, 3) := by decide +kernel
theorem dX11_draw_4 : decode cX11_draw 4 = .ok (.iconst 1, 1) := by decide +kernel
theorem dX11_draw_5 : decode cX11_draw 5 = .ok (.ldc 120, 2) := by decide +kernel
theorem dX11_draw_7 : decode cX11_draw 7 = .ok (.aload_n 0, 1) := by decide +kernel
theorem dX11_draw_8 : decode cX11_draw 8 = .ok (.getfield 7, 3) := by decide +kernel
theorem dX11_draw_11 : decode cX11_draw 11 = .ok (.iconst 1, 1) := by decide +kernel
theorem dX11_draw_12 : decode cX11_draw 12 = .ok (.iaload, 1) := by decide +kernel
theorem dX11_draw_13 : decode cX11_draw 13 = .ok (.imul, 1) := by decide +kernel
theorem dX11_draw_14 : decode cX11_draw 14 = .ok (.ldc 121, 2) := by decide +kernel
theorem dX11_draw_16 : decode cX11_draw 16 = .ok (.iadd, 1) := by decide +kernel
theorem dX11_draw_17 : decode cX11_draw 17 = .ok (.iastore, 1) := by decide +kernel
theorem dX11_draw_18 : decode cX11_draw 18 = .ok (.aload_n 0, 1) := by decide +kernel
theorem dX11_draw_19 : decode cX11_draw 19 = .ok (.getfield 7, 3) := by decide +kernel
theorem dX11_draw_22 : decode cX11_draw 22 = .ok (.iconst 1, 1) := by decide +kernel
theorem dX11_draw_23 : decode cX11_draw 23 = .ok (.iaload, 1) := by decide +kernel
theorem dX11_draw_24 : decode cX11_draw 24 = .ok (.bipush 8, 2) := by decide +kernel
theorem dX11_draw_26 : decode cX11_draw 26 = .ok (.iushr, 1) := by decide +kernel
theorem dX11_draw_27 : decode cX11_draw 27 = .ok (.iload_n 1, 1) := by decide +kernel
theorem dX11_draw_28 : decode cX11_draw 28 = .ok (.irem, 1) := by decide +kernel
theorem dX11_draw_29 : decode cX11_draw 29 = .ok (.ireturn, 1) := by decide +kernel
theorem dX11_isPerson_0 : decode cX11_isPerson 0 = .ok (.iload_n 1, 1) := by decide +kernel
theorem dX11_isPerson_1 : decode cX11_isPerson 1 = .ok (.ifCond .lt 15, 3) := by decide +kernel
theorem dX11_isPerson_4 : decode cX11_isPerson 4 = .ok (.iload_n 1, 1) := by decide +kernel
theorem dX11_isPerson_5 : decode cX11_isPerson 5 = .ok (.aload_n 0, 1) := by decide +kernel
theorem dX11_isPerson_6 : decode cX11_isPerson 6 = .ok (.getfield 122, 3) := by decide +kernel
theorem dX11_isPerson_9 : decode cX11_isPerson 9 = .ok (.if_icmp .ge 7, 3) := by decide +kernel
theorem dX11_isPerson_12 : decode cX11_isPerson 12 = .ok (.iconst 1, 1) := by decide +kernel
theorem dX11_isPerson_13 : decode cX11_isPerson 13 = .ok (.goto 4, 3) := by decide +kernel
theorem dX11_isPerson_16 : decode cX11_isPerson 16 = .ok (.iconst 0, 1) := by decide +kernel
theorem dX11_isPerson_17 : decode cX11_isPerson 17 = .ok (.ireturn, 1) := by decide +kernel
theorem dX11_isLetter28_0 : decode cX11_isLetter28 0 = .ok (.iload_n 1, 1) := by decide +kernel
theorem dX11_isLetter28_1 : decode cX11_isLetter28 1 = .ok (.ifCond .lt 13, 3) := by decide +kernel
theorem dX11_isLetter28_4 : decode cX11_isLetter28 4 = .ok (.iload_n 1, 1) := by decide +kernel
theorem dX11_isLetter28_5 : decode cX11_isLetter28 5 = .ok (.bipush 28, 2) := by decide +kernel
theorem dX11_isLetter28_7 : decode cX11_isLetter28 7 = .ok (.if_icmp .ge 7, 3) := by decide +kernel
theorem dX11_isLetter28_10 : decode cX11_isLetter28 10 = .ok (.iconst 1, 1) := by decide +kernel
theorem dX11_isLetter28_11 : decode cX11_isLetter28 11 = .ok (.goto 4, 3) := by decide +kernel
theorem dX11_isLetter28_14 : decode cX11_isLetter28 14 = .ok (.iconst 0, 1) := by decide +kernel
theorem dX11_isLetter28_15 : decode cX11_isLetter28 15 = .ok (.ireturn, 1) := by decide +kernel
theorem dX11_isDeed_0 : decode cX11_isDeed 0 = .ok (.iload_n 1, 1) := by decide +kernel
theorem dX11_isDeed_1 : decode cX11_isDeed 1 = .ok (.ifCond .lt 15, 3) := by decide +kernel
theorem dX11_isDeed_4 : decode cX11_isDeed 4 = .ok (.iload_n 1, 1) := by decide +kernel
theorem dX11_isDeed_5 : decode cX11_isDeed 5 = .ok (.aload_n 0, 1) := by decide +kernel
theorem dX11_isDeed_6 : decode cX11_isDeed 6 = .ok (.getfield 125, 3) := by decide +kernel
theorem dX11_isDeed_9 : decode cX11_isDeed 9 = .ok (.if_icmp .ge 7, 3) := by decide +kernel
theorem dX11_isDeed_12 : decode cX11_isDeed 12 = .ok (.iconst 1, 1) := by decide +kernel
theorem dX11_isDeed_13 : decode cX11_isDeed 13 = .ok (.goto 4, 3) := by decide +kernel
theorem dX11_isDeed_16 : decode cX11_isDeed 16 = .ok (.iconst 0, 1) := by decide +kernel
theorem dX11_isDeed_17 : decode cX11_isDeed 17 = .ok (.ireturn, 1) := by decide +kernel
theorem dX11_doesLive_0 : decode cX11_doesLive 0 = .ok (.aload_n 0, 1) := by decide +kernel
theorem dX11_doesLive_1 : decode cX11_doesLive 1 = .ok (.getfield 7, 3) := by decide +kernel
theorem dX11_doesLive_4 : decode cX11_doesLive 4 = .ok (.iconst 3, 1) := by decide +kernel
theorem dX11_doesLive_5 : decode cX11_doesLive 5 = .ok (.iaload, 1) := by decide +kernel
theorem dX11_doesLive_6 : decode cX11_doesLive 6 = .ok (.iload_n 1, 1) := by decide +kernel
theorem dX11_doesLive_7 : decode cX11_doesLive 7 = .ok (.ishr, 1) := by decide +kernel
theorem dX11_doesLive_8 : decode cX11_doesLive 8 = .ok (.iconst 1, 1) := by decide +kernel
theorem dX11_doesLive_9 : decode cX11_doesLive 9 = .ok (.iand, 1) := by decide +kernel
theorem dX11_doesLive_10 : decode cX11_doesLive 10 = .ok (.ifCond .ne 7, 3) := by decide +kernel
theorem dX11_doesLive_13 : decode cX11_doesLive 13 = .ok (.iconst 1, 1) := by decide +kernel
theorem dX11_doesLive_14 : decode cX11_doesLive 14 = .ok (.goto 4, 3) := by decide +kernel
theorem dX11_doesLive_17 : decode cX11_doesLive 17 = .ok (.iconst 0, 1) := by decide +kernel
theorem dX11_doesLive_18 : decode cX11_doesLive 18 = .ok (.ireturn, 1) := by decide +kernel
theorem dX11_isLiving_0 : decode cX11_isLiving 0 = .ok (.aload_n 0, 1) := by decide +kernel
theorem dX11_isLiving_1 : decode cX11_isLiving 1 = .ok (.iload_n 1, 1) := by decide +kernel
theorem dX11_isLiving_2 : decode cX11_isLiving 2 = .ok (.invokevirtual 128, 3) := by decide +kernel
theorem dX11_isLiving_5 : decode cX11_isLiving 5 = .ok (.ifCond .eq 15, 3) := by decide +kernel
theorem dX11_isLiving_8 : decode cX11_isLiving 8 = .ok (.aload_n 0, 1) := by decide +kernel
theorem dX11_isLiving_9 : decode cX11_isLiving 9 = .ok (.iload_n 1, 1) := by decide +kernel
theorem dX11_isLiving_10 : decode cX11_isLiving 10 = .ok (.invokevirtual 132, 3) := by decide +kernel
theorem dX11_isLiving_13 : decode cX11_isLiving 13 = .ok (.ifCond .eq 7, 3) := by decide +kernel
theorem dX11_isLiving_16 : decode cX11_isLiving 16 = .ok (.iconst 1, 1) := by decide +kernel
theorem dX11_isLiving_17 : decode cX11_isLiving 17 = .ok (.goto 4, 3) := by decide +kernel
theorem dX11_isLiving_20 : decode cX11_isLiving 20 = .ok (.iconst 0, 1) := by decide +kernel
theorem dX11_isLiving_21 : decode cX11_isLiving 21 = .ok (.ireturn, 1) := by decide +kernel
theorem dX11_livingOnes_0 : decode cX11_livingOnes 0 = .ok (.iconst 1, 1) := by decide +kernel
theorem dX11_livingOnes_1 : decode cX11_livingOnes 1 = .ok (.aload_n 0, 1) := by decide +kernel
theorem dX11_livingOnes_2 : decode cX11_livingOnes 2 = .ok (.getfield 122, 3) := by decide +kernel
theorem dX11_livingOnes_5 : decode cX11_livingOnes 5 = .ok (.ishl, 1) := by decide +kernel
theorem dX11_livingOnes_6 : decode cX11_livingOnes 6 = .ok (.iconst 1, 1) := by decide +kernel
theorem dX11_livingOnes_7 : decode cX11_livingOnes 7 = .ok (.isub, 1) := by decide +kernel
theorem dX11_livingOnes_8 : decode cX11_livingOnes 8 = .ok (.aload_n 0, 1) := by decide +kernel
theorem dX11_livingOnes_9 : decode cX11_livingOnes 9 = .ok (.getfield 7, 3) := by decide +kernel
theorem dX11_livingOnes_12 : decode cX11_livingOnes 12 = .ok (.iconst 3, 1) := by decide +kernel
theorem dX11_livingOnes_13 : decode cX11_livingOnes 13 = .ok (.iaload, 1) := by decide +kernel
theorem dX11_livingOnes_14 : decode cX11_livingOnes 14 = .ok (.iconst (-1), 1) := by decide +kernel
theorem dX11_livingOnes_15 : decode cX11_livingOnes 15 = .ok (.ixor, 1) := by decide +kernel
theorem dX11_livingOnes_16 : decode cX11_livingOnes 16 = .ok (.iand, 1) := by decide +kernel
theorem dX11_livingOnes_17 : decode cX11_livingOnes 17 = .ok (.ireturn, 1) := by decide +kernel
theorem dX11_spouseOf_0 : decode cX11_spouseOf 0 = .ok (.aload_n 0, 1) := by decide +kernel
theorem dX11_spouseOf_1 : decode cX11_spouseOf 1 = .ok (.getfield 7, 3) := by decide +kernel
theorem dX11_spouseOf_4 : decode cX11_spouseOf 4 = .ok (.bipush 112, 2) := by decide +kernel
theorem dX11_spouseOf_6 : decode cX11_spouseOf 6 = .ok (.iload_n 1, 1) := by decide +kernel
theorem dX11_spouseOf_7 : decode cX11_spouseOf 7 = .ok (.iadd, 1) := by decide +kernel
theorem dX11_spouseOf_8 : decode cX11_spouseOf 8 = .ok (.iaload, 1) := by decide +kernel
theorem dX11_spouseOf_9 : decode cX11_spouseOf 9 = .ok (.iconst 1, 1) := by decide +kernel
theorem dX11_spouseOf_10 : decode cX11_spouseOf 10 = .ok (.isub, 1) := by decide +kernel
theorem dX11_spouseOf_11 : decode cX11_spouseOf 11 = .ok (.ireturn, 1) := by decide +kernel
theorem dX11_ownerOf_0 : decode cX11_ownerOf 0 = .ok (.aload_n 0, 1) := by decide +kernel
theorem dX11_ownerOf_1 : decode cX11_ownerOf 1 = .ok (.getfield 7, 3) := by decide +kernel
theorem dX11_ownerOf_4 : decode cX11_ownerOf 4 = .ok (.iconst 4, 1) := by decide +kernel
theorem dX11_ownerOf_5 : decode cX11_ownerOf 5 = .ok (.iload_n 1, 1) := by decide +kernel
theorem dX11_ownerOf_6 : decode cX11_ownerOf 6 = .ok (.iadd, 1) := by decide +kernel
theorem dX11_ownerOf_7 : decode cX11_ownerOf 7 = .ok (.iaload, 1) := by decide +kernel
theorem dX11_ownerOf_8 : decode cX11_ownerOf 8 = .ok (.iconst 1, 1) := by decide +kernel
theorem dX11_ownerOf_9 : decode cX11_ownerOf 9 = .ok (.isub, 1) := by decide +kernel
theorem dX11_ownerOf_10 : decode cX11_ownerOf 10 = .ok (.ireturn, 1) := by decide +kernel
theorem dX11_borrowerOf_0 : decode cX11_borrowerOf 0 = .ok (.aload_n 0, 1) := by decide +kernel
theorem dX11_borrowerOf_1 : decode cX11_borrowerOf 1 = .ok (.getfield 7, 3) := by decide +kernel
theorem dX11_borrowerOf_4 : decode cX11_borrowerOf 4 = .ok (.bipush 32, 2) := by decide +kernel
theorem dX11_borrowerOf_6 : decode cX11_borrowerOf 6 = .ok (.iload_n 1, 1) := by decide +kernel
theorem dX11_borrowerOf_7 : decode cX11_borrowerOf 7 = .ok (.iadd, 1) := by decide +kernel
theorem dX11_borrowerOf_8 : decode cX11_borrowerOf 8 = .ok (.iaload, 1) := by decide +kernel
theorem dX11_borrowerOf_9 : decode cX11_borrowerOf 9 = .ok (.iconst 1, 1) := by decide +kernel
theorem dX11_borrowerOf_10 : decode cX11_borrowerOf 10 = .ok (.isub, 1) := by decide +kernel
theorem dX11_borrowerOf_11 : decode cX11_borrowerOf 11 = .ok (.ireturn, 1) := by decide +kernel
theorem dX11_areNear_0 : decode cX11_areNear 0 = .ok (.iload_n 1, 1) := by decide +kernel
theorem dX11_areNear_1 : decode cX11_areNear 1 = .ok (.iconst (-1), 1) := by decide +kernel
theorem dX11_areNear_2 : decode cX11_areNear 2 = .ok (.if_icmp .eq 8, 3) := by decide +kernel
theorem dX11_areNear_5 : decode cX11_areNear 5 = .ok (.iload_n 2, 1) := by decide +kernel
theorem dX11_areNear_6 : decode cX11_areNear 6 = .ok (.iconst (-1), 1) := by decide +kernel
theorem dX11_areNear_7 : decode cX11_areNear 7 = .ok (.if_icmp .ne 4, 3) := by decide +kernel
theorem dX11_areNear_10 : decode cX11_areNear 10 = .ok (.return_, 1) := by decide +kernel
theorem dX11_areNear_11 : decode cX11_areNear 11 = .ok (.aload_n 0, 1) := by decide +kernel
theorem dX11_areNear_12 : decode cX11_areNear 12 = .ok (.getfield 37, 3) := by decide +kernel
theorem dX11_areNear_15 : decode cX11_areNear 15 = .ok (.bipush 12, 2) := by decide +kernel
theorem dX11_areNear_17 : decode cX11_areNear 17 = .ok (.iload_n 1, 1) := by decide +kernel
theorem dX11_areNear_18 : decode cX11_areNear 18 = .ok (.imul, 1) := by decide +kernel
theorem dX11_areNear_19 : decode cX11_areNear 19 = .ok (.iload_n 2, 1) := by decide +kernel
theorem dX11_areNear_20 : decode cX11_areNear 20 = .ok (.iadd, 1) := by decide +kernel
theorem dX11_areNear_21 : decode cX11_areNear 21 = .ok (.iconst 1, 1) := by decide +kernel
theorem dX11_areNear_22 : decode cX11_areNear 22 = .ok (.iastore, 1) := by decide +kernel
theorem dX11_areNear_23 : decode cX11_areNear 23 = .ok (.aload_n 0, 1) := by decide +kernel
theorem dX11_areNear_24 : decode cX11_areNear 24 = .ok (.getfield 37, 3) := by decide +kernel
theorem dX11_areNear_27 : decode cX11_areNear 27 = .ok (.bipush 12, 2) := by decide +kernel
theorem dX11_areNear_29 : decode cX11_areNear 29 = .ok (.iload_n 2, 1) := by decide +kernel
theorem dX11_areNear_30 : decode cX11_areNear 30 = .ok (.imul, 1) := by decide +kernel
theorem dX11_areNear_31 : decode cX11_areNear 31 = .ok (.iload_n 1, 1) := by decide +kernel
theorem dX11_areNear_32 : decode cX11_areNear 32 = .ok (.iadd, 1) := by decide +kernel
theorem dX11_areNear_33 : decode cX11_areNear 33 = .ok (.iconst 1, 1) := by decide +kernel
theorem dX11_areNear_34 : decode cX11_areNear 34 = .ok (.iastore, 1) := by decide +kernel
theorem dX11_areNear_35 : decode cX11_areNear 35 = .ok (.return_, 1) := by decide +kernel
theorem dX11_findsKin_0 : decode cX11_findsKin 0 = .ok (.iconst 0, 1) := by decide +kernel
theorem dX11_findsKin_1 : decode cX11_findsKin 1 = .ok (.istore_n 1, 1) := by decide +kernel
theorem dX11_findsKin_2 : decode cX11_findsKin 2 = .ok (.iload_n 1, 1) := by decide +kernel
theorem dX11_findsKin_3 : decode cX11_findsKin 3 = .ok (.sipush 144, 3) := by decide +kernel
theorem dX11_findsKin_6 : decode cX11_findsKin 6 = .ok (.if_icmp .ge 32, 3) := by decide +kernel
theorem dX11_findsKin_9 : decode cX11_findsKin 9 = .ok (.aload_n 0, 1) := by decide +kernel
theorem dX11_findsKin_10 : decode cX11_findsKin 10 = .ok (.getfield 37, 3) := by decide +kernel
theorem dX11_findsKin_13 : decode cX11_findsKin 13 = .ok (.iload_n 1, 1) := by decide +kernel
theorem dX11_findsKin_14 : decode cX11_findsKin 14 = .ok (.iload_n 1, 1) := by decide +kernel
theorem dX11_findsKin_15 : decode cX11_findsKin 15 = .ok (.bipush 12, 2) := by decide +kernel
theorem dX11_findsKin_17 : decode cX11_findsKin 17 = .ok (.idiv, 1) := by decide +kernel
theorem dX11_findsKin_18 : decode cX11_findsKin 18 = .ok (.iload_n 1, 1) := by decide +kernel
theorem dX11_findsKin_19 : decode cX11_findsKin 19 = .ok (.bipush 12, 2) := by decide +kernel
theorem dX11_findsKin_21 : decode cX11_findsKin 21 = .ok (.irem, 1) := by decide +kernel
theorem dX11_findsKin_22 : decode cX11_findsKin 22 = .ok (.if_icmp .ne 7, 3) := by decide +kernel
theorem dX11_findsKin_25 : decode cX11_findsKin 25 = .ok (.iconst 0, 1) := by decide +kernel
theorem dX11_findsKin_26 : decode cX11_findsKin 26 = .ok (.goto 5, 3) := by decide +kernel
theorem dX11_findsKin_29 : decode cX11_findsKin 29 = .ok (.bipush 99, 2) := by decide +kernel
theorem dX11_findsKin_31 : decode cX11_findsKin 31 = .ok (.iastore, 1) := by decide +kernel
theorem dX11_findsKin_32 : decode cX11_findsKin 32 = .ok (.iinc 1 1, 3) := by decide +kernel
theorem dX11_findsKin_35 : decode cX11_findsKin 35 = .ok (.goto (-33), 3) := by decide +kernel
theorem dX11_findsKin_38 : decode cX11_findsKin 38 = .ok (.iconst 0, 1) := by decide +kernel
theorem dX11_findsKin_39 : decode cX11_findsKin 39 = .ok (.istore_n 1, 1) := by decide +kernel
theorem dX11_findsKin_40 : decode cX11_findsKin 40 = .ok (.iload_n 1, 1) := by decide +kernel
theorem dX11_findsKin_41 : decode cX11_findsKin 41 = .ok (.aload_n 0, 1) := by decide +kernel
theorem dX11_findsKin_42 : decode cX11_findsKin 42 = .ok (.getfield 122, 3) := by decide +kernel
theorem dX11_findsKin_45 : decode cX11_findsKin 45 = .ok (.if_icmp .ge 45, 3) := by decide +kernel
theorem dX11_findsKin_48 : decode cX11_findsKin 48 = .ok (.aload_n 0, 1) := by decide +kernel
theorem dX11_findsKin_49 : decode cX11_findsKin 49 = .ok (.iload_n 1, 1) := by decide +kernel
theorem dX11_findsKin_50 : decode cX11_findsKin 50 = .ok (.aload_n 0, 1) := by decide +kernel
theorem dX11_findsKin_51 : decode cX11_findsKin 51 = .ok (.getfield 19, 3) := by decide +kernel
theorem dX11_findsKin_54 : decode cX11_findsKin 54 = .ok (.iload_n 1, 1) := by decide +kernel
theorem dX11_findsKin_55 : decode cX11_findsKin 55 = .ok (.iaload, 1) := by decide +kernel
theorem dX11_findsKin_56 : decode cX11_findsKin 56 = .ok (.iconst 1, 1) := by decide +kernel
theorem dX11_findsKin_57 : decode cX11_findsKin 57 = .ok (.isub, 1) := by decide +kernel
theorem dX11_findsKin_58 : decode cX11_findsKin 58 = .ok (.invokevirtual 135, 3) := by decide +kernel
theorem dX11_findsKin_61 : decode cX11_findsKin 61 = .ok (.aload_n 0, 1) := by decide +kernel
theorem dX11_findsKin_62 : decode cX11_findsKin 62 = .ok (.iload_n 1, 1) := by decide +kernel
theorem dX11_findsKin_63 : decode cX11_findsKin 63 = .ok (.aload_n 0, 1) := by decide +kernel
theorem dX11_findsKin_64 : decode cX11_findsKin 64 = .ok (.getfield 22, 3) := by decide +kernel
theorem dX11_findsKin_67 : decode cX11_findsKin 67 = .ok (.iload_n 1, 1) := by decide +kernel
theorem dX11_findsKin_68 : decode cX11_findsKin 68 = .ok (.iaload, 1) := by decide +kernel
theorem dX11_findsKin_69 : decode cX11_findsKin 69 = .ok (.iconst 1, 1) := by decide +kernel
theorem dX11_findsKin_70 : decode cX11_findsKin 70 = .ok (.isub, 1) := by decide +kernel
theorem dX11_findsKin_71 : decode cX11_findsKin 71 = .ok (.invokevirtual 135, 3) := by decide +kernel
theorem dX11_findsKin_74 : decode cX11_findsKin 74 = .ok (.aload_n 0, 1) := by decide +kernel
theorem dX11_findsKin_75 : decode cX11_findsKin 75 = .ok (.iload_n 1, 1) := by decide +kernel
theorem dX11_findsKin_76 : decode cX11_findsKin 76 = .ok (.aload_n 0, 1) := by decide +kernel
theorem dX11_findsKin_77 : decode cX11_findsKin 77 = .ok (.iload_n 1, 1) := by decide +kernel
theorem dX11_findsKin_78 : decode cX11_findsKin 78 = .ok (.invokevirtual 139, 3) := by decide +kernel
theorem dX11_findsKin_81 : decode cX11_findsKin 81 = .ok (.invokevirtual 135, 3) := by decide +kernel
theorem dX11_findsKin_84 : decode cX11_findsKin 84 = .ok (.iinc 1 1, 3) := by decide +kernel
theorem dX11_findsKin_87 : decode cX11_findsKin 87 = .ok (.goto (-47), 3) := by decide +kernel
theorem dX11_findsKin_90 : decode cX11_findsKin 90 = .ok (.iconst 0, 1) := by decide +kernel
theorem dX11_findsKin_91 : decode cX11_findsKin 91 = .ok (.istore_n 1, 1) := by decide +kernel
theorem dX11_findsKin_92 : decode cX11_findsKin 92 = .ok (.iload_n 1, 1) := by decide +kernel
theorem dX11_findsKin_93 : decode cX11_findsKin 93 = .ok (.aload_n 0, 1) := by decide +kernel
theorem dX11_findsKin_94 : decode cX11_findsKin 94 = .ok (.getfield 122, 3) := by decide +kernel
theorem dX11_findsKin_97 : decode cX11_findsKin 97 = .ok (.if_icmp .ge 95, 3) := by decide +kernel
theorem dX11_findsKin_100 : decode cX11_findsKin 100 = .ok (.iconst 0, 1) := by decide +kernel
theorem dX11_findsKin_101 : decode cX11_findsKin 101 = .ok (.istore_n 2, 1) := by decide +kernel
theorem dX11_findsKin_102 : decode cX11_findsKin 102 = .ok (.iload_n 2, 1) := by decide +kernel
theorem dX11_findsKin_103 : decode cX11_findsKin 103 = .ok (.aload_n 0, 1) := by decide +kernel
theorem dX11_findsKin_104 : decode cX11_findsKin 104 = .ok (.getfield 122, 3) := by decide +kernel
theorem dX11_findsKin_107 : decode cX11_findsKin 107 = .ok (.if_icmp .ge 79, 3) := by decide +kernel
theorem dX11_findsKin_110 : decode cX11_findsKin 110 = .ok (.iconst 0, 1) := by decide +kernel
theorem dX11_findsKin_111 : decode cX11_findsKin 111 = .ok (.istore_n 3, 1) := by decide +kernel
theorem dX11_findsKin_112 : decode cX11_findsKin 112 = .ok (.iload_n 3, 1) := by decide +kernel
theorem dX11_findsKin_113 : decode cX11_findsKin 113 = .ok (.aload_n 0, 1) := by decide +kernel
theorem dX11_findsKin_114 : decode cX11_findsKin 114 = .ok (.getfield 122, 3) := by decide +kernel
theorem dX11_findsKin_117 : decode cX11_findsKin 117 = .ok (.if_icmp .ge 63, 3) := by decide +kernel
theorem dX11_findsKin_120 : decode cX11_findsKin 120 = .ok (.aload_n 0, 1) := by decide +kernel
theorem dX11_findsKin_121 : decode cX11_findsKin 121 = .ok (.getfield 37, 3) := by decide +kernel
theorem dX11_findsKin_124 : decode cX11_findsKin 124 = .ok (.bipush 12, 2) := by decide +kernel
theorem dX11_findsKin_126 : decode cX11_findsKin 126 = .ok (.iload_n 2, 1) := by decide +kernel
theorem dX11_findsKin_127 : decode cX11_findsKin 127 = .ok (.imul, 1) := by decide +kernel
theorem dX11_findsKin_128 : decode cX11_findsKin 128 = .ok (.iload_n 1, 1) := by decide +kernel
theorem dX11_findsKin_129 : decode cX11_findsKin 129 = .ok (.iadd, 1) := by decide +kernel
theorem dX11_findsKin_130 : decode cX11_findsKin 130 = .ok (.iaload, 1) := by decide +kernel
theorem dX11_findsKin_131 : decode cX11_findsKin 131 = .ok (.aload_n 0, 1) := by decide +kernel
theorem dX11_findsKin_132 : decode cX11_findsKin 132 = .ok (.getfield 37, 3) := by decide +kernel
theorem dX11_findsKin_135 : decode cX11_findsKin 135 = .ok (.bipush 12, 2) := by decide +kernel
theorem dX11_findsKin_137 : decode cX11_findsKin 137 = .ok (.iload_n 1, 1) := by decide +kernel
theorem dX11_findsKin_138 : decode cX11_findsKin 138 = .ok (.imul, 1) := by decide +kernel
theorem dX11_findsKin_139 : decode cX11_findsKin 139 = .ok (.iload_n 3, 1) := by decide +kernel
theorem dX11_findsKin_140 : decode cX11_findsKin 140 = .ok (.iadd, 1) := by decide +kernel
theorem dX11_findsKin_141 : decode cX11_findsKin 141 = .ok (.iaload, 1) := by decide +kernel
theorem dX11_findsKin_142 : decode cX11_findsKin 142 = .ok (.iadd, 1) := by decide +kernel
theorem dX11_findsKin_143 : decode cX11_findsKin 143 = .ok (.istore 4, 2) := by decide +kernel
theorem dX11_findsKin_145 : decode cX11_findsKin 145 = .ok (.iload 4, 2) := by decide +kernel
theorem dX11_findsKin_147 : decode cX11_findsKin 147 = .ok (.aload_n 0, 1) := by decide +kernel
theorem dX11_findsKin_148 : decode cX11_findsKin 148 = .ok (.getfield 37, 3) := by decide +kernel
theorem dX11_findsKin_151 : decode cX11_findsKin 151 = .ok (.bipush 12, 2) := by decide +kernel
theorem dX11_findsKin_153 : decode cX11_findsKin 153 = .ok (.iload_n 2, 1) := by decide +kernel
theorem dX11_findsKin_154 : decode cX11_findsKin 154 = .ok (.imul, 1) := by decide +kernel
theorem dX11_findsKin_155 : decode cX11_findsKin 155 = .ok (.iload_n 3, 1) := by decide +kernel
theorem dX11_findsKin_156 : decode cX11_findsKin 156 = .ok (.iadd, 1) := by decide +kernel
theorem dX11_findsKin_157 : decode cX11_findsKin 157 = .ok (.iaload, 1) := by decide +kernel
theorem dX11_findsKin_158 : decode cX11_findsKin 158 = .ok (.if_icmp .ge 16, 3) := by decide +kernel
theorem dX11_findsKin_161 : decode cX11_findsKin 161 = .ok (.aload_n 0, 1) := by decide +kernel
theorem dX11_findsKin_162 : decode cX11_findsKin 162 = .ok (.getfield 37, 3) := by decide +kernel
theorem dX11_findsKin_165 : decode cX11_findsKin 165 = .ok (.bipush 12, 2) := by decide +kernel
theorem dX11_findsKin_167 : decode cX11_findsKin 167 = .ok (.iload_n 2, 1) := by decide +kernel
theorem dX11_findsKin_168 : decode cX11_findsKin 168 = .ok (.imul, 1) := by decide +kernel
theorem dX11_findsKin_169 : decode cX11_findsKin 169 = .ok (.iload_n 3, 1) := by decide +kernel
theorem dX11_findsKin_170 : decode cX11_findsKin 170 = .ok (.iadd, 1) := by decide +kernel
theorem dX11_findsKin_171 : decode cX11_findsKin 171 = .ok (.iload 4, 2) := by decide +kernel
theorem dX11_findsKin_173 : decode cX11_findsKin 173 = .ok (.iastore, 1) := by decide +kernel
theorem dX11_findsKin_174 : decode cX11_findsKin 174 = .ok (.iinc 3 1, 3) := by decide +kernel
theorem dX11_findsKin_177 : decode cX11_findsKin 177 = .ok (.goto (-65), 3) := by decide +kernel
theorem dX11_findsKin_180 : decode cX11_findsKin 180 = .ok (.iinc 2 1, 3) := by decide +kernel
theorem dX11_findsKin_183 : decode cX11_findsKin 183 = .ok (.goto (-81), 3) := by decide +kernel
theorem dX11_findsKin_186 : decode cX11_findsKin 186 = .ok (.iinc 1 1, 3) := by decide +kernel
theorem dX11_findsKin_189 : decode cX11_findsKin 189 = .ok (.goto (-97), 3) := by decide +kernel
theorem dX11_findsKin_192 : decode cX11_findsKin 192 = .ok (.return_, 1) := by decide +kernel
theorem dX11_canBeParent_0 : decode cX11_canBeParent 0 = .ok (.iload_n 1, 1) := by decide +kernel
theorem dX11_canBeParent_1 : decode cX11_canBeParent 1 = .ok (.iconst (-1), 1) := by decide +kernel
theorem dX11_canBeParent_2 : decode cX11_canBeParent 2 = .ok (.if_icmp .eq 11, 3) := by decide +kernel
theorem dX11_canBeParent_5 : decode cX11_canBeParent 5 = .ok (.aload_n 0, 1) := by decide +kernel
theorem dX11_canBeParent_6 : decode cX11_canBeParent 6 = .ok (.iload_n 1, 1) := by decide +kernel
theorem dX11_canBeParent_7 : decode cX11_canBeParent 7 = .ok (.invokevirtual 128, 3) := by decide +kernel
theorem dX11_canBeParent_10 : decode cX11_canBeParent 10 = .ok (.ifCond .eq 7, 3) := by decide +kernel
theorem dX11_canBeParent_13 : decode cX11_canBeParent 13 = .ok (.iconst 1, 1) := by decide +kernel
theorem dX11_canBeParent_14 : decode cX11_canBeParent 14 = .ok (.goto 4, 3) := by decide +kernel
theorem dX11_canBeParent_17 : decode cX11_canBeParent 17 = .ok (.iconst 0, 1) := by decide +kernel
theorem dX11_canBeParent_18 : decode cX11_canBeParent 18 = .ok (.ireturn, 1) := by decide +kernel
theorem dX11_person_0 : decode cX11_person 0 = .ok (.aload_n 0, 1) := by decide +kernel
theorem dX11_person_1 : decode cX11_person 1 = .ok (.iconst 0, 1) := by decide +kernel
theorem dX11_person_2 : decode cX11_person 2 = .ok (.putfield 107, 3) := by decide +kernel
theorem dX11_person_5 : decode cX11_person 5 = .ok (.iload_n 1, 1) := by decide +kernel
theorem dX11_person_6 : decode cX11_person 6 = .ok (.iload_n 2, 1) := by decide +kernel
theorem dX11_person_7 : decode cX11_person 7 = .ok (.if_icmp .ne 12, 3) := by decide +kernel
theorem dX11_person_10 : decode cX11_person 10 = .ok (.iload_n 1, 1) := by decide +kernel
theorem dX11_person_11 : decode cX11_person 11 = .ok (.iconst (-1), 1) := by decide +kernel
theorem dX11_person_12 : decode cX11_person 12 = .ok (.if_icmp .eq 7, 3) := by decide +kernel
theorem dX11_person_15 : decode cX11_person 15 = .ok (.iconst 1, 1) := by decide +kernel
theorem dX11_person_16 : decode cX11_person 16 = .ok (.goto 4, 3) := by decide +kernel
theorem dX11_person_19 : decode cX11_person 19 = .ok (.iconst 0, 1) := by decide +kernel
theorem dX11_person_20 : decode cX11_person 20 = .ok (.istore 4, 2) := by decide +kernel
theorem dX11_person_22 : decode cX11_person 22 = .ok (.aload_n 0, 1) := by decide +kernel
theorem dX11_person_23 : decode cX11_person 23 = .ok (.iload_n 1, 1) := by decide +kernel
theorem dX11_person_24 : decode cX11_person 24 = .ok (.invokevirtual 143, 3) := by decide +kernel
theorem dX11_person_27 : decode cX11_person 27 = .ok (.ifCond .eq 36, 3) := by decide +kernel
theorem dX11_person_30 : decode cX11_person 30 = .ok (.aload_n 0, 1) := by decide +kernel
theorem dX11_person_31 : decode cX11_person 31 = .ok (.iload_n 2, 1) := by decide +kernel
theorem dX11_person_32 : decode cX11_person 32 = .ok (.invokevirtual 143, 3) := by decide +kernel
theorem dX11_person_35 : decode cX11_person 35 = .ok (.ifCond .eq 28, 3) := by decide +kernel
theorem dX11_person_38 : decode cX11_person 38 = .ok (.iload 4, 2) := by decide +kernel
theorem dX11_person_40 : decode cX11_person 40 = .ok (.ifCond .ne 23, 3) := by decide +kernel
theorem dX11_person_43 : decode cX11_person 43 = .ok (.aload_n 0, 1) := by decide +kernel
theorem dX11_person_44 : decode cX11_person 44 = .ok (.iload_n 3, 1) := by decide +kernel
theorem dX11_person_45 : decode cX11_person 45 = .ok (.iconst 0, 1) := by decide +kernel
theorem dX11_person_46 : decode cX11_person 46 = .ok (.ldc 146, 2) := by decide +kernel
theorem dX11_person_48 : decode cX11_person 48 = .ok (.invokevirtual 147, 3) := by decide +kernel
theorem dX11_person_51 : decode cX11_person 51 = .ok (.ifCond .eq 12, 3) := by decide +kernel
theorem dX11_person_54 : decode cX11_person 54 = .ok (.aload_n 0, 1) := by decide +kernel
theorem dX11_person_55 : decode cX11_person 55 = .ok (.getfield 122, 3) := by decide +kernel
theorem dX11_person_58 : decode cX11_person 58 = .ok (.bipush 12, 2) := by decide +kernel
theorem dX11_person_60 : decode cX11_person 60 = .ok (.if_icmp .ne 5, 3) := by decide +kernel
theorem dX11_person_63 : decode cX11_person 63 = .ok (.iconst (-1), 1) := by decide +kernel
theorem dX11_person_64 : decode cX11_person 64 = .ok (.ireturn, 1) := by decide +kernel
theorem dX11_person_65 : decode cX11_person 65 = .ok (.aload_n 0, 1) := by decide +kernel
theorem dX11_person_66 : decode cX11_person 66 = .ok (.getfield 122, 3) := by decide +kernel
theorem dX11_person_69 : decode cX11_person 69 = .ok (.istore 5, 2) := by decide +kernel
theorem dX11_person_71 : decode cX11_person 71 = .ok (.aload_n 0, 1) := by decide +kernel
theorem dX11_person_72 : decode cX11_person 72 = .ok (.getfield 19, 3) := by decide +kernel
theorem dX11_person_75 : decode cX11_person 75 = .ok (.iload 5, 2) := by decide +kernel
theorem dX11_person_77 : decode cX11_person 77 = .ok (.iload_n 1, 1) := by decide +kernel
theorem dX11_person_78 : decode cX11_person 78 = .ok (.iconst 1, 1) := by decide +kernel
theorem dX11_person_79 : decode cX11_person 79 = .ok (.iadd, 1) := by decide +kernel
theorem dX11_person_80 : decode cX11_person 80 = .ok (.iastore, 1) := by decide +kernel
theorem dX11_person_81 : decode cX11_person 81 = .ok (.aload_n 0, 1) := by decide +kernel
theorem dX11_person_82 : decode cX11_person 82 = .ok (.getfield 22, 3) := by decide +kernel
theorem dX11_person_85 : decode cX11_person 85 = .ok (.iload 5, 2) := by decide +kernel
theorem dX11_person_87 : decode cX11_person 87 = .ok (.iload_n 2, 1) := by decide +kernel
theorem dX11_person_88 : decode cX11_person 88 = .ok (.iconst 1, 1) := by decide +kernel
theorem dX11_person_89 : decode cX11_person 89 = .ok (.iadd, 1) := by decide +kernel
theorem dX11_person_90 : decode cX11_person 90 = .ok (.iastore, 1) := by decide +kernel
theorem dX11_person_91 : decode cX11_person 91 = .ok (.aload_n 0, 1) := by decide +kernel
theorem dX11_person_92 : decode cX11_person 92 = .ok (.getfield 25, 3) := by decide +kernel
theorem dX11_person_95 : decode cX11_person 95 = .ok (.iload 5, 2) := by decide +kernel
theorem dX11_person_97 : decode cX11_person 97 = .ok (.aload_n 0, 1) := by decide +kernel
theorem dX11_person_98 : decode cX11_person 98 = .ok (.getfield 7, 3) := by decide +kernel
theorem dX11_person_101 : decode cX11_person 101 = .ok (.iconst 0, 1) := by decide +kernel
theorem dX11_person_102 : decode cX11_person 102 = .ok (.iaload, 1) := by decide +kernel
theorem dX11_person_103 : decode cX11_person 103 = .ok (.iastore, 1) := by decide +kernel
theorem dX11_person_104 : decode cX11_person 104 = .ok (.aload_n 0, 1) := by decide +kernel
theorem dX11_person_105 : decode cX11_person 105 = .ok (.getfield 28, 3) := by decide +kernel
theorem dX11_person_108 : decode cX11_person 108 = .ok (.iload 5, 2) := by decide +kernel
theorem dX11_person_110 : decode cX11_person 110 = .ok (.iconst 0, 1) := by decide +kernel
theorem dX11_person_111 : decode cX11_person 111 = .ok (.iastore, 1) := by decide +kernel
theorem dX11_person_112 : decode cX11_person 112 = .ok (.aload_n 0, 1) := by decide +kernel
theorem dX11_person_113 : decode cX11_person 113 = .ok (.getfield 31, 3) := by decide +kernel
theorem dX11_person_116 : decode cX11_person 116 = .ok (.iload 5, 2) := by decide +kernel
theorem dX11_person_118 : decode cX11_person 118 = .ok (.iconst 0, 1) := by decide +kernel
theorem dX11_person_119 : decode cX11_person 119 = .ok (.iastore, 1) := by decide +kernel
theorem dX11_person_120 : decode cX11_person 120 = .ok (.aload_n 0, 1) := by decide +kernel
theorem dX11_person_121 : decode cX11_person 121 = .ok (.getfield 7, 3) := by decide +kernel
theorem dX11_person_124 : decode cX11_person 124 = .ok (.iconst 3, 1) := by decide +kernel
theorem dX11_person_125 : decode cX11_person 125 = .ok (.aload_n 0, 1) := by decide +kernel
theorem dX11_person_126 : decode cX11_person 126 = .ok (.getfield 7, 3) := by decide +kernel
theorem dX11_person_129 : decode cX11_person 129 = .ok (.iconst 3, 1) := by decide +kernel
theorem dX11_person_130 : decode cX11_person 130 = .ok (.iaload, 1) := by decide +kernel
theorem dX11_person_131 : decode cX11_person 131 = .ok (.iconst 1, 1) := by decide +kernel
theorem dX11_person_132 : decode cX11_person 132 = .ok (.iload 5, 2) := by decide +kernel
theorem dX11_person_134 : decode cX11_person 134 = .ok (.ishl, 1) := by decide +kernel
theorem dX11_person_135 : decode cX11_person 135 = .ok (.iconst (-1), 1) := by decide +kernel
theorem dX11_person_136 : decode cX11_person 136 = .ok (.ixor, 1) := by decide +kernel
theorem dX11_person_137 : decode cX11_person 137 = .ok (.iand, 1) := by decide +kernel
theorem dX11_person_138 : decode cX11_person 138 = .ok (.iastore, 1) := by decide +kernel
theorem dX11_person_139 : decode cX11_person 139 = .ok (.aload_n 0, 1) := by decide +kernel
theorem dX11_person_140 : decode cX11_person 140 = .ok (.getfield 7, 3) := by decide +kernel
theorem dX11_person_143 : decode cX11_person 143 = .ok (.bipush 88, 2) := by decide +kernel
theorem dX11_person_145 : decode cX11_person 145 = .ok (.iload 5, 2) := by decide +kernel
theorem dX11_person_147 : decode cX11_person 147 = .ok (.iadd, 1) := by decide +kernel
theorem dX11_person_148 : decode cX11_person 148 = .ok (.iconst 0, 1) := by decide +kernel
theorem dX11_person_149 : decode cX11_person 149 = .ok (.iastore, 1) := by decide +kernel
theorem dX11_person_150 : decode cX11_person 150 = .ok (.aload_n 0, 1) := by decide +kernel
theorem dX11_person_151 : decode cX11_person 151 = .ok (.getfield 7, 3) := by decide +kernel
theorem dX11_person_154 : decode cX11_person 154 = .ok (.bipush 100, 2) := by decide +kernel
theorem dX11_person_156 : decode cX11_person 156 = .ok (.iload 5, 2) := by decide +kernel
theorem dX11_person_158 : decode cX11_person 158 = .ok (.iadd, 1) := by decide +kernel
theorem dX11_person_159 : decode cX11_person 159 = .ok (.iload_n 3, 1) := by decide +kernel
theorem dX11_person_160 : decode cX11_person 160 = .ok (.iastore, 1) := by decide +kernel
theorem dX11_person_161 : decode cX11_person 161 = .ok (.aload_n 0, 1) := by decide +kernel
theorem dX11_person_162 : decode cX11_person 162 = .ok (.getfield 7, 3) := by decide +kernel
theorem dX11_person_165 : decode cX11_person 165 = .ok (.bipush 112, 2) := by decide +kernel
theorem dX11_person_167 : decode cX11_person 167 = .ok (.iload 5, 2) := by decide +kernel
theorem dX11_person_169 : decode cX11_person 169 = .ok (.iadd, 1) := by decide +kernel
theorem dX11_person_170 : decode cX11_person 170 = .ok (.iconst 0, 1) := by decide +kernel
theorem dX11_person_171 : decode cX11_person 171 = .ok (.iastore, 1) := by decide +kernel
theorem dX11_person_172 : decode cX11_person 172 = .ok (.aload_n 0, 1) := by decide +kernel
theorem dX11_person_173 : decode cX11_person 173 = .ok (.getfield 68, 3) := by decide +kernel
theorem dX11_person_176 : decode cX11_person 176 = .ok (.iload 5, 2) := by decide +kernel
theorem dX11_person_178 : decode cX11_person 178 = .ok (.iconst 0, 1) := by decide +kernel
theorem dX11_person_179 : decode cX11_person 179 = .ok (.iastore, 1) := by decide +kernel
theorem dX11_person_180 : decode cX11_person 180 = .ok (.aload_n 0, 1) := by decide +kernel
theorem dX11_person_181 : decode cX11_person 181 = .ok (.aload_n 0, 1) := by decide +kernel
theorem dX11_person_182 : decode cX11_person 182 = .ok (.getfield 122, 3) := by decide +kernel
theorem dX11_person_185 : decode cX11_person 185 = .ok (.iconst 1, 1) := by decide +kernel
theorem dX11_person_186 : decode cX11_person 186 = .ok (.iadd, 1) := by decide +kernel
theorem dX11_person_187 : decode cX11_person 187 = .ok (.putfield 122, 3) := by decide +kernel
theorem dX11_person_190 : decode cX11_person 190 = .ok (.aload_n 0, 1) := by decide +kernel
theorem dX11_person_191 : decode cX11_person 191 = .ok (.invokevirtual 113, 3) := by decide +kernel
theorem dX11_person_194 : decode cX11_person 194 = .ok (.aload_n 0, 1) := by decide +kernel
theorem dX11_person_195 : decode cX11_person 195 = .ok (.iconst 0, 1) := by decide +kernel
theorem dX11_person_196 : decode cX11_person 196 = .ok (.putfield 110, 3) := by decide +kernel
theorem dX11_person_199 : decode cX11_person 199 = .ok (.iload 5, 2) := by decide +kernel
theorem dX11_person_201 : decode cX11_person 201 = .ok (.ireturn, 1) := by decide +kernel
theorem dX11_canSet_0 : decode cX11_canSet 0 = .ok (.iload_n 1, 1) := by decide +kernel
theorem dX11_canSet_1 : decode cX11_canSet 1 = .ok (.iconst 4, 1) := by decide +kernel
theorem dX11_canSet_2 : decode cX11_canSet 2 = .ok (.if_icmp .ne 11, 3) := by decide +kernel
theorem dX11_canSet_5 : decode cX11_canSet 5 = .ok (.aload_n 0, 1) := by decide +kernel
theorem dX11_canSet_6 : decode cX11_canSet 6 = .ok (.iload_n 3, 1) := by decide +kernel
theorem dX11_canSet_7 : decode cX11_canSet 7 = .ok (.iconst 0, 1) := by decide +kernel
theorem dX11_canSet_8 : decode cX11_canSet 8 = .ok (.iconst 3, 1) := by decide +kernel
theorem dX11_canSet_9 : decode cX11_canSet 9 = .ok (.invokevirtual 147, 3) := by decide +kernel
theorem dX11_canSet_12 : decode cX11_canSet 12 = .ok (.ireturn, 1) := by decide +kernel
theorem dX11_canSet_13 : decode cX11_canSet 13 = .ok (.aload_n 0, 1) := by decide +kernel
theorem dX11_canSet_14 : decode cX11_canSet 14 = .ok (.iload_n 2, 1) := by decide +kernel
theorem dX11_canSet_15 : decode cX11_canSet 15 = .ok (.invokevirtual 151, 3) := by decide +kernel
theorem dX11_canSet_18 : decode cX11_canSet 18 = .ok (.ifCond .ne 5, 3) := by decide +kernel
theorem dX11_canSet_21 : decode cX11_canSet 21 = .ok (.iconst 0, 1) := by decide +kernel
theorem dX11_canSet_22 : decode cX11_canSet 22 = .ok (.ireturn, 1) := by decide +kernel
theorem dX11_canSet_23 : decode cX11_canSet 23 = .ok (.iload_n 1, 1) := by decide +kernel
theorem dX11_canSet_24 : decode cX11_canSet 24 = .ok (.ifCond .ne 33, 3) := by decide +kernel
theorem dX11_canSet_27 : decode cX11_canSet 27 = .ok (.iload_n 3, 1) := by decide +kernel
theorem dX11_canSet_28 : decode cX11_canSet 28 = .ok (.iconst (-1), 1) := by decide +kernel
theorem dX11_canSet_29 : decode cX11_canSet 29 = .ok (.if_icmp .eq 22, 3) := by decide +kernel
theorem dX11_canSet_32 : decode cX11_canSet 32 = .ok (.aload_n 0, 1) := by decide +kernel
theorem dX11_canSet_33 : decode cX11_canSet 33 = .ok (.iload_n 3, 1) := by decide +kernel
theorem dX11_canSet_34 : decode cX11_canSet 34 = .ok (.aload_n 0, 1) := by decide +kernel
theorem dX11_canSet_35 : decode cX11_canSet 35 = .ok (.getfield 7, 3) := by decide +kernel
theorem dX11_canSet_38 : decode cX11_canSet 38 = .ok (.iconst 0, 1) := by decide +kernel
theorem dX11_canSet_39 : decode cX11_canSet 39 = .ok (.iaload, 1) := by decide +kernel
theorem dX11_canSet_40 : decode cX11_canSet 40 = .ok (.iconst 1, 1) := by decide +kernel
theorem dX11_canSet_41 : decode cX11_canSet 41 = .ok (.iadd, 1) := by decide +kernel
theorem dX11_canSet_42 : decode cX11_canSet 42 = .ok (.sipush 9999, 3) := by decide +kernel
theorem dX11_canSet_45 : decode cX11_canSet 45 = .ok (.invokevirtual 147, 3) := by decide +kernel
theorem dX11_canSet_48 : decode cX11_canSet 48 = .ok (.ifCond .eq 7, 3) := by decide +kernel
theorem dX11_canSet_51 : decode cX11_canSet 51 = .ok (.iconst 1, 1) := by decide +kernel
theorem dX11_canSet_52 : decode cX11_canSet 52 = .ok (.goto 4, 3) := by decide +kernel
theorem dX11_canSet_55 : decode cX11_canSet 55 = .ok (.iconst 0, 1) := by decide +kernel
theorem dX11_canSet_56 : decode cX11_canSet 56 = .ok (.ireturn, 1) := by decide +kernel
theorem dX11_canSet_57 : decode cX11_canSet 57 = .ok (.iload_n 1, 1) := by decide +kernel
theorem dX11_canSet_58 : decode cX11_canSet 58 = .ok (.iconst 1, 1) := by decide +kernel
theorem dX11_canSet_59 : decode cX11_canSet 59 = .ok (.if_icmp .ne 13, 3) := by decide +kernel
theorem dX11_canSet_62 : decode cX11_canSet 62 = .ok (.aload_n 0, 1) := by decide +kernel
theorem dX11_canSet_63 : decode cX11_canSet 63 = .ok (.iload_n 3, 1) := by decide +kernel
theorem dX11_canSet_64 : decode cX11_canSet 64 = .ok (.iconst 0, 1) := by decide +kernel
theorem dX11_canSet_65 : decode cX11_canSet 65 = .ok (.sipush 9999, 3) := by decide +kernel
theorem dX11_canSet_68 : decode cX11_canSet 68 = .ok (.invokevirtual 147, 3) := by decide +kernel
theorem dX11_canSet_71 : decode cX11_canSet 71 = .ok (.ireturn, 1) := by decide +kernel
theorem dX11_canSet_72 : decode cX11_canSet 72 = .ok (.iload_n 1, 1) := by decide +kernel
theorem dX11_canSet_73 : decode cX11_canSet 73 = .ok (.iconst 2, 1) := by decide +kernel
theorem dX11_canSet_74 : decode cX11_canSet 74 = .ok (.if_icmp .ne 14, 3) := by decide +kernel
theorem dX11_canSet_77 : decode cX11_canSet 77 = .ok (.aload_n 0, 1) := by decide +kernel
theorem dX11_canSet_78 : decode cX11_canSet 78 = .ok (.iload_n 3, 1) := by decide +kernel
theorem dX11_canSet_79 : decode cX11_canSet 79 = .ok (.iconst 0, 1) := by decide +kernel
theorem dX11_canSet_80 : decode cX11_canSet 80 = .ok (.bipush 99, 2) := by decide +kernel
theorem dX11_canSet_82 : decode cX11_canSet 82 = .ok (.invokevirtual 147, 3) := by decide +kernel
theorem dX11_canSet_85 : decode cX11_canSet 85 = .ok (.goto 24, 3) := by decide +kernel
theorem dX11_canSet_88 : decode cX11_canSet 88 = .ok (.iload_n 1, 1) := by decide +kernel
theorem dX11_canSet_89 : decode cX11_canSet 89 = .ok (.iconst 3, 1) := by decide +kernel
theorem dX11_canSet_90 : decode cX11_canSet 90 = .ok (.if_icmp .ne 18, 3) := by decide +kernel
theorem dX11_canSet_93 : decode cX11_canSet 93 = .ok (.aload_n 0, 1) := by decide +kernel
theorem dX11_canSet_94 : decode cX11_canSet 94 = .ok (.iload_n 3, 1) := by decide +kernel
theorem dX11_canSet_95 : decode cX11_canSet 95 = .ok (.iconst 0, 1) := by decide +kernel
theorem dX11_canSet_96 : decode cX11_canSet 96 = .ok (.ldc 146, 2) := by decide +kernel
theorem dX11_canSet_98 : decode cX11_canSet 98 = .ok (.invokevirtual 147, 3) := by decide +kernel
theorem dX11_canSet_101 : decode cX11_canSet 101 = .ok (.ifCond .eq 7, 3) := by decide +kernel
theorem dX11_canSet_104 : decode cX11_canSet 104 = .ok (.iconst 1, 1) := by decide +kernel
theorem dX11_canSet_105 : decode cX11_canSet 105 = .ok (.goto 4, 3) := by decide +kernel
theorem dX11_canSet_108 : decode cX11_canSet 108 = .ok (.iconst 0, 1) := by decide +kernel
theorem dX11_canSet_109 : decode cX11_canSet 109 = .ok (.ireturn, 1) := by decide +kernel
theorem dX11_set_0 : decode cX11_set 0 = .ok (.aload_n 0, 1) := by decide +kernel
theorem dX11_set_1 : decode cX11_set 1 = .ok (.iconst 0, 1) := by decide +kernel
theorem dX11_set_2 : decode cX11_set 2 = .ok (.putfield 107, 3) := by decide +kernel
theorem dX11_set_5 : decode cX11_set 5 = .ok (.aload_n 0, 1) := by decide +kernel
theorem dX11_set_6 : decode cX11_set 6 = .ok (.iload_n 1, 1) := by decide +kernel
theorem dX11_set_7 : decode cX11_set 7 = .ok (.iload_n 2, 1) := by decide +kernel
theorem dX11_set_8 : decode cX11_set 8 = .ok (.iload_n 3, 1) := by decide +kernel
theorem dX11_set_9 : decode cX11_set 9 = .ok (.invokevirtual 154, 3) := by decide +kernel
theorem dX11_set_12 : decode cX11_set 12 = .ok (.ifCond .ne 5, 3) := by decide +kernel
theorem dX11_set_15 : decode cX11_set 15 = .ok (.iconst 0, 1) := by decide +kernel
theorem dX11_set_16 : decode cX11_set 16 = .ok (.ireturn, 1) := by decide +kernel
theorem dX11_set_17 : decode cX11_set 17 = .ok (.iload_n 1, 1) := by decide +kernel
theorem dX11_set_18 : decode cX11_set 18 = .ok (.ifCond .ne 15, 3) := by decide +kernel
theorem dX11_set_21 : decode cX11_set 21 = .ok (.aload_n 0, 1) := by decide +kernel
theorem dX11_set_22 : decode cX11_set 22 = .ok (.getfield 7, 3) := by decide +kernel
theorem dX11_set_25 : decode cX11_set 25 = .ok (.bipush 88, 2) := by decide +kernel
theorem dX11_set_27 : decode cX11_set 27 = .ok (.iload_n 2, 1) := by decide +kernel
theorem dX11_set_28 : decode cX11_set 28 = .ok (.iadd, 1) := by decide +kernel
theorem dX11_set_29 : decode cX11_set 29 = .ok (.iload_n 3, 1) := by decide +kernel
theorem dX11_set_30 : decode cX11_set 30 = .ok (.iconst 1, 1) := by decide +kernel
theorem dX11_set_31 : decode cX11_set 31 = .ok (.iadd, 1) := by decide +kernel
theorem dX11_set_32 : decode cX11_set 32 = .ok (.iastore, 1) := by decide +kernel
theorem dX11_set_33 : decode cX11_set 33 = .ok (.iload_n 1, 1) := by decide +kernel
theorem dX11_set_34 : decode cX11_set 34 = .ok (.iconst 1, 1) := by decide +kernel
theorem dX11_set_35 : decode cX11_set 35 = .ok (.if_icmp .ne 10, 3) := by decide +kernel
theorem dX11_set_38 : decode cX11_set 38 = .ok (.aload_n 0, 1) := by decide +kernel
theorem dX11_set_39 : decode cX11_set 39 = .ok (.getfield 28, 3) := by decide +kernel
theorem dX11_set_42 : decode cX11_set 42 = .ok (.iload_n 2, 1) := by decide +kernel
theorem dX11_set_43 : decode cX11_set 43 = .ok (.iload_n 3, 1) := by decide +kernel
theorem dX11_set_44 : decode cX11_set 44 = .ok (.iastore, 1) := by decide +kernel
theorem dX11_set_45 : decode cX11_set 45 = .ok (.iload_n 1, 1) := by decide +kernel
theorem dX11_set_46 : decode cX11_set 46 = .ok (.iconst 2, 1) := by decide +kernel
theorem dX11_set_47 : decode cX11_set 47 = .ok (.if_icmp .ne 10, 3) := by decide +kernel
theorem dX11_set_50 : decode cX11_set 50 = .ok (.aload_n 0, 1) := by decide +kernel
