theorem dX11_set_51 : decode cX11_set 51 = .ok (.getfield 31, 3) := by decide +kernel
theorem dX11_set_54 : decode cX11_set 54 = .ok (.iload_n 2, 1) := by decide +kernel
theorem dX11_set_55 : decode cX11_set 55 = .ok (.iload_n 3, 1) := by decide +kernel
theorem dX11_set_56 : decode cX11_set 56 = .ok (.iastore, 1) := by decide +kernel
theorem dX11_set_57 : decode cX11_set 57 = .ok (.iload_n 1, 1) := by decide +kernel
theorem dX11_set_58 : decode cX11_set 58 = .ok (.iconst 3, 1) := by decide +kernel
theorem dX11_set_59 : decode cX11_set 59 = .ok (.if_icmp .ne 13, 3) := by decide +kernel
theorem dX11_set_62 : decode cX11_set 62 = .ok (.aload_n 0, 1) := by decide +kernel
theorem dX11_set_63 : decode cX11_set 63 = .ok (.getfield 7, 3) := by decide +kernel
theorem dX11_set_66 : decode cX11_set 66 = .ok (.bipush 100, 2) := by decide +kernel
theorem dX11_set_68 : decode cX11_set 68 = .ok (.iload_n 2, 1) := by decide +kernel
theorem dX11_set_69 : decode cX11_set 69 = .ok (.iadd, 1) := by decide +kernel
theorem dX11_set_70 : decode cX11_set 70 = .ok (.iload_n 3, 1) := by decide +kernel
theorem dX11_set_71 : decode cX11_set 71 = .ok (.iastore, 1) := by decide +kernel
theorem dX11_set_72 : decode cX11_set 72 = .ok (.iload_n 1, 1) := by decide +kernel
theorem dX11_set_73 : decode cX11_set 73 = .ok (.iconst 4, 1) := by decide +kernel
theorem dX11_set_74 : decode cX11_set 74 = .ok (.if_icmp .ne 10, 3) := by decide +kernel
theorem dX11_set_77 : decode cX11_set 77 = .ok (.aload_n 0, 1) := by decide +kernel
theorem dX11_set_78 : decode cX11_set 78 = .ok (.iload_n 3, 1) := by decide +kernel
theorem dX11_set_79 : decode cX11_set 79 = .ok (.iconst 1, 1) := by decide +kernel
theorem dX11_set_80 : decode cX11_set 80 = .ok (.isub, 1) := by decide +kernel
theorem dX11_set_81 : decode cX11_set 81 = .ok (.putfield 157, 3) := by decide +kernel
theorem dX11_set_84 : decode cX11_set 84 = .ok (.aload_n 0, 1) := by decide +kernel
theorem dX11_set_85 : decode cX11_set 85 = .ok (.iconst 0, 1) := by decide +kernel
theorem dX11_set_86 : decode cX11_set 86 = .ok (.putfield 110, 3) := by decide +kernel
theorem dX11_set_89 : decode cX11_set 89 = .ok (.iconst 1, 1) := by decide +kernel
theorem dX11_set_90 : decode cX11_set 90 = .ok (.ireturn, 1) := by decide +kernel
theorem dX11_comesTo_0 : decode cX11_comesTo 0 = .ok (.aload_n 0, 1) := by decide +kernel
theorem dX11_comesTo_1 : decode cX11_comesTo 1 = .ok (.iload_n 1, 1) := by decide +kernel
theorem dX11_comesTo_2 : decode cX11_comesTo 2 = .ok (.invokevirtual 160, 3) := by decide +kernel
theorem dX11_comesTo_5 : decode cX11_comesTo 5 = .ok (.istore 4, 2) := by decide +kernel
theorem dX11_comesTo_7 : decode cX11_comesTo 7 = .ok (.aload_n 0, 1) := by decide +kernel
theorem dX11_comesTo_8 : decode cX11_comesTo 8 = .ok (.getfield 7, 3) := by decide +kernel
theorem dX11_comesTo_11 : decode cX11_comesTo 11 = .ok (.iconst 4, 1) := by decide +kernel
theorem dX11_comesTo_12 : decode cX11_comesTo 12 = .ok (.iload_n 1, 1) := by decide +kernel
theorem dX11_comesTo_13 : decode cX11_comesTo 13 = .ok (.iadd, 1) := by decide +kernel
theorem dX11_comesTo_14 : decode cX11_comesTo 14 = .ok (.iload_n 2, 1) := by decide +kernel
theorem dX11_comesTo_15 : decode cX11_comesTo 15 = .ok (.iconst 1, 1) := by decide +kernel
theorem dX11_comesTo_16 : decode cX11_comesTo 16 = .ok (.iadd, 1) := by decide +kernel
theorem dX11_comesTo_17 : decode cX11_comesTo 17 = .ok (.iastore, 1) := by decide +kernel
theorem dX11_comesTo_18 : decode cX11_comesTo 18 = .ok (.aload_n 0, 1) := by decide +kernel
theorem dX11_comesTo_19 : decode cX11_comesTo 19 = .ok (.getfield 116, 3) := by decide +kernel
theorem dX11_comesTo_22 : decode cX11_comesTo 22 = .ok (.ifCond .ne 21, 3) := by decide +kernel
theorem dX11_comesTo_25 : decode cX11_comesTo 25 = .ok (.iload 4, 2) := by decide +kernel
theorem dX11_comesTo_27 : decode cX11_comesTo 27 = .ok (.iload_n 2, 1) := by decide +kernel
theorem dX11_comesTo_28 : decode cX11_comesTo 28 = .ok (.if_icmp .eq 15, 3) := by decide +kernel
theorem dX11_comesTo_31 : decode cX11_comesTo 31 = .ok (.aload_n 0, 1) := by decide +kernel
theorem dX11_comesTo_32 : decode cX11_comesTo 32 = .ok (.getfield 7, 3) := by decide +kernel
theorem dX11_comesTo_35 : decode cX11_comesTo 35 = .ok (.iconst 2, 1) := by decide +kernel
theorem dX11_comesTo_36 : decode cX11_comesTo 36 = .ok (.iaload, 1) := by decide +kernel
theorem dX11_comesTo_37 : decode cX11_comesTo 37 = .ok (.sipush 200, 3) := by decide +kernel
theorem dX11_comesTo_40 : decode cX11_comesTo 40 = .ok (.if_icmp .ne 4, 3) := by decide +kernel
theorem dX11_comesTo_43 : decode cX11_comesTo 43 = .ok (.return_, 1) := by decide +kernel
theorem dX11_comesTo_44 : decode cX11_comesTo 44 = .ok (.iconst 5, 1) := by decide +kernel
theorem dX11_comesTo_45 : decode cX11_comesTo 45 = .ok (.aload_n 0, 1) := by decide +kernel
theorem dX11_comesTo_46 : decode cX11_comesTo 46 = .ok (.getfield 7, 3) := by decide +kernel
theorem dX11_comesTo_49 : decode cX11_comesTo 49 = .ok (.iconst 2, 1) := by decide +kernel
theorem dX11_comesTo_50 : decode cX11_comesTo 50 = .ok (.iaload, 1) := by decide +kernel
theorem dX11_comesTo_51 : decode cX11_comesTo 51 = .ok (.imul, 1) := by decide +kernel
theorem dX11_comesTo_52 : decode cX11_comesTo 52 = .ok (.istore 5, 2) := by decide +kernel
theorem dX11_comesTo_54 : decode cX11_comesTo 54 = .ok (.aload_n 0, 1) := by decide +kernel
theorem dX11_comesTo_55 : decode cX11_comesTo 55 = .ok (.getfield 34, 3) := by decide +kernel
theorem dX11_comesTo_58 : decode cX11_comesTo 58 = .ok (.iload 5, 2) := by decide +kernel
theorem dX11_comesTo_60 : decode cX11_comesTo 60 = .ok (.iload_n 1, 1) := by decide +kernel
theorem dX11_comesTo_61 : decode cX11_comesTo 61 = .ok (.iastore, 1) := by decide +kernel
theorem dX11_comesTo_62 : decode cX11_comesTo 62 = .ok (.aload_n 0, 1) := by decide +kernel
theorem dX11_comesTo_63 : decode cX11_comesTo 63 = .ok (.getfield 34, 3) := by decide +kernel
theorem dX11_comesTo_66 : decode cX11_comesTo 66 = .ok (.iload 5, 2) := by decide +kernel
theorem dX11_comesTo_68 : decode cX11_comesTo 68 = .ok (.iconst 1, 1) := by decide +kernel
theorem dX11_comesTo_69 : decode cX11_comesTo 69 = .ok (.iadd, 1) := by decide +kernel
theorem dX11_comesTo_70 : decode cX11_comesTo 70 = .ok (.iload 4, 2) := by decide +kernel
theorem dX11_comesTo_72 : decode cX11_comesTo 72 = .ok (.iastore, 1) := by decide +kernel
theorem dX11_comesTo_73 : decode cX11_comesTo 73 = .ok (.aload_n 0, 1) := by decide +kernel
theorem dX11_comesTo_74 : decode cX11_comesTo 74 = .ok (.getfield 34, 3) := by decide +kernel
theorem dX11_comesTo_77 : decode cX11_comesTo 77 = .ok (.iload 5, 2) := by decide +kernel
theorem dX11_comesTo_79 : decode cX11_comesTo 79 = .ok (.iconst 2, 1) := by decide +kernel
theorem dX11_comesTo_80 : decode cX11_comesTo 80 = .ok (.iadd, 1) := by decide +kernel
theorem dX11_comesTo_81 : decode cX11_comesTo 81 = .ok (.iload_n 2, 1) := by decide +kernel
theorem dX11_comesTo_82 : decode cX11_comesTo 82 = .ok (.iastore, 1) := by decide +kernel
theorem dX11_comesTo_83 : decode cX11_comesTo 83 = .ok (.aload_n 0, 1) := by decide +kernel
theorem dX11_comesTo_84 : decode cX11_comesTo 84 = .ok (.getfield 34, 3) := by decide +kernel
theorem dX11_comesTo_87 : decode cX11_comesTo 87 = .ok (.iload 5, 2) := by decide +kernel
theorem dX11_comesTo_89 : decode cX11_comesTo 89 = .ok (.iconst 3, 1) := by decide +kernel
theorem dX11_comesTo_90 : decode cX11_comesTo 90 = .ok (.iadd, 1) := by decide +kernel
theorem dX11_comesTo_91 : decode cX11_comesTo 91 = .ok (.aload_n 0, 1) := by decide +kernel
theorem dX11_comesTo_92 : decode cX11_comesTo 92 = .ok (.getfield 7, 3) := by decide +kernel
theorem dX11_comesTo_95 : decode cX11_comesTo 95 = .ok (.iconst 0, 1) := by decide +kernel
theorem dX11_comesTo_96 : decode cX11_comesTo 96 = .ok (.iaload, 1) := by decide +kernel
theorem dX11_comesTo_97 : decode cX11_comesTo 97 = .ok (.iastore, 1) := by decide +kernel
theorem dX11_comesTo_98 : decode cX11_comesTo 98 = .ok (.aload_n 0, 1) := by decide +kernel
theorem dX11_comesTo_99 : decode cX11_comesTo 99 = .ok (.getfield 34, 3) := by decide +kernel
theorem dX11_comesTo_102 : decode cX11_comesTo 102 = .ok (.iload 5, 2) := by decide +kernel
theorem dX11_comesTo_104 : decode cX11_comesTo 104 = .ok (.iconst 4, 1) := by decide +kernel
theorem dX11_comesTo_105 : decode cX11_comesTo 105 = .ok (.iadd, 1) := by decide +kernel
theorem dX11_comesTo_106 : decode cX11_comesTo 106 = .ok (.iload_n 3, 1) := by decide +kernel
theorem dX11_comesTo_107 : decode cX11_comesTo 107 = .ok (.iastore, 1) := by decide +kernel
theorem dX11_comesTo_108 : decode cX11_comesTo 108 = .ok (.aload_n 0, 1) := by decide +kernel
theorem dX11_comesTo_109 : decode cX11_comesTo 109 = .ok (.getfield 7, 3) := by decide +kernel
theorem dX11_comesTo_112 : decode cX11_comesTo 112 = .ok (.iconst 2, 1) := by decide +kernel
theorem dX11_comesTo_113 : decode cX11_comesTo 113 = .ok (.aload_n 0, 1) := by decide +kernel
theorem dX11_comesTo_114 : decode cX11_comesTo 114 = .ok (.getfield 7, 3) := by decide +kernel
theorem dX11_comesTo_117 : decode cX11_comesTo 117 = .ok (.iconst 2, 1) := by decide +kernel
theorem dX11_comesTo_118 : decode cX11_comesTo 118 = .ok (.iaload, 1) := by decide +kernel
theorem dX11_comesTo_119 : decode cX11_comesTo 119 = .ok (.iconst 1, 1) := by decide +kernel
theorem dX11_comesTo_120 : decode cX11_comesTo 120 = .ok (.iadd, 1) := by decide +kernel
theorem dX11_comesTo_121 : decode cX11_comesTo 121 = .ok (.iastore, 1) := by decide +kernel
theorem dX11_comesTo_122 : decode cX11_comesTo 122 = .ok (.return_, 1) := by decide +kernel
theorem dX11_endsLoan_0 : decode cX11_endsLoan 0 = .ok (.aload_n 0, 1) := by decide +kernel
theorem dX11_endsLoan_1 : decode cX11_endsLoan 1 = .ok (.getfield 7, 3) := by decide +kernel
theorem dX11_endsLoan_4 : decode cX11_endsLoan 4 = .ok (.bipush 32, 2) := by decide +kernel
theorem dX11_endsLoan_6 : decode cX11_endsLoan 6 = .ok (.iload_n 1, 1) := by decide +kernel
theorem dX11_endsLoan_7 : decode cX11_endsLoan 7 = .ok (.iadd, 1) := by decide +kernel
theorem dX11_endsLoan_8 : decode cX11_endsLoan 8 = .ok (.iconst 0, 1) := by decide +kernel
theorem dX11_endsLoan_9 : decode cX11_endsLoan 9 = .ok (.iastore, 1) := by decide +kernel
theorem dX11_endsLoan_10 : decode cX11_endsLoan 10 = .ok (.aload_n 0, 1) := by decide +kernel
theorem dX11_endsLoan_11 : decode cX11_endsLoan 11 = .ok (.getfield 7, 3) := by decide +kernel
theorem dX11_endsLoan_14 : decode cX11_endsLoan 14 = .ok (.bipush 60, 2) := by decide +kernel
theorem dX11_endsLoan_16 : decode cX11_endsLoan 16 = .ok (.iload_n 1, 1) := by decide +kernel
theorem dX11_endsLoan_17 : decode cX11_endsLoan 17 = .ok (.iadd, 1) := by decide +kernel
theorem dX11_endsLoan_18 : decode cX11_endsLoan 18 = .ok (.iconst 0, 1) := by decide +kernel
theorem dX11_endsLoan_19 : decode cX11_endsLoan 19 = .ok (.iastore, 1) := by decide +kernel
theorem dX11_endsLoan_20 : decode cX11_endsLoan 20 = .ok (.return_, 1) := by decide +kernel
theorem dX11_own_0 : decode cX11_own 0 = .ok (.aload_n 0, 1) := by decide +kernel
theorem dX11_own_1 : decode cX11_own 1 = .ok (.iconst 0, 1) := by decide +kernel
theorem dX11_own_2 : decode cX11_own 2 = .ok (.putfield 107, 3) := by decide +kernel
theorem dX11_own_5 : decode cX11_own 5 = .ok (.aload_n 0, 1) := by decide +kernel
theorem dX11_own_6 : decode cX11_own 6 = .ok (.iload_n 1, 1) := by decide +kernel
theorem dX11_own_7 : decode cX11_own 7 = .ok (.invokevirtual 163, 3) := by decide +kernel
theorem dX11_own_10 : decode cX11_own 10 = .ok (.ifCond .eq 16, 3) := by decide +kernel
theorem dX11_own_13 : decode cX11_own 13 = .ok (.iload_n 2, 1) := by decide +kernel
theorem dX11_own_14 : decode cX11_own 14 = .ok (.iconst (-1), 1) := by decide +kernel
theorem dX11_own_15 : decode cX11_own 15 = .ok (.if_icmp .eq 13, 3) := by decide +kernel
theorem dX11_own_18 : decode cX11_own 18 = .ok (.aload_n 0, 1) := by decide +kernel
theorem dX11_own_19 : decode cX11_own 19 = .ok (.iload_n 2, 1) := by decide +kernel
theorem dX11_own_20 : decode cX11_own 20 = .ok (.invokevirtual 151, 3) := by decide +kernel
theorem dX11_own_23 : decode cX11_own 23 = .ok (.ifCond .ne 5, 3) := by decide +kernel
theorem dX11_own_26 : decode cX11_own 26 = .ok (.iconst 0, 1) := by decide +kernel
theorem dX11_own_27 : decode cX11_own 27 = .ok (.ireturn, 1) := by decide +kernel
theorem dX11_own_28 : decode cX11_own 28 = .ok (.aload_n 0, 1) := by decide +kernel
theorem dX11_own_29 : decode cX11_own 29 = .ok (.iload_n 1, 1) := by decide +kernel
theorem dX11_own_30 : decode cX11_own 30 = .ok (.iload_n 2, 1) := by decide +kernel
theorem dX11_own_31 : decode cX11_own 31 = .ok (.iconst 0, 1) := by decide +kernel
theorem dX11_own_32 : decode cX11_own 32 = .ok (.invokevirtual 166, 3) := by decide +kernel
theorem dX11_own_35 : decode cX11_own 35 = .ok (.aload_n 0, 1) := by decide +kernel
theorem dX11_own_36 : decode cX11_own 36 = .ok (.iload_n 1, 1) := by decide +kernel
theorem dX11_own_37 : decode cX11_own 37 = .ok (.invokevirtual 170, 3) := by decide +kernel
theorem dX11_own_40 : decode cX11_own 40 = .ok (.aload_n 0, 1) := by decide +kernel
theorem dX11_own_41 : decode cX11_own 41 = .ok (.iconst 0, 1) := by decide +kernel
theorem dX11_own_42 : decode cX11_own 42 = .ok (.putfield 110, 3) := by decide +kernel
theorem dX11_own_45 : decode cX11_own 45 = .ok (.iconst 1, 1) := by decide +kernel
theorem dX11_own_46 : decode cX11_own 46 = .ok (.ireturn, 1) := by decide +kernel
theorem dX11_types_0 : decode cX11_types 0 = .ok (.bipush 24, 2) := by decide +kernel
theorem dX11_types_2 : decode cX11_types 2 = .ok (.istore_n 2, 1) := by decide +kernel
theorem dX11_types_3 : decode cX11_types 3 = .ok (.iload_n 2, 1) := by decide +kernel
theorem dX11_types_4 : decode cX11_types 4 = .ok (.ifCond .lt 35, 3) := by decide +kernel
theorem dX11_types_7 : decode cX11_types 7 = .ok (.aload_n 0, 1) := by decide +kernel
theorem dX11_types_8 : decode cX11_types 8 = .ok (.getfield 40, 3) := by decide +kernel
theorem dX11_types_11 : decode cX11_types 11 = .ok (.aload_n 0, 1) := by decide +kernel
theorem dX11_types_12 : decode cX11_types 12 = .ok (.getfield 174, 3) := by decide +kernel
theorem dX11_types_15 : decode cX11_types 15 = .ok (.iload_n 1, 1) := by decide +kernel
theorem dX11_types_16 : decode cX11_types 16 = .ok (.iload_n 2, 1) := by decide +kernel
theorem dX11_types_17 : decode cX11_types 17 = .ok (.ishr, 1) := by decide +kernel
theorem dX11_types_18 : decode cX11_types 18 = .ok (.sipush 255, 3) := by decide +kernel
theorem dX11_types_21 : decode cX11_types 21 = .ok (.iand, 1) := by decide +kernel
theorem dX11_types_22 : decode cX11_types 22 = .ok (.iastore, 1) := by decide +kernel
theorem dX11_types_23 : decode cX11_types 23 = .ok (.aload_n 0, 1) := by decide +kernel
theorem dX11_types_24 : decode cX11_types 24 = .ok (.aload_n 0, 1) := by decide +kernel
theorem dX11_types_25 : decode cX11_types 25 = .ok (.getfield 174, 3) := by decide +kernel
theorem dX11_types_28 : decode cX11_types 28 = .ok (.iconst 1, 1) := by decide +kernel
theorem dX11_types_29 : decode cX11_types 29 = .ok (.iadd, 1) := by decide +kernel
theorem dX11_types_30 : decode cX11_types 30 = .ok (.putfield 174, 3) := by decide +kernel
theorem dX11_types_33 : decode cX11_types 33 = .ok (.iinc 2 (-8), 3) := by decide +kernel
theorem dX11_types_36 : decode cX11_types 36 = .ok (.goto (-33), 3) := by decide +kernel
theorem dX11_types_39 : decode cX11_types 39 = .ok (.return_, 1) := by decide +kernel
theorem dX11_feed_0 : decode cX11_feed 0 = .ok (.aload_n 0, 1) := by decide +kernel
theorem dX11_feed_1 : decode cX11_feed 1 = .ok (.iconst 0, 1) := by decide +kernel
theorem dX11_feed_2 : decode cX11_feed 2 = .ok (.putfield 107, 3) := by decide +kernel
theorem dX11_feed_5 : decode cX11_feed 5 = .ok (.aload_n 0, 1) := by decide +kernel
theorem dX11_feed_6 : decode cX11_feed 6 = .ok (.getfield 174, 3) := by decide +kernel
theorem dX11_feed_9 : decode cX11_feed 9 = .ok (.sipush 380, 3) := by decide +kernel
theorem dX11_feed_12 : decode cX11_feed 12 = .ok (.if_icmp .le 5, 3) := by decide +kernel
theorem dX11_feed_15 : decode cX11_feed 15 = .ok (.iconst (-1), 1) := by decide +kernel
theorem dX11_feed_16 : decode cX11_feed 16 = .ok (.ireturn, 1) := by decide +kernel
theorem dX11_feed_17 : decode cX11_feed 17 = .ok (.aload_n 0, 1) := by decide +kernel
theorem dX11_feed_18 : decode cX11_feed 18 = .ok (.iload_n 1, 1) := by decide +kernel
theorem dX11_feed_19 : decode cX11_feed 19 = .ok (.invokevirtual 177, 3) := by decide +kernel
theorem dX11_feed_22 : decode cX11_feed 22 = .ok (.aload_n 0, 1) := by decide +kernel
theorem dX11_feed_23 : decode cX11_feed 23 = .ok (.iload_n 2, 1) := by decide +kernel
theorem dX11_feed_24 : decode cX11_feed 24 = .ok (.invokevirtual 177, 3) := by decide +kernel
theorem dX11_feed_27 : decode cX11_feed 27 = .ok (.aload_n 0, 1) := by decide +kernel
theorem dX11_feed_28 : decode cX11_feed 28 = .ok (.iload_n 3, 1) := by decide +kernel
theorem dX11_feed_29 : decode cX11_feed 29 = .ok (.invokevirtual 177, 3) := by decide +kernel
theorem dX11_feed_32 : decode cX11_feed 32 = .ok (.aload_n 0, 1) := by decide +kernel
theorem dX11_feed_33 : decode cX11_feed 33 = .ok (.iload 4, 2) := by decide +kernel
theorem dX11_feed_35 : decode cX11_feed 35 = .ok (.invokevirtual 177, 3) := by decide +kernel
theorem dX11_feed_38 : decode cX11_feed 38 = .ok (.aload_n 0, 1) := by decide +kernel
theorem dX11_feed_39 : decode cX11_feed 39 = .ok (.iload 5, 2) := by decide +kernel
theorem dX11_feed_41 : decode cX11_feed 41 = .ok (.invokevirtual 177, 3) := by decide +kernel
theorem dX11_feed_44 : decode cX11_feed 44 = .ok (.aload_n 0, 1) := by decide +kernel
theorem dX11_feed_45 : decode cX11_feed 45 = .ok (.getfield 174, 3) := by decide +kernel
theorem dX11_feed_48 : decode cX11_feed 48 = .ok (.ireturn, 1) := by decide +kernel
theorem dX11_end_0 : decode cX11_end 0 = .ok (.aload_n 0, 1) := by decide +kernel
theorem dX11_end_1 : decode cX11_end 1 = .ok (.iconst 0, 1) := by decide +kernel
theorem dX11_end_2 : decode cX11_end 2 = .ok (.putfield 107, 3) := by decide +kernel
theorem dX11_end_5 : decode cX11_end 5 = .ok (.aload_n 0, 1) := by decide +kernel
theorem dX11_end_6 : decode cX11_end 6 = .ok (.iload_n 1, 1) := by decide +kernel
theorem dX11_end_7 : decode cX11_end 7 = .ok (.iconst 0, 1) := by decide +kernel
theorem dX11_end_8 : decode cX11_end 8 = .ok (.aload_n 0, 1) := by decide +kernel
theorem dX11_end_9 : decode cX11_end 9 = .ok (.getfield 174, 3) := by decide +kernel
theorem dX11_end_12 : decode cX11_end 12 = .ok (.invokevirtual 147, 3) := by decide +kernel
theorem dX11_end_15 : decode cX11_end 15 = .ok (.ifCond .ne 5, 3) := by decide +kernel
theorem dX11_end_18 : decode cX11_end 18 = .ok (.iconst 0, 1) := by decide +kernel
theorem dX11_end_19 : decode cX11_end 19 = .ok (.ireturn, 1) := by decide +kernel
theorem dX11_end_20 : decode cX11_end 20 = .ok (.aload_n 0, 1) := by decide +kernel
theorem dX11_end_21 : decode cX11_end 21 = .ok (.iload_n 1, 1) := by decide +kernel
theorem dX11_end_22 : decode cX11_end 22 = .ok (.putfield 174, 3) := by decide +kernel
theorem dX11_end_25 : decode cX11_end 25 = .ok (.iconst 1, 1) := by decide +kernel
theorem dX11_end_26 : decode cX11_end 26 = .ok (.ireturn, 1) := by decide +kernel
theorem dX11_raw_0 : decode cX11_raw 0 = .ok (.iload_n 1, 1) := by decide +kernel
theorem dX11_raw_1 : decode cX11_raw 1 = .ok (.aload_n 0, 1) := by decide +kernel
theorem dX11_raw_2 : decode cX11_raw 2 = .ok (.getfield 174, 3) := by decide +kernel
theorem dX11_raw_5 : decode cX11_raw 5 = .ok (.if_icmp .ge 12, 3) := by decide +kernel
theorem dX11_raw_8 : decode cX11_raw 8 = .ok (.aload_n 0, 1) := by decide +kernel
theorem dX11_raw_9 : decode cX11_raw 9 = .ok (.getfield 40, 3) := by decide +kernel
theorem dX11_raw_12 : decode cX11_raw 12 = .ok (.iload_n 1, 1) := by decide +kernel
theorem dX11_raw_13 : decode cX11_raw 13 = .ok (.iaload, 1) := by decide +kernel
theorem dX11_raw_14 : decode cX11_raw 14 = .ok (.goto 4, 3) := by decide +kernel
theorem dX11_raw_17 : decode cX11_raw 17 = .ok (.iconst (-1), 1) := by decide +kernel
theorem dX11_raw_18 : decode cX11_raw 18 = .ok (.ireturn, 1) := by decide +kernel
theorem dX11_isLetter_0 : decode cX11_isLetter 0 = .ok (.aload_n 0, 1) := by decide +kernel
theorem dX11_isLetter_1 : decode cX11_isLetter 1 = .ok (.iload_n 1, 1) := by decide +kernel
theorem dX11_isLetter_2 : decode cX11_isLetter 2 = .ok (.bipush 97, 2) := by decide +kernel
theorem dX11_isLetter_4 : decode cX11_isLetter 4 = .ok (.bipush 122, 2) := by decide +kernel
theorem dX11_isLetter_6 : decode cX11_isLetter 6 = .ok (.invokevirtual 147, 3) := by decide +kernel
theorem dX11_isLetter_9 : decode cX11_isLetter 9 = .ok (.ifCond .ne 15, 3) := by decide +kernel
theorem dX11_isLetter_12 : decode cX11_isLetter 12 = .ok (.aload_n 0, 1) := by decide +kernel
theorem dX11_isLetter_13 : decode cX11_isLetter 13 = .ok (.iload_n 1, 1) := by decide +kernel
theorem dX11_isLetter_14 : decode cX11_isLetter 14 = .ok (.bipush 65, 2) := by decide +kernel
theorem dX11_isLetter_16 : decode cX11_isLetter 16 = .ok (.bipush 90, 2) := by decide +kernel
theorem dX11_isLetter_18 : decode cX11_isLetter 18 = .ok (.invokevirtual 147, 3) := by decide +kernel
theorem dX11_isLetter_21 : decode cX11_isLetter 21 = .ok (.ifCond .eq 7, 3) := by decide +kernel
theorem dX11_isLetter_24 : decode cX11_isLetter 24 = .ok (.iconst 1, 1) := by decide +kernel
theorem dX11_isLetter_25 : decode cX11_isLetter 25 = .ok (.goto 4, 3) := by decide +kernel
theorem dX11_isLetter_28 : decode cX11_isLetter 28 = .ok (.iconst 0, 1) := by decide +kernel
theorem dX11_isLetter_29 : decode cX11_isLetter 29 = .ok (.ireturn, 1) := by decide +kernel
theorem dX11_isDigit_0 : decode cX11_isDigit 0 = .ok (.aload_n 0, 1) := by decide +kernel
theorem dX11_isDigit_1 : decode cX11_isDigit 1 = .ok (.iload_n 1, 1) := by decide +kernel
theorem dX11_isDigit_2 : decode cX11_isDigit 2 = .ok (.bipush 48, 2) := by decide +kernel
theorem dX11_isDigit_4 : decode cX11_isDigit 4 = .ok (.bipush 57, 2) := by decide +kernel
theorem dX11_isDigit_6 : decode cX11_isDigit 6 = .ok (.invokevirtual 147, 3) := by decide +kernel
theorem dX11_isDigit_9 : decode cX11_isDigit 9 = .ok (.ireturn, 1) := by decide +kernel
theorem dX11_isMarkSign_0 : decode cX11_isMarkSign 0 = .ok (.iload_n 1, 1) := by decide +kernel
theorem dX11_isMarkSign_1 : decode cX11_isMarkSign 1 = .ok (.bipush 59, 2) := by decide +kernel
theorem dX11_isMarkSign_3 : decode cX11_isMarkSign 3 = .ok (.if_icmp .eq 57, 3) := by decide +kernel
theorem dX11_isMarkSign_6 : decode cX11_isMarkSign 6 = .ok (.iload_n 1, 1) := by decide +kernel
theorem dX11_isMarkSign_7 : decode cX11_isMarkSign 7 = .ok (.bipush 43, 2) := by decide +kernel
theorem dX11_isMarkSign_9 : decode cX11_isMarkSign 9 = .ok (.if_icmp .eq 51, 3) := by decide +kernel
theorem dX11_isMarkSign_12 : decode cX11_isMarkSign 12 = .ok (.iload_n 1, 1) := by decide +kernel
theorem dX11_isMarkSign_13 : decode cX11_isMarkSign 13 = .ok (.bipush 45, 2) := by decide +kernel
theorem dX11_isMarkSign_15 : decode cX11_isMarkSign 15 = .ok (.if_icmp .eq 45, 3) := by decide +kernel
theorem dX11_isMarkSign_18 : decode cX11_isMarkSign 18 = .ok (.iload_n 1, 1) := by decide +kernel
theorem dX11_isMarkSign_19 : decode cX11_isMarkSign 19 = .ok (.bipush 42, 2) := by decide +kernel
theorem dX11_isMarkSign_21 : decode cX11_isMarkSign 21 = .ok (.if_icmp .eq 39, 3) := by decide +kernel
theorem dX11_isMarkSign_24 : decode cX11_isMarkSign 24 = .ok (.iload_n 1, 1) := by decide +kernel
theorem dX11_isMarkSign_25 : decode cX11_isMarkSign 25 = .ok (.bipush 47, 2) := by decide +kernel
theorem dX11_isMarkSign_27 : decode cX11_isMarkSign 27 = .ok (.if_icmp .eq 33, 3) := by decide +kernel
theorem dX11_isMarkSign_30 : decode cX11_isMarkSign 30 = .ok (.iload_n 1, 1) := by decide +kernel
theorem dX11_isMarkSign_31 : decode cX11_isMarkSign 31 = .ok (.bipush 40, 2) := by decide +kernel
theorem dX11_isMarkSign_33 : decode cX11_isMarkSign 33 = .ok (.if_icmp .eq 27, 3) := by decide +kernel
theorem dX11_isMarkSign_36 : decode cX11_isMarkSign 36 = .ok (.iload_n 1, 1) := by decide +kernel
theorem dX11_isMarkSign_37 : decode cX11_isMarkSign 37 = .ok (.bipush 41, 2) := by decide +kernel
theorem dX11_isMarkSign_39 : decode cX11_isMarkSign 39 = .ok (.if_icmp .eq 21, 3) := by decide +kernel
theorem dX11_isMarkSign_42 : decode cX11_isMarkSign 42 = .ok (.iload_n 1, 1) := by decide +kernel
theorem dX11_isMarkSign_43 : decode cX11_isMarkSign 43 = .ok (.bipush 60, 2) := by decide +kernel
theorem dX11_isMarkSign_45 : decode cX11_isMarkSign 45 = .ok (.if_icmp .eq 15, 3) := by decide +kernel
theorem dX11_isMarkSign_48 : decode cX11_isMarkSign 48 = .ok (.iload_n 1, 1) := by decide +kernel
theorem dX11_isMarkSign_49 : decode cX11_isMarkSign 49 = .ok (.bipush 61, 2) := by decide +kernel
theorem dX11_isMarkSign_51 : decode cX11_isMarkSign 51 = .ok (.if_icmp .eq 9, 3) := by decide +kernel
theorem dX11_isMarkSign_54 : decode cX11_isMarkSign 54 = .ok (.iload_n 1, 1) := by decide +kernel
theorem dX11_isMarkSign_55 : decode cX11_isMarkSign 55 = .ok (.bipush 62, 2) := by decide +kernel
theorem dX11_isMarkSign_57 : decode cX11_isMarkSign 57 = .ok (.if_icmp .ne 7, 3) := by decide +kernel
theorem dX11_isMarkSign_60 : decode cX11_isMarkSign 60 = .ok (.iconst 1, 1) := by decide +kernel
theorem dX11_isMarkSign_61 : decode cX11_isMarkSign 61 = .ok (.goto 4, 3) := by decide +kernel
theorem dX11_isMarkSign_64 : decode cX11_isMarkSign 64 = .ok (.iconst 0, 1) := by decide +kernel
theorem dX11_isMarkSign_65 : decode cX11_isMarkSign 65 = .ok (.ireturn, 1) := by decide +kernel
theorem dX11_wordAt_0 : decode cX11_wordAt 0 = .ok (.iconst (-1), 1) := by decide +kernel
theorem dX11_wordAt_1 : decode cX11_wordAt 1 = .ok (.istore_n 3, 1) := by decide +kernel
theorem dX11_wordAt_2 : decode cX11_wordAt 2 = .ok (.iconst 0, 1) := by decide +kernel
theorem dX11_wordAt_3 : decode cX11_wordAt 3 = .ok (.istore 4, 2) := by decide +kernel
theorem dX11_wordAt_5 : decode cX11_wordAt 5 = .ok (.iload 4, 2) := by decide +kernel
theorem dX11_wordAt_7 : decode cX11_wordAt 7 = .ok (.bipush 92, 2) := by decide +kernel
theorem dX11_wordAt_9 : decode cX11_wordAt 9 = .ok (.if_icmp .ge 108, 3) := by decide +kernel
theorem dX11_wordAt_12 : decode cX11_wordAt 12 = .ok (.iconst 0, 1) := by decide +kernel
theorem dX11_wordAt_13 : decode cX11_wordAt 13 = .ok (.istore 5, 2) := by decide +kernel
theorem dX11_wordAt_15 : decode cX11_wordAt 15 = .ok (.iload_n 3, 1) := by decide +kernel
theorem dX11_wordAt_16 : decode cX11_wordAt 16 = .ok (.iconst 1, 1) := by decide +kernel
theorem dX11_wordAt_17 : decode cX11_wordAt 17 = .ok (.iadd, 1) := by decide +kernel
theorem dX11_wordAt_18 : decode cX11_wordAt 18 = .ok (.istore_n 3, 1) := by decide +kernel
theorem dX11_wordAt_19 : decode cX11_wordAt 19 = .ok (.iload_n 1, 1) := by decide +kernel
theorem dX11_wordAt_20 : decode cX11_wordAt 20 = .ok (.iload 5, 2) := by decide +kernel
theorem dX11_wordAt_22 : decode cX11_wordAt 22 = .ok (.iadd, 1) := by decide +kernel
theorem dX11_wordAt_23 : decode cX11_wordAt 23 = .ok (.iload_n 2, 1) := by decide +kernel
theorem dX11_wordAt_24 : decode cX11_wordAt 24 = .ok (.if_icmp .ge 36, 3) := by decide +kernel
theorem dX11_wordAt_27 : decode cX11_wordAt 27 = .ok (.aload_n 0, 1) := by decide +kernel
theorem dX11_wordAt_28 : decode cX11_wordAt 28 = .ok (.getfield 43, 3) := by decide +kernel
theorem dX11_wordAt_31 : decode cX11_wordAt 31 = .ok (.iload 4, 2) := by decide +kernel
theorem dX11_wordAt_33 : decode cX11_wordAt 33 = .ok (.iconst 1, 1) := by decide +kernel
theorem dX11_wordAt_34 : decode cX11_wordAt 34 = .ok (.iadd, 1) := by decide +kernel
theorem dX11_wordAt_35 : decode cX11_wordAt 35 = .ok (.iload 5, 2) := by decide +kernel
theorem dX11_wordAt_37 : decode cX11_wordAt 37 = .ok (.iadd, 1) := by decide +kernel
theorem dX11_wordAt_38 : decode cX11_wordAt 38 = .ok (.iaload, 1) := by decide +kernel
theorem dX11_wordAt_39 : decode cX11_wordAt 39 = .ok (.aload_n 0, 1) := by decide +kernel
theorem dX11_wordAt_40 : decode cX11_wordAt 40 = .ok (.getfield 40, 3) := by decide +kernel
theorem dX11_wordAt_43 : decode cX11_wordAt 43 = .ok (.iload_n 1, 1) := by decide +kernel
theorem dX11_wordAt_44 : decode cX11_wordAt 44 = .ok (.iload 5, 2) := by decide +kernel
theorem dX11_wordAt_46 : decode cX11_wordAt 46 = .ok (.iadd, 1) := by decide +kernel
theorem dX11_wordAt_47 : decode cX11_wordAt 47 = .ok (.iaload, 1) := by decide +kernel
theorem dX11_wordAt_48 : decode cX11_wordAt 48 = .ok (.if_icmp .ne 12, 3) := by decide +kernel
theorem dX11_wordAt_51 : decode cX11_wordAt 51 = .ok (.iload 5, 2) := by decide +kernel
theorem dX11_wordAt_53 : decode cX11_wordAt 53 = .ok (.iconst 1, 1) := by decide +kernel
theorem dX11_wordAt_54 : decode cX11_wordAt 54 = .ok (.iadd, 1) := by decide +kernel
theorem dX11_wordAt_55 : decode cX11_wordAt 55 = .ok (.istore 5, 2) := by decide +kernel
theorem dX11_wordAt_57 : decode cX11_wordAt 57 = .ok (.goto (-38), 3) := by decide +kernel
theorem dX11_wordAt_60 : decode cX11_wordAt 60 = .ok (.iload_n 1, 1) := by decide +kernel
theorem dX11_wordAt_61 : decode cX11_wordAt 61 = .ok (.iload 5, 2) := by decide +kernel
theorem dX11_wordAt_63 : decode cX11_wordAt 63 = .ok (.iadd, 1) := by decide +kernel
theorem dX11_wordAt_64 : decode cX11_wordAt 64 = .ok (.iload_n 2, 1) := by decide +kernel
theorem dX11_wordAt_65 : decode cX11_wordAt 65 = .ok (.if_icmp .ne 22, 3) := by decide +kernel
theorem dX11_wordAt_68 : decode cX11_wordAt 68 = .ok (.aload_n 0, 1) := by decide +kernel
theorem dX11_wordAt_69 : decode cX11_wordAt 69 = .ok (.getfield 43, 3) := by decide +kernel
theorem dX11_wordAt_72 : decode cX11_wordAt 72 = .ok (.iload 4, 2) := by decide +kernel
theorem dX11_wordAt_74 : decode cX11_wordAt 74 = .ok (.iconst 1, 1) := by decide +kernel
theorem dX11_wordAt_75 : decode cX11_wordAt 75 = .ok (.iadd, 1) := by decide +kernel
theorem dX11_wordAt_76 : decode cX11_wordAt 76 = .ok (.iload 5, 2) := by decide +kernel
theorem dX11_wordAt_78 : decode cX11_wordAt 78 = .ok (.iadd, 1) := by decide +kernel
theorem dX11_wordAt_79 : decode cX11_wordAt 79 = .ok (.iaload, 1) := by decide +kernel
theorem dX11_wordAt_80 : decode cX11_wordAt 80 = .ok (.bipush 32, 2) := by decide +kernel
theorem dX11_wordAt_82 : decode cX11_wordAt 82 = .ok (.if_icmp .ne 5, 3) := by decide +kernel
theorem dX11_wordAt_85 : decode cX11_wordAt 85 = .ok (.iload_n 3, 1) := by decide +kernel
theorem dX11_wordAt_86 : decode cX11_wordAt 86 = .ok (.ireturn, 1) := by decide +kernel
theorem dX11_wordAt_87 : decode cX11_wordAt 87 = .ok (.iload 4, 2) := by decide +kernel
theorem dX11_wordAt_89 : decode cX11_wordAt 89 = .ok (.iconst 1, 1) := by decide +kernel
theorem dX11_wordAt_90 : decode cX11_wordAt 90 = .ok (.iadd, 1) := by decide +kernel
theorem dX11_wordAt_91 : decode cX11_wordAt 91 = .ok (.istore 4, 2) := by decide +kernel
theorem dX11_wordAt_93 : decode cX11_wordAt 93 = .ok (.aload_n 0, 1) := by decide +kernel
theorem dX11_wordAt_94 : decode cX11_wordAt 94 = .ok (.getfield 43, 3) := by decide +kernel
theorem dX11_wordAt_97 : decode cX11_wordAt 97 = .ok (.iload 4, 2) := by decide +kernel
theorem dX11_wordAt_99 : decode cX11_wordAt 99 = .ok (.iaload, 1) := by decide +kernel
theorem dX11_wordAt_100 : decode cX11_wordAt 100 = .ok (.bipush 32, 2) := by decide +kernel
theorem dX11_wordAt_102 : decode cX11_wordAt 102 = .ok (.if_icmp .eq 12, 3) := by decide +kernel
theorem dX11_wordAt_105 : decode cX11_wordAt 105 = .ok (.iload 4, 2) := by decide +kernel
theorem dX11_wordAt_107 : decode cX11_wordAt 107 = .ok (.iconst 1, 1) := by decide +kernel
theorem dX11_wordAt_108 : decode cX11_wordAt 108 = .ok (.iadd, 1) := by decide +kernel
theorem dX11_wordAt_109 : decode cX11_wordAt 109 = .ok (.istore 4, 2) := by decide +kernel
theorem dX11_wordAt_111 : decode cX11_wordAt 111 = .ok (.goto (-18), 3) := by decide +kernel
theorem dX11_wordAt_114 : decode cX11_wordAt 114 = .ok (.goto (-109), 3) := by decide +kernel
theorem dX11_wordAt_117 : decode cX11_wordAt 117 = .ok (.iconst (-1), 1) := by decide +kernel
theorem dX11_wordAt_118 : decode cX11_wordAt 118 = .ok (.ireturn, 1) := by decide +kernel
theorem dX11_reads_0 : decode cX11_reads 0 = .ok (.aload_n 0, 1) := by decide +kernel
theorem dX11_reads_1 : decode cX11_reads 1 = .ok (.aload_n 0, 1) := by decide +kernel
theorem dX11_reads_2 : decode cX11_reads 2 = .ok (.getfield 180, 3) := by decide +kernel
theorem dX11_reads_5 : decode cX11_reads 5 = .ok (.invokevirtual 183, 3) := by decide +kernel
theorem dX11_reads_8 : decode cX11_reads 8 = .ok (.bipush 32, 2) := by decide +kernel
theorem dX11_reads_10 : decode cX11_reads 10 = .ok (.if_icmp .eq 16, 3) := by decide +kernel
theorem dX11_reads_13 : decode cX11_reads 13 = .ok (.aload_n 0, 1) := by decide +kernel
theorem dX11_reads_14 : decode cX11_reads 14 = .ok (.aload_n 0, 1) := by decide +kernel
theorem dX11_reads_15 : decode cX11_reads 15 = .ok (.getfield 180, 3) := by decide +kernel
theorem dX11_reads_18 : decode cX11_reads 18 = .ok (.invokevirtual 183, 3) := by decide +kernel
theorem dX11_reads_21 : decode cX11_reads 21 = .ok (.bipush 10, 2) := by decide +kernel
theorem dX11_reads_23 : decode cX11_reads 23 = .ok (.if_icmp .ne 16, 3) := by decide +kernel
theorem dX11_reads_26 : decode cX11_reads 26 = .ok (.aload_n 0, 1) := by decide +kernel
theorem dX11_reads_27 : decode cX11_reads 27 = .ok (.aload_n 0, 1) := by decide +kernel
theorem dX11_reads_28 : decode cX11_reads 28 = .ok (.getfield 180, 3) := by decide +kernel
theorem dX11_reads_31 : decode cX11_reads 31 = .ok (.iconst 1, 1) := by decide +kernel
theorem dX11_reads_32 : decode cX11_reads 32 = .ok (.iadd, 1) := by decide +kernel
theorem dX11_reads_33 : decode cX11_reads 33 = .ok (.putfield 180, 3) := by decide +kernel
theorem dX11_reads_36 : decode cX11_reads 36 = .ok (.goto (-36), 3) := by decide +kernel
theorem dX11_reads_39 : decode cX11_reads 39 = .ok (.aload_n 0, 1) := by decide +kernel
theorem dX11_reads_40 : decode cX11_reads 40 = .ok (.aload_n 0, 1) := by decide +kernel
theorem dX11_reads_41 : decode cX11_reads 41 = .ok (.getfield 180, 3) := by decide +kernel
theorem dX11_reads_44 : decode cX11_reads 44 = .ok (.putfield 186, 3) := by decide +kernel
theorem dX11_reads_47 : decode cX11_reads 47 = .ok (.aload_n 0, 1) := by decide +kernel
theorem dX11_reads_48 : decode cX11_reads 48 = .ok (.iconst 1, 1) := by decide +kernel
theorem dX11_reads_49 : decode cX11_reads 49 = .ok (.putfield 189, 3) := by decide +kernel
theorem dX11_reads_52 : decode cX11_reads 52 = .ok (.aload_n 0, 1) := by decide +kernel
theorem dX11_reads_53 : decode cX11_reads 53 = .ok (.aload_n 0, 1) := by decide +kernel
theorem dX11_reads_54 : decode cX11_reads 54 = .ok (.getfield 180, 3) := by decide +kernel
theorem dX11_reads_57 : decode cX11_reads 57 = .ok (.invokevirtual 183, 3) := by decide +kernel
theorem dX11_reads_60 : decode cX11_reads 60 = .ok (.istore_n 1, 1) := by decide +kernel
theorem dX11_reads_61 : decode cX11_reads 61 = .ok (.iload_n 1, 1) := by decide +kernel
theorem dX11_reads_62 : decode cX11_reads 62 = .ok (.iconst (-1), 1) := by decide +kernel
theorem dX11_reads_63 : decode cX11_reads 63 = .ok (.if_icmp .ne 9, 3) := by decide +kernel
theorem dX11_reads_66 : decode cX11_reads 66 = .ok (.aload_n 0, 1) := by decide +kernel
theorem dX11_reads_67 : decode cX11_reads 67 = .ok (.iconst 0, 1) := by decide +kernel
theorem dX11_reads_68 : decode cX11_reads 68 = .ok (.putfield 189, 3) := by decide +kernel
theorem dX11_reads_71 : decode cX11_reads 71 = .ok (.return_, 1) := by decide +kernel
theorem dX11_reads_72 : decode cX11_reads 72 = .ok (.aload_n 0, 1) := by decide +kernel
theorem dX11_reads_73 : decode cX11_reads 73 = .ok (.aload_n 0, 1) := by decide +kernel
theorem dX11_reads_74 : decode cX11_reads 74 = .ok (.getfield 180, 3) := by decide +kernel
theorem dX11_reads_77 : decode cX11_reads 77 = .ok (.iconst 1, 1) := by decide +kernel
theorem dX11_reads_78 : decode cX11_reads 78 = .ok (.iadd, 1) := by decide +kernel
theorem dX11_reads_79 : decode cX11_reads 79 = .ok (.putfield 180, 3) := by decide +kernel
theorem dX11_reads_82 : decode cX11_reads 82 = .ok (.aload_n 0, 1) := by decide +kernel
theorem dX11_reads_83 : decode cX11_reads 83 = .ok (.iload_n 1, 1) := by decide +kernel
theorem dX11_reads_84 : decode cX11_reads 84 = .ok (.putfield 192, 3) := by decide +kernel
theorem dX11_reads_87 : decode cX11_reads 87 = .ok (.aload_n 0, 1) := by decide +kernel
theorem dX11_reads_88 : decode cX11_reads 88 = .ok (.iload_n 1, 1) := by decide +kernel
theorem dX11_reads_89 : decode cX11_reads 89 = .ok (.invokevirtual 195, 3) := by decide +kernel
theorem dX11_reads_92 : decode cX11_reads 92 = .ok (.ifCond .eq 63, 3) := by decide +kernel
theorem dX11_reads_95 : decode cX11_reads 95 = .ok (.aload_n 0, 1) := by decide +kernel
theorem dX11_reads_96 : decode cX11_reads 96 = .ok (.aload_n 0, 1) := by decide +kernel
theorem dX11_reads_97 : decode cX11_reads 97 = .ok (.aload_n 0, 1) := by decide +kernel
theorem dX11_reads_98 : decode cX11_reads 98 = .ok (.getfield 180, 3) := by decide +kernel
theorem dX11_reads_101 : decode cX11_reads 101 = .ok (.invokevirtual 183, 3) := by decide +kernel
theorem dX11_reads_104 : decode cX11_reads 104 = .ok (.invokevirtual 195, 3) := by decide +kernel
theorem dX11_reads_107 : decode cX11_reads 107 = .ok (.ifCond .eq 16, 3) := by decide +kernel
theorem dX11_reads_110 : decode cX11_reads 110 = .ok (.aload_n 0, 1) := by decide +kernel
theorem dX11_reads_111 : decode cX11_reads 111 = .ok (.aload_n 0, 1) := by decide +kernel
theorem dX11_reads_112 : decode cX11_reads 112 = .ok (.getfield 180, 3) := by decide +kernel
theorem dX11_reads_115 : decode cX11_reads 115 = .ok (.iconst 1, 1) := by decide +kernel
theorem dX11_reads_116 : decode cX11_reads 116 = .ok (.iadd, 1) := by decide +kernel
theorem dX11_reads_117 : decode cX11_reads 117 = .ok (.putfield 180, 3) := by decide +kernel
theorem dX11_reads_120 : decode cX11_reads 120 = .ok (.goto (-25), 3) := by decide +kernel
theorem dX11_reads_123 : decode cX11_reads 123 = .ok (.aload_n 0, 1) := by decide +kernel
theorem dX11_reads_124 : decode cX11_reads 124 = .ok (.aload_n 0, 1) := by decide +kernel
theorem dX11_reads_125 : decode cX11_reads 125 = .ok (.aload_n 0, 1) := by decide +kernel
theorem dX11_reads_126 : decode cX11_reads 126 = .ok (.getfield 186, 3) := by decide +kernel
theorem dX11_reads_129 : decode cX11_reads 129 = .ok (.aload_n 0, 1) := by decide +kernel
theorem dX11_reads_130 : decode cX11_reads 130 = .ok (.getfield 180, 3) := by decide +kernel
theorem dX11_reads_133 : decode cX11_reads 133 = .ok (.invokevirtual 198, 3) := by decide +kernel
theorem dX11_reads_136 : decode cX11_reads 136 = .ok (.putfield 192, 3) := by decide +kernel
theorem dX11_reads_139 : decode cX11_reads 139 = .ok (.aload_n 0, 1) := by decide +kernel
theorem dX11_reads_140 : decode cX11_reads 140 = .ok (.getfield 192, 3) := by decide +kernel
theorem dX11_reads_143 : decode cX11_reads 143 = .ok (.iconst (-1), 1) := by decide +kernel
theorem dX11_reads_144 : decode cX11_reads 144 = .ok (.if_icmp .eq 129, 3) := by decide +kernel
theorem dX11_reads_147 : decode cX11_reads 147 = .ok (.aload_n 0, 1) := by decide +kernel
theorem dX11_reads_148 : decode cX11_reads 148 = .ok (.iconst 2, 1) := by decide +kernel
theorem dX11_reads_149 : decode cX11_reads 149 = .ok (.putfield 189, 3) := by decide +kernel
theorem dX11_reads_152 : decode cX11_reads 152 = .ok (.goto 121, 3) := by decide +kernel
theorem dX11_reads_155 : decode cX11_reads 155 = .ok (.aload_n 0, 1) := by decide +kernel
theorem dX11_reads_156 : decode cX11_reads 156 = .ok (.iload_n 1, 1) := by decide +kernel
theorem dX11_reads_157 : decode cX11_reads 157 = .ok (.invokevirtual 202, 3) := by decide +kernel
theorem dX11_reads_160 : decode cX11_reads 160 = .ok (.ifCond .eq 100, 3) := by decide +kernel
theorem dX11_reads_163 : decode cX11_reads 163 = .ok (.aload_n 0, 1) := by decide +kernel
theorem dX11_reads_164 : decode cX11_reads 164 = .ok (.iload_n 1, 1) := by decide +kernel
theorem dX11_reads_165 : decode cX11_reads 165 = .ok (.bipush 48, 2) := by decide +kernel
theorem dX11_reads_167 : decode cX11_reads 167 = .ok (.isub, 1) := by decide +kernel
theorem dX11_reads_168 : decode cX11_reads 168 = .ok (.putfield 192, 3) := by decide +kernel
theorem dX11_reads_171 : decode cX11_reads 171 = .ok (.aload_n 0, 1) := by decide +kernel
theorem dX11_reads_172 : decode cX11_reads 172 = .ok (.aload_n 0, 1) := by decide +kernel
theorem dX11_reads_173 : decode cX11_reads 173 = .ok (.aload_n 0, 1) := by decide +kernel
theorem dX11_reads_174 : decode cX11_reads 174 = .ok (.getfield 180, 3) := by decide +kernel
theorem dX11_reads_177 : decode cX11_reads 177 = .ok (.invokevirtual 183, 3) := by decide +kernel
theorem dX11_reads_180 : decode cX11_reads 180 = .ok (.invokevirtual 202, 3) := by decide +kernel
theorem dX11_reads_183 : decode cX11_reads 183 = .ok (.ifCond .eq 56, 3) := by decide +kernel
theorem dX11_reads_186 : decode cX11_reads 186 = .ok (.aload_n 0, 1) := by decide +kernel
theorem dX11_reads_187 : decode cX11_reads 187 = .ok (.aload_n 0, 1) := by decide +kernel
theorem dX11_reads_188 : decode cX11_reads 188 = .ok (.getfield 192, 3) := by decide +kernel
theorem dX11_reads_191 : decode cX11_reads 191 = .ok (.sipush 10000, 3) := by decide +kernel
theorem dX11_reads_194 : decode cX11_reads 194 = .ok (.if_icmp .ge 25, 3) := by decide +kernel
theorem dX11_reads_197 : decode cX11_reads 197 = .ok (.bipush 10, 2) := by decide +kernel
theorem dX11_reads_199 : decode cX11_reads 199 = .ok (.aload_n 0, 1) := by decide +kernel
theorem dX11_reads_200 : decode cX11_reads 200 = .ok (.getfield 192, 3) := by decide +kernel
theorem dX11_reads_203 : decode cX11_reads 203 = .ok (.imul, 1) := by decide +kernel
theorem dX11_reads_204 : decode cX11_reads 204 = .ok (.aload_n 0, 1) := by decide +kernel
theorem dX11_reads_205 : decode cX11_reads 205 = .ok (.aload_n 0, 1) := by decide +kernel
theorem dX11_reads_206 : decode cX11_reads 206 = .ok (.getfield 180, 3) := by decide +kernel
theorem dX11_reads_209 : decode cX11_reads 209 = .ok (.invokevirtual 183, 3) := by decide +kernel
theorem dX11_reads_212 : decode cX11_reads 212 = .ok (.iadd, 1) := by decide +kernel
theorem dX11_reads_213 : decode cX11_reads 213 = .ok (.bipush 48, 2) := by decide +kernel
theorem dX11_reads_215 : decode cX11_reads 215 = .ok (.isub, 1) := by decide +kernel
theorem dX11_reads_216 : decode cX11_reads 216 = .ok (.goto 7, 3) := by decide +kernel
theorem dX11_reads_219 : decode cX11_reads 219 = .ok (.aload_n 0, 1) := by decide +kernel
theorem dX11_reads_220 : decode cX11_reads 220 = .ok (.getfield 192, 3) := by decide +kernel
theorem dX11_reads_223 : decode cX11_reads 223 = .ok (.putfield 192, 3) := by decide +kernel
theorem dX11_reads_226 : decode cX11_reads 226 = .ok (.aload_n 0, 1) := by decide +kernel
theorem dX11_reads_227 : decode cX11_reads 227 = .ok (.aload_n 0, 1) := by decide +kernel
theorem dX11_reads_228 : decode cX11_reads 228 = .ok (.getfield 180, 3) := by decide +kernel
theorem dX11_reads_231 : decode cX11_reads 231 = .ok (.iconst 1, 1) := by decide +kernel
theorem dX11_reads_232 : decode cX11_reads 232 = .ok (.iadd, 1) := by decide +kernel
theorem dX11_reads_233 : decode cX11_reads 233 = .ok (.putfield 180, 3) := by decide +kernel
theorem dX11_reads_236 : decode cX11_reads 236 = .ok (.goto (-65), 3) := by decide +kernel
theorem dX11_reads_239 : decode cX11_reads 239 = .ok (.aload_n 0, 1) := by decide +kernel
theorem dX11_reads_240 : decode cX11_reads 240 = .ok (.getfield 180, 3) := by decide +kernel
theorem dX11_reads_243 : decode cX11_reads 243 = .ok (.aload_n 0, 1) := by decide +kernel
theorem dX11_reads_244 : decode cX11_reads 244 = .ok (.getfield 186, 3) := by decide +kernel
theorem dX11_reads_247 : decode cX11_reads 247 = .ok (.isub, 1) := by decide +kernel
theorem dX11_reads_248 : decode cX11_reads 248 = .ok (.iconst 5, 1) := by decide +kernel
theorem dX11_reads_249 : decode cX11_reads 249 = .ok (.if_icmp .ge 24, 3) := by decide +kernel
theorem dX11_reads_252 : decode cX11_reads 252 = .ok (.aload_n 0, 1) := by decide +kernel
theorem dX11_reads_253 : decode cX11_reads 253 = .ok (.iconst 3, 1) := by decide +kernel
theorem dX11_reads_254 : decode cX11_reads 254 = .ok (.putfield 189, 3) := by decide +kernel
theorem dX11_reads_257 : decode cX11_reads 257 = .ok (.goto 16, 3) := by decide +kernel
theorem dX11_reads_260 : decode cX11_reads 260 = .ok (.aload_n 0, 1) := by decide +kernel
theorem dX11_reads_261 : decode cX11_reads 261 = .ok (.iload_n 1, 1) := by decide +kernel
theorem dX11_reads_262 : decode cX11_reads 262 = .ok (.invokevirtual 205, 3) := by decide +kernel
theorem dX11_reads_265 : decode cX11_reads 265 = .ok (.ifCond .eq 8, 3) := by decide +kernel
theorem dX11_reads_268 : decode cX11_reads 268 = .ok (.aload_n 0, 1) := by decide +kernel
theorem dX11_reads_269 : decode cX11_reads 269 = .ok (.iconst 4, 1) := by decide +kernel
theorem dX11_reads_270 : decode cX11_reads 270 = .ok (.putfield 189, 3) := by decide +kernel
theorem dX11_reads_273 : decode cX11_reads 273 = .ok (.return_, 1) := by decide +kernel
theorem dX11_errs_0 : decode cX11_errs 0 = .ok (.aload_n 0, 1) := by decide +kernel
theorem dX11_errs_1 : decode cX11_errs 1 = .ok (.iload_n 1, 1) := by decide +kernel
theorem dX11_errs_2 : decode cX11_errs 2 = .ok (.putfield 208, 3) := by decide +kernel
theorem dX11_errs_5 : decode cX11_errs 5 = .ok (.aload_n 0, 1) := by decide +kernel
theorem dX11_errs_6 : decode cX11_errs 6 = .ok (.aload_n 0, 1) := by decide +kernel
theorem dX11_errs_7 : decode cX11_errs 7 = .ok (.getfield 186, 3) := by decide +kernel
theorem dX11_errs_10 : decode cX11_errs 10 = .ok (.putfield 211, 3) := by decide +kernel
theorem dX11_errs_13 : decode cX11_errs 13 = .ok (.iconst (-1), 1) := by decide +kernel
theorem dX11_errs_14 : decode cX11_errs 14 = .ok (.ireturn, 1) := by decide +kernel
theorem dX11_isWord_0 : decode cX11_isWord 0 = .ok (.aload_n 0, 1) := by decide +kernel
theorem dX11_isWord_1 : decode cX11_isWord 1 = .ok (.getfield 189, 3) := by decide +kernel
theorem dX11_isWord_4 : decode cX11_isWord 4 = .ok (.iconst 2, 1) := by decide +kernel
theorem dX11_isWord_5 : decode cX11_isWord 5 = .ok (.if_icmp .ne 15, 3) := by decide +kernel
theorem dX11_isWord_8 : decode cX11_isWord 8 = .ok (.aload_n 0, 1) := by decide +kernel
theorem dX11_isWord_9 : decode cX11_isWord 9 = .ok (.getfield 192, 3) := by decide +kernel
theorem dX11_isWord_12 : decode cX11_isWord 12 = .ok (.iload_n 1, 1) := by decide +kernel
theorem dX11_isWord_13 : decode cX11_isWord 13 = .ok (.if_icmp .ne 7, 3) := by decide +kernel
theorem dX11_isWord_16 : decode cX11_isWord 16 = .ok (.iconst 1, 1) := by decide +kernel
theorem dX11_isWord_17 : decode cX11_isWord 17 = .ok (.goto 4, 3) := by decide +kernel
theorem dX11_isWord_20 : decode cX11_isWord 20 = .ok (.iconst 0, 1) := by decide +kernel
theorem dX11_isWord_21 : decode cX11_isWord 21 = .ok (.ireturn, 1) := by decide +kernel
theorem dX11_isSign_0 : decode cX11_isSign 0 = .ok (.aload_n 0, 1) := by decide +kernel
theorem dX11_isSign_1 : decode cX11_isSign 1 = .ok (.getfield 189, 3) := by decide +kernel
theorem dX11_isSign_4 : decode cX11_isSign 4 = .ok (.iconst 4, 1) := by decide +kernel
theorem dX11_isSign_5 : decode cX11_isSign 5 = .ok (.if_icmp .ne 15, 3) := by decide +kernel
theorem dX11_isSign_8 : decode cX11_isSign 8 = .ok (.aload_n 0, 1) := by decide +kernel
theorem dX11_isSign_9 : decode cX11_isSign 9 = .ok (.getfield 192, 3) := by decide +kernel
theorem dX11_isSign_12 : decode cX11_isSign 12 = .ok (.iload_n 1, 1) := by decide +kernel
theorem dX11_isSign_13 : decode cX11_isSign 13 = .ok (.if_icmp .ne 7, 3) := by decide +kernel
theorem dX11_isSign_16 : decode cX11_isSign 16 = .ok (.iconst 1, 1) := by decide +kernel
theorem dX11_isSign_17 : decode cX11_isSign 17 = .ok (.goto 4, 3) := by decide +kernel
theorem dX11_isSign_20 : decode cX11_isSign 20 = .ok (.iconst 0, 1) := by decide +kernel
theorem dX11_isSign_21 : decode cX11_isSign 21 = .ok (.ireturn, 1) := by decide +kernel
theorem dX11_emits_0 : decode cX11_emits 0 = .ok (.aload_n 0, 1) := by decide +kernel
theorem dX11_emits_1 : decode cX11_emits 1 = .ok (.getfield 55, 3) := by decide +kernel
theorem dX11_emits_4 : decode cX11_emits 4 = .ok (.sipush 400, 3) := by decide +kernel
theorem dX11_emits_7 : decode cX11_emits 7 = .ok (.aload_n 0, 1) := by decide +kernel
theorem dX11_emits_8 : decode cX11_emits 8 = .ok (.getfield 214, 3) := by decide +kernel
theorem dX11_emits_11 : decode cX11_emits 11 = .ok (.iadd, 1) := by decide +kernel
theorem dX11_emits_12 : decode cX11_emits 12 = .ok (.iload_n 1, 1) := by decide +kernel
theorem dX11_emits_13 : decode cX11_emits 13 = .ok (.iastore, 1) := by decide +kernel
theorem dX11_emits_14 : decode cX11_emits 14 = .ok (.aload_n 0, 1) := by decide +kernel
theorem dX11_emits_15 : decode cX11_emits 15 = .ok (.getfield 58, 3) := by decide +kernel
theorem dX11_emits_18 : decode cX11_emits 18 = .ok (.sipush 400, 3) := by decide +kernel
theorem dX11_emits_21 : decode cX11_emits 21 = .ok (.aload_n 0, 1) := by decide +kernel
theorem dX11_emits_22 : decode cX11_emits 22 = .ok (.getfield 214, 3) := by decide +kernel
theorem dX11_emits_25 : decode cX11_emits 25 = .ok (.iadd, 1) := by decide +kernel
theorem dX11_emits_26 : decode cX11_emits 26 = .ok (.iload_n 2, 1) := by decide +kernel
theorem dX11_emits_27 : decode cX11_emits 27 = .ok (.iastore, 1) := by decide +kernel
theorem dX11_emits_28 : decode cX11_emits 28 = .ok (.aload_n 0, 1) := by decide +kernel
theorem dX11_emits_29 : decode cX11_emits 29 = .ok (.aload_n 0, 1) := by decide +kernel
theorem dX11_emits_30 : decode cX11_emits 30 = .ok (.getfield 214, 3) := by decide +kernel
theorem dX11_emits_33 : decode cX11_emits 33 = .ok (.iconst 1, 1) := by decide +kernel
theorem dX11_emits_34 : decode cX11_emits 34 = .ok (.iadd, 1) := by decide +kernel
theorem dX11_emits_35 : decode cX11_emits 35 = .ok (.putfield 214, 3) := by decide +kernel
theorem dX11_emits_38 : decode cX11_emits 38 = .ok (.return_, 1) := by decide +kernel
theorem dX11_readUnit_0 : decode cX11_readUnit 0 = .ok (.aload_n 0, 1) := by decide +kernel
theorem dX11_readUnit_1 : decode cX11_readUnit 1 = .ok (.getfield 189, 3) := by decide +kernel
theorem dX11_readUnit_4 : decode cX11_readUnit 4 = .ok (.iconst 2, 1) := by decide +kernel
theorem dX11_readUnit_5 : decode cX11_readUnit 5 = .ok (.if_icmp .ne 21, 3) := by decide +kernel
theorem dX11_readUnit_8 : decode cX11_readUnit 8 = .ok (.aload_n 0, 1) := by decide +kernel
theorem dX11_readUnit_9 : decode cX11_readUnit 9 = .ok (.aload_n 0, 1) := by decide +kernel
theorem dX11_readUnit_10 : decode cX11_readUnit 10 = .ok (.getfield 192, 3) := by decide +kernel
theorem dX11_readUnit_13 : decode cX11_readUnit 13 = .ok (.iconst 5, 1) := by decide +kernel
theorem dX11_readUnit_14 : decode cX11_readUnit 14 = .ok (.bipush 14, 2) := by decide +kernel
theorem dX11_readUnit_16 : decode cX11_readUnit 16 = .ok (.invokevirtual 147, 3) := by decide +kernel
theorem dX11_readUnit_19 : decode cX11_readUnit 19 = .ok (.ifCond .eq 7, 3) := by decide +kernel
theorem dX11_readUnit_22 : decode cX11_readUnit 22 = .ok (.iconst 1, 1) := by decide +kernel
theorem dX11_readUnit_23 : decode cX11_readUnit 23 = .ok (.goto 4, 3) := by decide +kernel
theorem dX11_readUnit_26 : decode cX11_readUnit 26 = .ok (.iconst 0, 1) := by decide +kernel
theorem dX11_readUnit_27 : decode cX11_readUnit 27 = .ok (.istore_n 1, 1) := by decide +kernel
theorem dX11_readUnit_28 : decode cX11_readUnit 28 = .ok (.iload_n 1, 1) := by decide +kernel
theorem dX11_readUnit_29 : decode cX11_readUnit 29 = .ok (.ifCond .ne 17, 3) := by decide +kernel
theorem dX11_readUnit_32 : decode cX11_readUnit 32 = .ok (.aload_n 0, 1) := by decide +kernel
theorem dX11_readUnit_33 : decode cX11_readUnit 33 = .ok (.getfield 189, 3) := by decide +kernel
theorem dX11_readUnit_36 : decode cX11_readUnit 36 = .ok (.iconst 3, 1) := by decide +kernel
theorem dX11_readUnit_37 : decode cX11_readUnit 37 = .ok (.if_icmp .eq 9, 3) := by decide +kernel
theorem dX11_readUnit_40 : decode cX11_readUnit 40 = .ok (.aload_n 0, 1) := by decide +kernel
theorem dX11_readUnit_41 : decode cX11_readUnit 41 = .ok (.iconst 1, 1) := by decide +kernel
theorem dX11_readUnit_42 : decode cX11_readUnit 42 = .ok (.invokevirtual 217, 3) := by decide +kernel
theorem dX11_readUnit_45 : decode cX11_readUnit 45 = .ok (.ireturn, 1) := by decide +kernel
theorem dX11_readUnit_46 : decode cX11_readUnit 46 = .ok (.aload_n 0, 1) := by decide +kernel
theorem dX11_readUnit_47 : decode cX11_readUnit 47 = .ok (.iload_n 1, 1) := by decide +kernel
theorem dX11_readUnit_48 : decode cX11_readUnit 48 = .ok (.ifCond .eq 7, 3) := by decide +kernel
theorem dX11_readUnit_51 : decode cX11_readUnit 51 = .ok (.iconst 1, 1) := by decide +kernel
theorem dX11_readUnit_52 : decode cX11_readUnit 52 = .ok (.goto 4, 3) := by decide +kernel
theorem dX11_readUnit_55 : decode cX11_readUnit 55 = .ok (.iconst 0, 1) := by decide +kernel
theorem dX11_readUnit_56 : decode cX11_readUnit 56 = .ok (.iload_n 1, 1) := by decide +kernel
theorem dX11_readUnit_57 : decode cX11_readUnit 57 = .ok (.ifCond .eq 12, 3) := by decide +kernel
theorem dX11_readUnit_60 : decode cX11_readUnit 60 = .ok (.aload_n 0, 1) := by decide +kernel
theorem dX11_readUnit_61 : decode cX11_readUnit 61 = .ok (.getfield 192, 3) := by decide +kernel
theorem dX11_readUnit_64 : decode cX11_readUnit 64 = .ok (.iconst 5, 1) := by decide +kernel
theorem dX11_readUnit_65 : decode cX11_readUnit 65 = .ok (.isub, 1) := by decide +kernel
theorem dX11_readUnit_66 : decode cX11_readUnit 66 = .ok (.goto 7, 3) := by decide +kernel
theorem dX11_readUnit_69 : decode cX11_readUnit 69 = .ok (.aload_n 0, 1) := by decide +kernel
theorem dX11_readUnit_70 : decode cX11_readUnit 70 = .ok (.getfield 192, 3) := by decide +kernel
theorem dX11_readUnit_73 : decode cX11_readUnit 73 = .ok (.invokevirtual 220, 3) := by decide +kernel
theorem dX11_readUnit_76 : decode cX11_readUnit 76 = .ok (.aload_n 0, 1) := by decide +kernel
theorem dX11_readUnit_77 : decode cX11_readUnit 77 = .ok (.invokevirtual 223, 3) := by decide +kernel
theorem dX11_readUnit_80 : decode cX11_readUnit 80 = .ok (.iconst 0, 1) := by decide +kernel
theorem dX11_readUnit_81 : decode cX11_readUnit 81 = .ok (.ireturn, 1) := by decide +kernel
theorem dX11_readProduct_0 : decode cX11_readProduct 0 = .ok (.aload_n 0, 1) := by decide +kernel
theorem dX11_readProduct_1 : decode cX11_readProduct 1 = .ok (.invokevirtual 226, 3) := by decide +kernel
theorem dX11_readProduct_4 : decode cX11_readProduct 4 = .ok (.iconst (-1), 1) := by decide +kernel
theorem dX11_readProduct_5 : decode cX11_readProduct 5 = .ok (.if_icmp .ne 5, 3) := by decide +kernel
theorem dX11_readProduct_8 : decode cX11_readProduct 8 = .ok (.iconst (-1), 1) := by decide +kernel
theorem dX11_readProduct_9 : decode cX11_readProduct 9 = .ok (.ireturn, 1) := by decide +kernel
theorem dX11_readProduct_10 : decode cX11_readProduct 10 = .ok (.aload_n 0, 1) := by decide +kernel
theorem dX11_readProduct_11 : decode cX11_readProduct 11 = .ok (.bipush 42, 2) := by decide +kernel
theorem dX11_readProduct_13 : decode cX11_readProduct 13 = .ok (.invokevirtual 230, 3) := by decide +kernel
theorem dX11_readProduct_16 : decode cX11_readProduct 16 = .ok (.ifCond .ne 12, 3) := by decide +kernel
theorem dX11_readProduct_19 : decode cX11_readProduct 19 = .ok (.aload_n 0, 1) := by decide +kernel
theorem dX11_readProduct_20 : decode cX11_readProduct 20 = .ok (.bipush 47, 2) := by decide +kernel
theorem dX11_readProduct_22 : decode cX11_readProduct 22 = .ok (.invokevirtual 230, 3) := by decide +kernel
theorem dX11_readProduct_25 : decode cX11_readProduct 25 = .ok (.ifCond .eq 76, 3) := by decide +kernel
theorem dX11_readProduct_28 : decode cX11_readProduct 28 = .ok (.aload_n 0, 1) := by decide +kernel
theorem dX11_readProduct_29 : decode cX11_readProduct 29 = .ok (.bipush 42, 2) := by decide +kernel
theorem dX11_readProduct_31 : decode cX11_readProduct 31 = .ok (.invokevirtual 230, 3) := by decide +kernel
theorem dX11_readProduct_34 : decode cX11_readProduct 34 = .ok (.istore_n 1, 1) := by decide +kernel
theorem dX11_readProduct_35 : decode cX11_readProduct 35 = .ok (.aload_n 0, 1) := by decide +kernel
theorem dX11_readProduct_36 : decode cX11_readProduct 36 = .ok (.invokevirtual 223, 3) := by decide +kernel
theorem dX11_readProduct_39 : decode cX11_readProduct 39 = .ok (.iload_n 1, 1) := by decide +kernel
theorem dX11_readProduct_40 : decode cX11_readProduct 40 = .ok (.ifCond .ne 17, 3) := by decide +kernel
theorem dX11_readProduct_43 : decode cX11_readProduct 43 = .ok (.aload_n 0, 1) := by decide +kernel
theorem dX11_readProduct_44 : decode cX11_readProduct 44 = .ok (.getfield 189, 3) := by decide +kernel
theorem dX11_readProduct_47 : decode cX11_readProduct 47 = .ok (.iconst 3, 1) := by decide +kernel
theorem dX11_readProduct_48 : decode cX11_readProduct 48 = .ok (.if_icmp .eq 9, 3) := by decide +kernel
theorem dX11_readProduct_51 : decode cX11_readProduct 51 = .ok (.aload_n 0, 1) := by decide +kernel
theorem dX11_readProduct_52 : decode cX11_readProduct 52 = .ok (.iconst 1, 1) := by decide +kernel
theorem dX11_readProduct_53 : decode cX11_readProduct 53 = .ok (.invokevirtual 217, 3) := by decide +kernel
theorem dX11_readProduct_56 : decode cX11_readProduct 56 = .ok (.ireturn, 1) := by decide +kernel
theorem dX11_readProduct_57 : decode cX11_readProduct 57 = .ok (.iload_n 1, 1) := by decide +kernel
theorem dX11_readProduct_58 : decode cX11_readProduct 58 = .ok (.ifCond .ne 16, 3) := by decide +kernel
theorem dX11_readProduct_61 : decode cX11_readProduct 61 = .ok (.aload_n 0, 1) := by decide +kernel
theorem dX11_readProduct_62 : decode cX11_readProduct 62 = .ok (.getfield 192, 3) := by decide +kernel
theorem dX11_readProduct_65 : decode cX11_readProduct 65 = .ok (.ifCond .ne 9, 3) := by decide +kernel
theorem dX11_readProduct_68 : decode cX11_readProduct 68 = .ok (.aload_n 0, 1) := by decide +kernel
theorem dX11_readProduct_69 : decode cX11_readProduct 69 = .ok (.iconst 2, 1) := by decide +kernel
theorem dX11_readProduct_70 : decode cX11_readProduct 70 = .ok (.invokevirtual 217, 3) := by decide +kernel
theorem dX11_readProduct_73 : decode cX11_readProduct 73 = .ok (.ireturn, 1) := by decide +kernel
theorem dX11_readProduct_74 : decode cX11_readProduct 74 = .ok (.aload_n 0, 1) := by decide +kernel
theorem dX11_readProduct_75 : decode cX11_readProduct 75 = .ok (.invokevirtual 226, 3) := by decide +kernel
theorem dX11_readProduct_78 : decode cX11_readProduct 78 = .ok (.iconst (-1), 1) := by decide +kernel
theorem dX11_readProduct_79 : decode cX11_readProduct 79 = .ok (.if_icmp .ne 5, 3) := by decide +kernel
theorem dX11_readProduct_82 : decode cX11_readProduct 82 = .ok (.iconst (-1), 1) := by decide +kernel
theorem dX11_readProduct_83 : decode cX11_readProduct 83 = .ok (.ireturn, 1) := by decide +kernel
theorem dX11_readProduct_84 : decode cX11_readProduct 84 = .ok (.aload_n 0, 1) := by decide +kernel
theorem dX11_readProduct_85 : decode cX11_readProduct 85 = .ok (.iload_n 1, 1) := by decide +kernel
theorem dX11_readProduct_86 : decode cX11_readProduct 86 = .ok (.ifCond .eq 7, 3) := by decide +kernel
theorem dX11_readProduct_89 : decode cX11_readProduct 89 = .ok (.iconst 4, 1) := by decide +kernel
theorem dX11_readProduct_90 : decode cX11_readProduct 90 = .ok (.goto 4, 3) := by decide +kernel
theorem dX11_readProduct_93 : decode cX11_readProduct 93 = .ok (.iconst 5, 1) := by decide +kernel
theorem dX11_readProduct_94 : decode cX11_readProduct 94 = .ok (.iconst 0, 1) := by decide +kernel
theorem dX11_readProduct_95 : decode cX11_readProduct 95 = .ok (.invokevirtual 220, 3) := by decide +kernel
theorem dX11_readProduct_98 : decode cX11_readProduct 98 = .ok (.goto (-88), 3) := by decide +kernel
theorem dX11_readProduct_101 : decode cX11_readProduct 101 = .ok (.iconst 0, 1) := by decide +kernel
theorem dX11_readProduct_102 : decode cX11_readProduct 102 = .ok (.ireturn, 1) := by decide +kernel
theorem dX11_readSum_0 : decode cX11_readSum 0 = .ok (.aload_n 0, 1) := by decide +kernel
theorem dX11_readSum_1 : decode cX11_readSum 1 = .ok (.invokevirtual 233, 3) := by decide +kernel
theorem dX11_readSum_4 : decode cX11_readSum 4 = .ok (.iconst (-1), 1) := by decide +kernel
theorem dX11_readSum_5 : decode cX11_readSum 5 = .ok (.if_icmp .ne 5, 3) := by decide +kernel
theorem dX11_readSum_8 : decode cX11_readSum 8 = .ok (.iconst (-1), 1) := by decide +kernel
theorem dX11_readSum_9 : decode cX11_readSum 9 = .ok (.ireturn, 1) := by decide +kernel
theorem dX11_readSum_10 : decode cX11_readSum 10 = .ok (.aload_n 0, 1) := by decide +kernel
theorem dX11_readSum_11 : decode cX11_readSum 11 = .ok (.bipush 43, 2) := by decide +kernel
theorem dX11_readSum_13 : decode cX11_readSum 13 = .ok (.invokevirtual 230, 3) := by decide +kernel
theorem dX11_readSum_16 : decode cX11_readSum 16 = .ok (.ifCond .ne 12, 3) := by decide +kernel
theorem dX11_readSum_19 : decode cX11_readSum 19 = .ok (.aload_n 0, 1) := by decide +kernel
theorem dX11_readSum_20 : decode cX11_readSum 20 = .ok (.bipush 45, 2) := by decide +kernel
theorem dX11_readSum_22 : decode cX11_readSum 22 = .ok (.invokevirtual 230, 3) := by decide +kernel
theorem dX11_readSum_25 : decode cX11_readSum 25 = .ok (.ifCond .eq 41, 3) := by decide +kernel
theorem dX11_readSum_28 : decode cX11_readSum 28 = .ok (.aload_n 0, 1) := by decide +kernel
theorem dX11_readSum_29 : decode cX11_readSum 29 = .ok (.getfield 192, 3) := by decide +kernel
theorem dX11_readSum_32 : decode cX11_readSum 32 = .ok (.bipush 43, 2) := by decide +kernel
theorem dX11_readSum_34 : decode cX11_readSum 34 = .ok (.if_icmp .ne 7, 3) := by decide +kernel
theorem dX11_readSum_37 : decode cX11_readSum 37 = .ok (.iconst 2, 1) := by decide +kernel
theorem dX11_readSum_38 : decode cX11_readSum 38 = .ok (.goto 4, 3) := by decide +kernel
theorem dX11_readSum_41 : decode cX11_readSum 41 = .ok (.iconst 3, 1) := by decide +kernel
theorem dX11_readSum_42 : decode cX11_readSum 42 = .ok (.istore_n 1, 1) := by decide +kernel
theorem dX11_readSum_43 : decode cX11_readSum 43 = .ok (.aload_n 0, 1) := by decide +kernel
theorem dX11_readSum_44 : decode cX11_readSum 44 = .ok (.invokevirtual 223, 3) := by decide +kernel
theorem dX11_readSum_47 : decode cX11_readSum 47 = .ok (.aload_n 0, 1) := by decide +kernel
theorem dX11_readSum_48 : decode cX11_readSum 48 = .ok (.invokevirtual 233, 3) := by decide +kernel
theorem dX11_readSum_51 : decode cX11_readSum 51 = .ok (.iconst (-1), 1) := by decide +kernel
theorem dX11_readSum_52 : decode cX11_readSum 52 = .ok (.if_icmp .ne 5, 3) := by decide +kernel
theorem dX11_readSum_55 : decode cX11_readSum 55 = .ok (.iconst (-1), 1) := by decide +kernel
theorem dX11_readSum_56 : decode cX11_readSum 56 = .ok (.ireturn, 1) := by decide +kernel
theorem dX11_readSum_57 : decode cX11_readSum 57 = .ok (.aload_n 0, 1) := by decide +kernel
theorem dX11_readSum_58 : decode cX11_readSum 58 = .ok (.iload_n 1, 1) := by decide +kernel
theorem dX11_readSum_59 : decode cX11_readSum 59 = .ok (.iconst 0, 1) := by decide +kernel
theorem dX11_readSum_60 : decode cX11_readSum 60 = .ok (.invokevirtual 220, 3) := by decide +kernel
theorem dX11_readSum_63 : decode cX11_readSum 63 = .ok (.goto (-53), 3) := by decide +kernel
theorem dX11_readSum_66 : decode cX11_readSum 66 = .ok (.iconst 0, 1) := by decide +kernel
theorem dX11_readSum_67 : decode cX11_readSum 67 = .ok (.ireturn, 1) := by decide +kernel
theorem dX11_readCompared_0 : decode cX11_readCompared 0 = .ok (.aload_n 0, 1) := by decide +kernel
theorem dX11_readCompared_1 : decode cX11_readCompared 1 = .ok (.invokevirtual 236, 3) := by decide +kernel
theorem dX11_readCompared_4 : decode cX11_readCompared 4 = .ok (.iconst (-1), 1) := by decide +kernel
theorem dX11_readCompared_5 : decode cX11_readCompared 5 = .ok (.if_icmp .ne 5, 3) := by decide +kernel
theorem dX11_readCompared_8 : decode cX11_readCompared 8 = .ok (.iconst (-1), 1) := by decide +kernel
theorem dX11_readCompared_9 : decode cX11_readCompared 9 = .ok (.ireturn, 1) := by decide +kernel
theorem dX11_readCompared_10 : decode cX11_readCompared 10 = .ok (.aload_n 0, 1) := by decide +kernel
theorem dX11_readCompared_11 : decode cX11_readCompared 11 = .ok (.bipush 60, 2) := by decide +kernel
theorem dX11_readCompared_13 : decode cX11_readCompared 13 = .ok (.invokevirtual 230, 3) := by decide +kernel
theorem dX11_readCompared_16 : decode cX11_readCompared 16 = .ok (.ifCond .ne 27, 3) := by decide +kernel
theorem dX11_readCompared_19 : decode cX11_readCompared 19 = .ok (.aload_n 0, 1) := by decide +kernel
theorem dX11_readCompared_20 : decode cX11_readCompared 20 = .ok (.bipush 61, 2) := by decide +kernel
theorem dX11_readCompared_22 : decode cX11_readCompared 22 = .ok (.invokevirtual 230, 3) := by decide +kernel
theorem dX11_readCompared_25 : decode cX11_readCompared 25 = .ok (.ifCond .ne 18, 3) := by decide +kernel
theorem dX11_readCompared_28 : decode cX11_readCompared 28 = .ok (.aload_n 0, 1) := by decide +kernel
theorem dX11_readCompared_29 : decode cX11_readCompared 29 = .ok (.bipush 62, 2) := by decide +kernel
theorem dX11_readCompared_31 : decode cX11_readCompared 31 = .ok (.invokevirtual 230, 3) := by decide +kernel
theorem dX11_readCompared_34 : decode cX11_readCompared 34 = .ok (.ifCond .ne 9, 3) := by decide +kernel
theorem dX11_readCompared_37 : decode cX11_readCompared 37 = .ok (.aload_n 0, 1) := by decide +kernel
theorem dX11_readCompared_38 : decode cX11_readCompared 38 = .ok (.iconst 1, 1) := by decide +kernel
theorem dX11_readCompared_39 : decode cX11_readCompared 39 = .ok (.invokevirtual 217, 3) := by decide +kernel
theorem dX11_readCompared_42 : decode cX11_readCompared 42 = .ok (.ireturn, 1) := by decide +kernel
theorem dX11_readCompared_43 : decode cX11_readCompared 43 = .ok (.aload_n 0, 1) := by decide +kernel
theorem dX11_readCompared_44 : decode cX11_readCompared 44 = .ok (.getfield 192, 3) := by decide +kernel
theorem dX11_readCompared_47 : decode cX11_readCompared 47 = .ok (.bipush 60, 2) := by decide +kernel
theorem dX11_readCompared_49 : decode cX11_readCompared 49 = .ok (.if_icmp .ne 8, 3) := by decide +kernel
theorem dX11_readCompared_52 : decode cX11_readCompared 52 = .ok (.bipush 6, 2) := by decide +kernel
theorem dX11_readCompared_54 : decode cX11_readCompared 54 = .ok (.goto 19, 3) := by decide +kernel
theorem dX11_readCompared_57 : decode cX11_readCompared 57 = .ok (.aload_n 0, 1) := by decide +kernel
theorem dX11_readCompared_58 : decode cX11_readCompared 58 = .ok (.getfield 192, 3) := by decide +kernel
theorem dX11_readCompared_61 : decode cX11_readCompared 61 = .ok (.bipush 61, 2) := by decide +kernel
theorem dX11_readCompared_63 : decode cX11_readCompared 63 = .ok (.if_icmp .ne 8, 3) := by decide +kernel
theorem dX11_readCompared_66 : decode cX11_readCompared 66 = .ok (.bipush 7, 2) := by decide +kernel
theorem dX11_readCompared_68 : decode cX11_readCompared 68 = .ok (.goto 5, 3) := by decide +kernel
theorem dX11_readCompared_71 : decode cX11_readCompared 71 = .ok (.bipush 8, 2) := by decide +kernel
theorem dX11_readCompared_73 : decode cX11_readCompared 73 = .ok (.istore_n 1, 1) := by decide +kernel
theorem dX11_readCompared_74 : decode cX11_readCompared 74 = .ok (.aload_n 0, 1) := by decide +kernel
theorem dX11_readCompared_75 : decode cX11_readCompared 75 = .ok (.invokevirtual 223, 3) := by decide +kernel
theorem dX11_readCompared_78 : decode cX11_readCompared 78 = .ok (.aload_n 0, 1) := by decide +kernel
theorem dX11_readCompared_79 : decode cX11_readCompared 79 = .ok (.invokevirtual 236, 3) := by decide +kernel
theorem dX11_readCompared_82 : decode cX11_readCompared 82 = .ok (.iconst (-1), 1) := by decide +kernel
theorem dX11_readCompared_83 : decode cX11_readCompared 83 = .ok (.if_icmp .ne 5, 3) := by decide +kernel
theorem dX11_readCompared_86 : decode cX11_readCompared 86 = .ok (.iconst (-1), 1) := by decide +kernel
theorem dX11_readCompared_87 : decode cX11_readCompared 87 = .ok (.ireturn, 1) := by decide +kernel
theorem dX11_readCompared_88 : decode cX11_readCompared 88 = .ok (.aload_n 0, 1) := by decide +kernel
theorem dX11_readCompared_89 : decode cX11_readCompared 89 = .ok (.iload_n 1, 1) := by decide +kernel
theorem dX11_readCompared_90 : decode cX11_readCompared 90 = .ok (.iconst 0, 1) := by decide +kernel
theorem dX11_readCompared_91 : decode cX11_readCompared 91 = .ok (.invokevirtual 220, 3) := by decide +kernel
theorem dX11_readCompared_94 : decode cX11_readCompared 94 = .ok (.iconst 0, 1) := by decide +kernel
theorem dX11_readCompared_95 : decode cX11_readCompared 95 = .ok (.ireturn, 1) := by decide +kernel
theorem dX11_waits_0 : decode cX11_waits 0 = .ok (.aload_n 0, 1) := by decide +kernel
theorem dX11_waits_1 : decode cX11_waits 1 = .ok (.getfield 61, 3) := by decide +kernel
theorem dX11_waits_4 : decode cX11_waits 4 = .ok (.aload_n 0, 1) := by decide +kernel
theorem dX11_waits_5 : decode cX11_waits 5 = .ok (.getfield 239, 3) := by decide +kernel
theorem dX11_waits_8 : decode cX11_waits 8 = .ok (.iload_n 1, 1) := by decide +kernel
theorem dX11_waits_9 : decode cX11_waits 9 = .ok (.iastore, 1) := by decide +kernel
theorem dX11_waits_10 : decode cX11_waits 10 = .ok (.aload_n 0, 1) := by decide +kernel
theorem dX11_waits_11 : decode cX11_waits 11 = .ok (.aload_n 0, 1) := by decide +kernel
theorem dX11_waits_12 : decode cX11_waits 12 = .ok (.getfield 239, 3) := by decide +kernel
theorem dX11_waits_15 : decode cX11_waits 15 = .ok (.iconst 1, 1) := by decide +kernel
theorem dX11_waits_16 : decode cX11_waits 16 = .ok (.iadd, 1) := by decide +kernel
theorem dX11_waits_17 : decode cX11_waits 17 = .ok (.putfield 239, 3) := by decide +kernel
theorem dX11_waits_20 : decode cX11_waits 20 = .ok (.return_, 1) := by decide +kernel
theorem dX11_settles_0 : decode cX11_settles 0 = .ok (.aload_n 0, 1) := by decide +kernel
theorem dX11_settles_1 : decode cX11_settles 1 = .ok (.getfield 239, 3) := by decide +kernel
theorem dX11_settles_4 : decode cX11_settles 4 = .ok (.ifCond .le 53, 3) := by decide +kernel
theorem dX11_settles_7 : decode cX11_settles 7 = .ok (.aload_n 0, 1) := by decide +kernel
theorem dX11_settles_8 : decode cX11_settles 8 = .ok (.getfield 61, 3) := by decide +kernel
theorem dX11_settles_11 : decode cX11_settles 11 = .ok (.aload_n 0, 1) := by decide +kernel
theorem dX11_settles_12 : decode cX11_settles 12 = .ok (.getfield 239, 3) := by decide +kernel
theorem dX11_settles_15 : decode cX11_settles 15 = .ok (.iconst 1, 1) := by decide +kernel
theorem dX11_settles_16 : decode cX11_settles 16 = .ok (.isub, 1) := by decide +kernel
theorem dX11_settles_17 : decode cX11_settles 17 = .ok (.iaload, 1) := by decide +kernel
theorem dX11_settles_18 : decode cX11_settles 18 = .ok (.iload_n 1, 1) := by decide +kernel
theorem dX11_settles_19 : decode cX11_settles 19 = .ok (.if_icmp .ne 38, 3) := by decide +kernel
theorem dX11_settles_22 : decode cX11_settles 22 = .ok (.aload_n 0, 1) := by decide +kernel
theorem dX11_settles_23 : decode cX11_settles 23 = .ok (.aload_n 0, 1) := by decide +kernel
theorem dX11_settles_24 : decode cX11_settles 24 = .ok (.getfield 239, 3) := by decide +kernel
theorem dX11_settles_27 : decode cX11_settles 27 = .ok (.iconst 1, 1) := by decide +kernel
theorem dX11_settles_28 : decode cX11_settles 28 = .ok (.isub, 1) := by decide +kernel
theorem dX11_settles_29 : decode cX11_settles 29 = .ok (.putfield 239, 3) := by decide +kernel
theorem dX11_settles_32 : decode cX11_settles 32 = .ok (.aload_n 0, 1) := by decide +kernel
theorem dX11_settles_33 : decode cX11_settles 33 = .ok (.iload_n 1, 1) := by decide +kernel
theorem dX11_settles_34 : decode cX11_settles 34 = .ok (.iconst 0, 1) := by decide +kernel
theorem dX11_settles_35 : decode cX11_settles 35 = .ok (.invokevirtual 220, 3) := by decide +kernel
theorem dX11_settles_38 : decode cX11_settles 38 = .ok (.iload_n 1, 1) := by decide +kernel
theorem dX11_settles_39 : decode cX11_settles 39 = .ok (.bipush 9, 2) := by decide +kernel
theorem dX11_settles_41 : decode cX11_settles 41 = .ok (.if_icmp .ne (-41), 3) := by decide +kernel
theorem dX11_settles_44 : decode cX11_settles 44 = .ok (.aload_n 0, 1) := by decide +kernel
theorem dX11_settles_45 : decode cX11_settles 45 = .ok (.aload_n 0, 1) := by decide +kernel
theorem dX11_settles_46 : decode cX11_settles 46 = .ok (.getfield 242, 3) := by decide +kernel
theorem dX11_settles_49 : decode cX11_settles 49 = .ok (.iconst 1, 1) := by decide +kernel
theorem dX11_settles_50 : decode cX11_settles 50 = .ok (.isub, 1) := by decide +kernel
theorem dX11_settles_51 : decode cX11_settles 51 = .ok (.putfield 242, 3) := by decide +kernel
theorem dX11_settles_54 : decode cX11_settles 54 = .ok (.goto (-54), 3) := by decide +kernel
theorem dX11_settles_57 : decode cX11_settles 57 = .ok (.return_, 1) := by decide +kernel
theorem dX11_readAny_0 : decode cX11_readAny 0 = .ok (.iconst 0, 1) := by decide +kernel
theorem dX11_readAny_1 : decode cX11_readAny 1 = .ok (.istore_n 1, 1) := by decide +kernel
theorem dX11_readAny_2 : decode cX11_readAny 2 = .ok (.aload_n 0, 1) := by decide +kernel
theorem dX11_readAny_3 : decode cX11_readAny 3 = .ok (.iconst 0, 1) := by decide +kernel
theorem dX11_readAny_4 : decode cX11_readAny 4 = .ok (.putfield 239, 3) := by decide +kernel
theorem dX11_readAny_7 : decode cX11_readAny 7 = .ok (.iconst 1, 1) := by decide +kernel
theorem dX11_readAny_8 : decode cX11_readAny 8 = .ok (.istore_n 2, 1) := by decide +kernel
theorem dX11_readAny_9 : decode cX11_readAny 9 = .ok (.iload_n 2, 1) := by decide +kernel
theorem dX11_readAny_10 : decode cX11_readAny 10 = .ok (.ifCond .eq 98, 3) := by decide +kernel
theorem dX11_readAny_13 : decode cX11_readAny 13 = .ok (.aload_n 0, 1) := by decide +kernel
theorem dX11_readAny_14 : decode cX11_readAny 14 = .ok (.iconst 4, 1) := by decide +kernel
theorem dX11_readAny_15 : decode cX11_readAny 15 = .ok (.invokevirtual 245, 3) := by decide +kernel
theorem dX11_readAny_18 : decode cX11_readAny 18 = .ok (.istore_n 3, 1) := by decide +kernel
theorem dX11_readAny_19 : decode cX11_readAny 19 = .ok (.iload_n 3, 1) := by decide +kernel
theorem dX11_readAny_20 : decode cX11_readAny 20 = .ok (.ifCond .ne 12, 3) := by decide +kernel
theorem dX11_readAny_23 : decode cX11_readAny 23 = .ok (.aload_n 0, 1) := by decide +kernel
theorem dX11_readAny_24 : decode cX11_readAny 24 = .ok (.bipush 40, 2) := by decide +kernel
theorem dX11_readAny_26 : decode cX11_readAny 26 = .ok (.invokevirtual 230, 3) := by decide +kernel
theorem dX11_readAny_29 : decode cX11_readAny 29 = .ok (.ifCond .eq 58, 3) := by decide +kernel
theorem dX11_readAny_32 : decode cX11_readAny 32 = .ok (.aload_n 0, 1) := by decide +kernel
theorem dX11_readAny_33 : decode cX11_readAny 33 = .ok (.getfield 242, 3) := by decide +kernel
theorem dX11_readAny_36 : decode cX11_readAny 36 = .ok (.bipush 8, 2) := by decide +kernel
theorem dX11_readAny_38 : decode cX11_readAny 38 = .ok (.if_icmp .ne 9, 3) := by decide +kernel
theorem dX11_readAny_41 : decode cX11_readAny 41 = .ok (.aload_n 0, 1) := by decide +kernel
theorem dX11_readAny_42 : decode cX11_readAny 42 = .ok (.iconst 3, 1) := by decide +kernel
theorem dX11_readAny_43 : decode cX11_readAny 43 = .ok (.invokevirtual 217, 3) := by decide +kernel
theorem dX11_readAny_46 : decode cX11_readAny 46 = .ok (.ireturn, 1) := by decide +kernel
theorem dX11_readAny_47 : decode cX11_readAny 47 = .ok (.aload_n 0, 1) := by decide +kernel
theorem dX11_readAny_48 : decode cX11_readAny 48 = .ok (.aload_n 0, 1) := by decide +kernel
theorem dX11_readAny_49 : decode cX11_readAny 49 = .ok (.getfield 242, 3) := by decide +kernel
theorem dX11_readAny_52 : decode cX11_readAny 52 = .ok (.iconst 1, 1) := by decide +kernel
theorem dX11_readAny_53 : decode cX11_readAny 53 = .ok (.iadd, 1) := by decide +kernel
theorem dX11_readAny_54 : decode cX11_readAny 54 = .ok (.putfield 242, 3) := by decide +kernel
theorem dX11_readAny_57 : decode cX11_readAny 57 = .ok (.iload_n 3, 1) := by decide +kernel
theorem dX11_readAny_58 : decode cX11_readAny 58 = .ok (.ifCond .ne 7, 3) := by decide +kernel
theorem dX11_readAny_61 : decode cX11_readAny 61 = .ok (.iload_n 1, 1) := by decide +kernel
theorem dX11_readAny_62 : decode cX11_readAny 62 = .ok (.iconst 1, 1) := by decide +kernel
theorem dX11_readAny_63 : decode cX11_readAny 63 = .ok (.iadd, 1) := by decide +kernel
theorem dX11_readAny_64 : decode cX11_readAny 64 = .ok (.istore_n 1, 1) := by decide +kernel
theorem dX11_readAny_65 : decode cX11_readAny 65 = .ok (.aload_n 0, 1) := by decide +kernel
theorem dX11_readAny_66 : decode cX11_readAny 66 = .ok (.iload_n 3, 1) := by decide +kernel
theorem dX11_readAny_67 : decode cX11_readAny 67 = .ok (.ifCond .eq 8, 3) := by decide +kernel
theorem dX11_readAny_70 : decode cX11_readAny 70 = .ok (.bipush 9, 2) := by decide +kernel
theorem dX11_readAny_72 : decode cX11_readAny 72 = .ok (.goto 5, 3) := by decide +kernel
theorem dX11_readAny_75 : decode cX11_readAny 75 = .ok (.bipush 12, 2) := by decide +kernel
theorem dX11_readAny_77 : decode cX11_readAny 77 = .ok (.invokevirtual 248, 3) := by decide +kernel
theorem dX11_readAny_80 : decode cX11_readAny 80 = .ok (.aload_n 0, 1) := by decide +kernel
theorem dX11_readAny_81 : decode cX11_readAny 81 = .ok (.invokevirtual 223, 3) := by decide +kernel
theorem dX11_readAny_84 : decode cX11_readAny 84 = .ok (.goto (-75), 3) := by decide +kernel
theorem dX11_readAny_87 : decode cX11_readAny 87 = .ok (.aload_n 0, 1) := by decide +kernel
theorem dX11_readAny_88 : decode cX11_readAny 88 = .ok (.invokevirtual 251, 3) := by decide +kernel
theorem dX11_readAny_91 : decode cX11_readAny 91 = .ok (.iconst (-1), 1) := by decide +kernel
theorem dX11_readAny_92 : decode cX11_readAny 92 = .ok (.if_icmp .ne 5, 3) := by decide +kernel
theorem dX11_readAny_95 : decode cX11_readAny 95 = .ok (.iconst (-1), 1) := by decide +kernel
theorem dX11_readAny_96 : decode cX11_readAny 96 = .ok (.ireturn, 1) := by decide +kernel
theorem dX11_readAny_97 : decode cX11_readAny 97 = .ok (.aload_n 0, 1) := by decide +kernel
theorem dX11_readAny_98 : decode cX11_readAny 98 = .ok (.bipush 9, 2) := by decide +kernel
theorem dX11_readAny_100 : decode cX11_readAny 100 = .ok (.invokevirtual 254, 3) := by decide +kernel
theorem dX11_readAny_103 : decode cX11_readAny 103 = .ok (.iconst 0, 1) := by decide +kernel
theorem dX11_readAny_104 : decode cX11_readAny 104 = .ok (.istore_n 2, 1) := by decide +kernel
theorem dX11_readAny_105 : decode cX11_readAny 105 = .ok (.goto (-96), 3) := by decide +kernel
theorem dX11_readAny_108 : decode cX11_readAny 108 = .ok (.aload_n 0, 1) := by decide +kernel
theorem dX11_readAny_109 : decode cX11_readAny 109 = .ok (.iconst 3, 1) := by decide +kernel
theorem dX11_readAny_110 : decode cX11_readAny 110 = .ok (.invokevirtual 245, 3) := by decide +kernel
theorem dX11_readAny_113 : decode cX11_readAny 113 = .ok (.ifCond .eq 24, 3) := by decide +kernel
theorem dX11_readAny_116 : decode cX11_readAny 116 = .ok (.aload_n 0, 1) := by decide +kernel
theorem dX11_readAny_117 : decode cX11_readAny 117 = .ok (.bipush 10, 2) := by decide +kernel
theorem dX11_readAny_119 : decode cX11_readAny 119 = .ok (.invokevirtual 254, 3) := by decide +kernel
theorem dX11_readAny_122 : decode cX11_readAny 122 = .ok (.aload_n 0, 1) := by decide +kernel
theorem dX11_readAny_123 : decode cX11_readAny 123 = .ok (.bipush 10, 2) := by decide +kernel
theorem dX11_readAny_125 : decode cX11_readAny 125 = .ok (.invokevirtual 248, 3) := by decide +kernel
theorem dX11_readAny_128 : decode cX11_readAny 128 = .ok (.aload_n 0, 1) := by decide +kernel
theorem dX11_readAny_129 : decode cX11_readAny 129 = .ok (.invokevirtual 223, 3) := by decide +kernel
theorem dX11_readAny_132 : decode cX11_readAny 132 = .ok (.iconst 1, 1) := by decide +kernel
theorem dX11_readAny_133 : decode cX11_readAny 133 = .ok (.istore_n 2, 1) := by decide +kernel
theorem dX11_readAny_134 : decode cX11_readAny 134 = .ok (.goto (-125), 3) := by decide +kernel
theorem dX11_readAny_137 : decode cX11_readAny 137 = .ok (.aload_n 0, 1) := by decide +kernel
theorem dX11_readAny_138 : decode cX11_readAny 138 = .ok (.iconst 2, 1) := by decide +kernel
theorem dX11_readAny_139 : decode cX11_readAny 139 = .ok (.invokevirtual 245, 3) := by decide +kernel
theorem dX11_readAny_142 : decode cX11_readAny 142 = .ok (.ifCond .eq 30, 3) := by decide +kernel
theorem dX11_readAny_145 : decode cX11_readAny 145 = .ok (.aload_n 0, 1) := by decide +kernel
theorem dX11_readAny_146 : decode cX11_readAny 146 = .ok (.bipush 10, 2) := by decide +kernel
theorem dX11_readAny_148 : decode cX11_readAny 148 = .ok (.invokevirtual 254, 3) := by decide +kernel
theorem dX11_readAny_151 : decode cX11_readAny 151 = .ok (.aload_n 0, 1) := by decide +kernel
theorem dX11_readAny_152 : decode cX11_readAny 152 = .ok (.bipush 11, 2) := by decide +kernel
theorem dX11_readAny_154 : decode cX11_readAny 154 = .ok (.invokevirtual 254, 3) := by decide +kernel
theorem dX11_readAny_157 : decode cX11_readAny 157 = .ok (.aload_n 0, 1) := by decide +kernel
theorem dX11_readAny_158 : decode cX11_readAny 158 = .ok (.bipush 11, 2) := by decide +kernel
theorem dX11_readAny_160 : decode cX11_readAny 160 = .ok (.invokevirtual 248, 3) := by decide +kernel
theorem dX11_readAny_163 : decode cX11_readAny 163 = .ok (.aload_n 0, 1) := by decide +kernel
theorem dX11_readAny_164 : decode cX11_readAny 164 = .ok (.invokevirtual 223, 3) := by decide +kernel
theorem dX11_readAny_167 : decode cX11_readAny 167 = .ok (.iconst 1, 1) := by decide +kernel
theorem dX11_readAny_168 : decode cX11_readAny 168 = .ok (.istore_n 2, 1) := by decide +kernel
theorem dX11_readAny_169 : decode cX11_readAny 169 = .ok (.goto (-160), 3) := by decide +kernel
theorem dX11_readAny_172 : decode cX11_readAny 172 = .ok (.aload_n 0, 1) := by decide +kernel
theorem dX11_readAny_173 : decode cX11_readAny 173 = .ok (.bipush 10, 2) := by decide +kernel
theorem dX11_readAny_175 : decode cX11_readAny 175 = .ok (.invokevirtual 254, 3) := by decide +kernel
theorem dX11_readAny_178 : decode cX11_readAny 178 = .ok (.aload_n 0, 1) := by decide +kernel
theorem dX11_readAny_179 : decode cX11_readAny 179 = .ok (.bipush 11, 2) := by decide +kernel
theorem dX11_readAny_181 : decode cX11_readAny 181 = .ok (.invokevirtual 254, 3) := by decide +kernel
theorem dX11_readAny_184 : decode cX11_readAny 184 = .ok (.iload_n 1, 1) := by decide +kernel
theorem dX11_readAny_185 : decode cX11_readAny 185 = .ok (.ifCond .ne 5, 3) := by decide +kernel
theorem dX11_readAny_188 : decode cX11_readAny 188 = .ok (.iconst 0, 1) := by decide +kernel
theorem dX11_readAny_189 : decode cX11_readAny 189 = .ok (.ireturn, 1) := by decide +kernel
theorem dX11_readAny_190 : decode cX11_readAny 190 = .ok (.aload_n 0, 1) := by decide +kernel
theorem dX11_readAny_191 : decode cX11_readAny 191 = .ok (.bipush 41, 2) := by decide +kernel
theorem dX11_readAny_193 : decode cX11_readAny 193 = .ok (.invokevirtual 230, 3) := by decide +kernel
theorem dX11_readAny_196 : decode cX11_readAny 196 = .ok (.ifCond .ne 9, 3) := by decide +kernel
theorem dX11_readAny_199 : decode cX11_readAny 199 = .ok (.aload_n 0, 1) := by decide +kernel
theorem dX11_readAny_200 : decode cX11_readAny 200 = .ok (.iconst 1, 1) := by decide +kernel
theorem dX11_readAny_201 : decode cX11_readAny 201 = .ok (.invokevirtual 217, 3) := by decide +kernel
theorem dX11_readAny_204 : decode cX11_readAny 204 = .ok (.ireturn, 1) := by decide +kernel
theorem dX11_readAny_205 : decode cX11_readAny 205 = .ok (.aload_n 0, 1) := by decide +kernel
theorem dX11_readAny_206 : decode cX11_readAny 206 = .ok (.aload_n 0, 1) := by decide +kernel
theorem dX11_readAny_207 : decode cX11_readAny 207 = .ok (.getfield 239, 3) := by decide +kernel
theorem dX11_readAny_210 : decode cX11_readAny 210 = .ok (.iconst 1, 1) := by decide +kernel
theorem dX11_readAny_211 : decode cX11_readAny 211 = .ok (.isub, 1) := by decide +kernel
theorem dX11_readAny_212 : decode cX11_readAny 212 = .ok (.putfield 239, 3) := by decide +kernel
theorem dX11_readAny_215 : decode cX11_readAny 215 = .ok (.iload_n 1, 1) := by decide +kernel
theorem dX11_readAny_216 : decode cX11_readAny 216 = .ok (.iconst 1, 1) := by decide +kernel
theorem dX11_readAny_217 : decode cX11_readAny 217 = .ok (.isub, 1) := by decide +kernel
theorem dX11_readAny_218 : decode cX11_readAny 218 = .ok (.istore_n 1, 1) := by decide +kernel
theorem dX11_readAny_219 : decode cX11_readAny 219 = .ok (.aload_n 0, 1) := by decide +kernel
theorem dX11_readAny_220 : decode cX11_readAny 220 = .ok (.aload_n 0, 1) := by decide +kernel
theorem dX11_readAny_221 : decode cX11_readAny 221 = .ok (.getfield 242, 3) := by decide +kernel
theorem dX11_readAny_224 : decode cX11_readAny 224 = .ok (.iconst 1, 1) := by decide +kernel
theorem dX11_readAny_225 : decode cX11_readAny 225 = .ok (.isub, 1) := by decide +kernel
theorem dX11_readAny_226 : decode cX11_readAny 226 = .ok (.putfield 242, 3) := by decide +kernel
theorem dX11_readAny_229 : decode cX11_readAny 229 = .ok (.aload_n 0, 1) := by decide +kernel
theorem dX11_readAny_230 : decode cX11_readAny 230 = .ok (.bipush 9, 2) := by decide +kernel
theorem dX11_readAny_232 : decode cX11_readAny 232 = .ok (.invokevirtual 254, 3) := by decide +kernel
theorem dX11_readAny_235 : decode cX11_readAny 235 = .ok (.aload_n 0, 1) := by decide +kernel
theorem dX11_readAny_236 : decode cX11_readAny 236 = .ok (.invokevirtual 223, 3) := by decide +kernel
theorem dX11_readAny_239 : decode cX11_readAny 239 = .ok (.goto (-230), 3) := by decide +kernel
theorem dX11_readText_0 : decode cX11_readText 0 = .ok (.iconst 0, 1) := by decide +kernel
theorem dX11_readText_1 : decode cX11_readText 1 = .ok (.istore_n 1, 1) := by decide +kernel
theorem dX11_readText_2 : decode cX11_readText 2 = .ok (.aload_n 0, 1) := by decide +kernel
theorem dX11_readText_3 : decode cX11_readText 3 = .ok (.iconst 0, 1) := by decide +kernel
theorem dX11_readText_4 : decode cX11_readText 4 = .ok (.invokevirtual 245, 3) := by decide +kernel
theorem dX11_readText_7 : decode cX11_readText 7 = .ok (.ifCond .eq 112, 3) := by decide +kernel
theorem dX11_readText_10 : decode cX11_readText 10 = .ok (.iload_n 1, 1) := by decide +kernel
theorem dX11_readText_11 : decode cX11_readText 11 = .ok (.bipush 16, 2) := by decide +kernel
theorem dX11_readText_13 : decode cX11_readText 13 = .ok (.if_icmp .ne 9, 3) := by decide +kernel
theorem dX11_readText_16 : decode cX11_readText 16 = .ok (.aload_n 0, 1) := by decide +kernel
theorem dX11_readText_17 : decode cX11_readText 17 = .ok (.iconst 3, 1) := by decide +kernel
theorem dX11_readText_18 : decode cX11_readText 18 = .ok (.invokevirtual 217, 3) := by decide +kernel
theorem dX11_readText_21 : decode cX11_readText 21 = .ok (.ireturn, 1) := by decide +kernel
theorem dX11_readText_22 : decode cX11_readText 22 = .ok (.bipush 16, 2) := by decide +kernel
theorem dX11_readText_24 : decode cX11_readText 24 = .ok (.iload_n 1, 1) := by decide +kernel
theorem dX11_readText_25 : decode cX11_readText 25 = .ok (.iadd, 1) := by decide +kernel
theorem dX11_readText_26 : decode cX11_readText 26 = .ok (.istore_n 2, 1) := by decide +kernel
theorem dX11_readText_27 : decode cX11_readText 27 = .ok (.aload_n 0, 1) := by decide +kernel
theorem dX11_readText_28 : decode cX11_readText 28 = .ok (.invokevirtual 223, 3) := by decide +kernel
theorem dX11_readText_31 : decode cX11_readText 31 = .ok (.aload_n 0, 1) := by decide +kernel
theorem dX11_readText_32 : decode cX11_readText 32 = .ok (.getfield 49, 3) := by decide +kernel
theorem dX11_readText_35 : decode cX11_readText 35 = .ok (.iload_n 2, 1) := by decide +kernel
theorem dX11_readText_36 : decode cX11_readText 36 = .ok (.aload_n 0, 1) := by decide +kernel
theorem dX11_readText_37 : decode cX11_readText 37 = .ok (.getfield 214, 3) := by decide +kernel
theorem dX11_readText_40 : decode cX11_readText 40 = .ok (.iastore, 1) := by decide +kernel
theorem dX11_readText_41 : decode cX11_readText 41 = .ok (.aload_n 0, 1) := by decide +kernel
theorem dX11_readText_42 : decode cX11_readText 42 = .ok (.invokevirtual 236, 3) := by decide +kernel
theorem dX11_readText_45 : decode cX11_readText 45 = .ok (.iconst (-1), 1) := by decide +kernel
theorem dX11_readText_46 : decode cX11_readText 46 = .ok (.if_icmp .ne 5, 3) := by decide +kernel
theorem dX11_readText_49 : decode cX11_readText 49 = .ok (.iconst (-1), 1) := by decide +kernel
theorem dX11_readText_50 : decode cX11_readText 50 = .ok (.ireturn, 1) := by decide +kernel
theorem dX11_readText_51 : decode cX11_readText 51 = .ok (.aload_n 0, 1) := by decide +kernel
theorem dX11_readText_52 : decode cX11_readText 52 = .ok (.getfield 46, 3) := by decide +kernel
theorem dX11_readText_55 : decode cX11_readText 55 = .ok (.iload_n 2, 1) := by decide +kernel
theorem dX11_readText_56 : decode cX11_readText 56 = .ok (.aload_n 0, 1) := by decide +kernel
theorem dX11_readText_57 : decode cX11_readText 57 = .ok (.getfield 214, 3) := by decide +kernel
theorem dX11_readText_60 : decode cX11_readText 60 = .ok (.iastore, 1) := by decide +kernel
theorem dX11_readText_61 : decode cX11_readText 61 = .ok (.aload_n 0, 1) := by decide +kernel
theorem dX11_readText_62 : decode cX11_readText 62 = .ok (.iconst 1, 1) := by decide +kernel
theorem dX11_readText_63 : decode cX11_readText 63 = .ok (.invokevirtual 245, 3) := by decide +kernel
theorem dX11_readText_66 : decode cX11_readText 66 = .ok (.ifCond .eq 17, 3) := by decide +kernel
theorem dX11_readText_69 : decode cX11_readText 69 = .ok (.aload_n 0, 1) := by decide +kernel
theorem dX11_readText_70 : decode cX11_readText 70 = .ok (.invokevirtual 223, 3) := by decide +kernel
theorem dX11_readText_73 : decode cX11_readText 73 = .ok (.aload_n 0, 1) := by decide +kernel
theorem dX11_readText_74 : decode cX11_readText 74 = .ok (.invokevirtual 257, 3) := by decide +kernel
theorem dX11_readText_77 : decode cX11_readText 77 = .ok (.iconst (-1), 1) := by decide +kernel
theorem dX11_readText_78 : decode cX11_readText 78 = .ok (.if_icmp .ne 5, 3) := by decide +kernel
theorem dX11_readText_81 : decode cX11_readText 81 = .ok (.iconst (-1), 1) := by decide +kernel
theorem dX11_readText_82 : decode cX11_readText 82 = .ok (.ireturn, 1) := by decide +kernel
theorem dX11_readText_83 : decode cX11_readText 83 = .ok (.aload_n 0, 1) := by decide +kernel
theorem dX11_readText_84 : decode cX11_readText 84 = .ok (.getfield 52, 3) := by decide +kernel
theorem dX11_readText_87 : decode cX11_readText 87 = .ok (.iload_n 2, 1) := by decide +kernel
theorem dX11_readText_88 : decode cX11_readText 88 = .ok (.aload_n 0, 1) := by decide +kernel
theorem dX11_readText_89 : decode cX11_readText 89 = .ok (.getfield 214, 3) := by decide +kernel
theorem dX11_readText_92 : decode cX11_readText 92 = .ok (.iastore, 1) := by decide +kernel
theorem dX11_readText_93 : decode cX11_readText 93 = .ok (.aload_n 0, 1) := by decide +kernel
theorem dX11_readText_94 : decode cX11_readText 94 = .ok (.bipush 59, 2) := by decide +kernel
theorem dX11_readText_96 : decode cX11_readText 96 = .ok (.invokevirtual 230, 3) := by decide +kernel
theorem dX11_readText_99 : decode cX11_readText 99 = .ok (.ifCond .ne 9, 3) := by decide +kernel
theorem dX11_readText_102 : decode cX11_readText 102 = .ok (.aload_n 0, 1) := by decide +kernel
theorem dX11_readText_103 : decode cX11_readText 103 = .ok (.iconst 1, 1) := by decide +kernel
theorem dX11_readText_104 : decode cX11_readText 104 = .ok (.invokevirtual 217, 3) := by decide +kernel
theorem dX11_readText_107 : decode cX11_readText 107 = .ok (.ireturn, 1) := by decide +kernel
theorem dX11_readText_108 : decode cX11_readText 108 = .ok (.aload_n 0, 1) := by decide +kernel
theorem dX11_readText_109 : decode cX11_readText 109 = .ok (.invokevirtual 223, 3) := by decide +kernel
theorem dX11_readText_112 : decode cX11_readText 112 = .ok (.iload_n 1, 1) := by decide +kernel
theorem dX11_readText_113 : decode cX11_readText 113 = .ok (.iconst 1, 1) := by decide +kernel
theorem dX11_readText_114 : decode cX11_readText 114 = .ok (.iadd, 1) := by decide +kernel
theorem dX11_readText_115 : decode cX11_readText 115 = .ok (.istore_n 1, 1) := by decide +kernel
theorem dX11_readText_116 : decode cX11_readText 116 = .ok (.goto (-114), 3) := by decide +kernel
theorem dX11_readText_119 : decode cX11_readText 119 = .ok (.aload_n 0, 1) := by decide +kernel
theorem dX11_readText_120 : decode cX11_readText 120 = .ok (.getfield 189, 3) := by decide +kernel
theorem dX11_readText_123 : decode cX11_readText 123 = .ok (.ifCond .ne 7, 3) := by decide +kernel
theorem dX11_readText_126 : decode cX11_readText 126 = .ok (.iload_n 1, 1) := by decide +kernel
theorem dX11_readText_127 : decode cX11_readText 127 = .ok (.goto 8, 3) := by decide +kernel
theorem dX11_readText_130 : decode cX11_readText 130 = .ok (.aload_n 0, 1) := by decide +kernel
theorem dX11_readText_131 : decode cX11_readText 131 = .ok (.iconst 1, 1) := by decide +kernel
theorem dX11_readText_132 : decode cX11_readText 132 = .ok (.invokevirtual 217, 3) := by decide +kernel
theorem dX11_readText_135 : decode cX11_readText 135 = .ok (.ireturn, 1) := by decide +kernel
theorem dX11_takesLaw_0 : decode cX11_takesLaw 0 = .ok (.iconst 0, 1) := by decide +kernel
theorem dX11_takesLaw_1 : decode cX11_takesLaw 1 = .ok (.istore_n 2, 1) := by decide +kernel
theorem dX11_takesLaw_2 : decode cX11_takesLaw 2 = .ok (.iload_n 2, 1) := by decide +kernel
theorem dX11_takesLaw_3 : decode cX11_takesLaw 3 = .ok (.iload_n 1, 1) := by decide +kernel
theorem dX11_takesLaw_4 : decode cX11_takesLaw 4 = .ok (.if_icmp .ge 54, 3) := by decide +kernel
theorem dX11_takesLaw_7 : decode cX11_takesLaw 7 = .ok (.aload_n 0, 1) := by decide +kernel
theorem dX11_takesLaw_8 : decode cX11_takesLaw 8 = .ok (.getfield 46, 3) := by decide +kernel
theorem dX11_takesLaw_11 : decode cX11_takesLaw 11 = .ok (.iload_n 2, 1) := by decide +kernel
theorem dX11_takesLaw_12 : decode cX11_takesLaw 12 = .ok (.aload_n 0, 1) := by decide +kernel
theorem dX11_takesLaw_13 : decode cX11_takesLaw 13 = .ok (.getfield 46, 3) := by decide +kernel
theorem dX11_takesLaw_16 : decode cX11_takesLaw 16 = .ok (.bipush 16, 2) := by decide +kernel
theorem dX11_takesLaw_18 : decode cX11_takesLaw 18 = .ok (.iload_n 2, 1) := by decide +kernel
theorem dX11_takesLaw_19 : decode cX11_takesLaw 19 = .ok (.iadd, 1) := by decide +kernel
theorem dX11_takesLaw_20 : decode cX11_takesLaw 20 = .ok (.iaload, 1) := by decide +kernel
theorem dX11_takesLaw_21 : decode cX11_takesLaw 21 = .ok (.iastore, 1) := by decide +kernel
theorem dX11_takesLaw_22 : decode cX11_takesLaw 22 = .ok (.aload_n 0, 1) := by decide +kernel
theorem dX11_takesLaw_23 : decode cX11_takesLaw 23 = .ok (.getfield 49, 3) := by decide +kernel
theorem dX11_takesLaw_26 : decode cX11_takesLaw 26 = .ok (.iload_n 2, 1) := by decide +kernel
theorem dX11_takesLaw_27 : decode cX11_takesLaw 27 = .ok (.aload_n 0, 1) := by decide +kernel
theorem dX11_takesLaw_28 : decode cX11_takesLaw 28 = .ok (.getfield 49, 3) := by decide +kernel
theorem dX11_takesLaw_31 : decode cX11_takesLaw 31 = .ok (.bipush 16, 2) := by decide +kernel
theorem dX11_takesLaw_33 : decode cX11_takesLaw 33 = .ok (.iload_n 2, 1) := by decide +kernel
theorem dX11_takesLaw_34 : decode cX11_takesLaw 34 = .ok (.iadd, 1) := by decide +kernel
theorem dX11_takesLaw_35 : decode cX11_takesLaw 35 = .ok (.iaload, 1) := by decide +kernel
theorem dX11_takesLaw_36 : decode cX11_takesLaw 36 = .ok (.iastore, 1) := by decide +kernel
theorem dX11_takesLaw_37 : decode cX11_takesLaw 37 = .ok (.aload_n 0, 1) := by decide +kernel
theorem dX11_takesLaw_38 : decode cX11_takesLaw 38 = .ok (.getfield 52, 3) := by decide +kernel
theorem dX11_takesLaw_41 : decode cX11_takesLaw 41 = .ok (.iload_n 2, 1) := by decide +kernel
theorem dX11_takesLaw_42 : decode cX11_takesLaw 42 = .ok (.aload_n 0, 1) := by decide +kernel
theorem dX11_takesLaw_43 : decode cX11_takesLaw 43 = .ok (.getfield 52, 3) := by decide +kernel
theorem dX11_takesLaw_46 : decode cX11_takesLaw 46 = .ok (.bipush 16, 2) := by decide +kernel
theorem dX11_takesLaw_48 : decode cX11_takesLaw 48 = .ok (.iload_n 2, 1) := by decide +kernel
theorem dX11_takesLaw_49 : decode cX11_takesLaw 49 = .ok (.iadd, 1) := by decide +kernel
theorem dX11_takesLaw_50 : decode cX11_takesLaw 50 = .ok (.iaload, 1) := by decide +kernel
theorem dX11_takesLaw_51 : decode cX11_takesLaw 51 = .ok (.iastore, 1) := by decide +kernel
theorem dX11_takesLaw_52 : decode cX11_takesLaw 52 = .ok (.iinc 2 1, 3) := by decide +kernel
theorem dX11_takesLaw_55 : decode cX11_takesLaw 55 = .ok (.goto (-53), 3) := by decide +kernel
theorem dX11_takesLaw_58 : decode cX11_takesLaw 58 = .ok (.iconst 0, 1) := by decide +kernel
theorem dX11_takesLaw_59 : decode cX11_takesLaw 59 = .ok (.istore_n 2, 1) := by decide +kernel
theorem dX11_takesLaw_60 : decode cX11_takesLaw 60 = .ok (.iload_n 2, 1) := by decide +kernel
theorem dX11_takesLaw_61 : decode cX11_takesLaw 61 = .ok (.aload_n 0, 1) := by decide +kernel
theorem dX11_takesLaw_62 : decode cX11_takesLaw 62 = .ok (.getfield 214, 3) := by decide +kernel
theorem dX11_takesLaw_65 : decode cX11_takesLaw 65 = .ok (.if_icmp .ge 41, 3) := by decide +kernel
theorem dX11_takesLaw_68 : decode cX11_takesLaw 68 = .ok (.aload_n 0, 1) := by decide +kernel
theorem dX11_takesLaw_69 : decode cX11_takesLaw 69 = .ok (.getfield 55, 3) := by decide +kernel
theorem dX11_takesLaw_72 : decode cX11_takesLaw 72 = .ok (.iload_n 2, 1) := by decide +kernel
theorem dX11_takesLaw_73 : decode cX11_takesLaw 73 = .ok (.aload_n 0, 1) := by decide +kernel
theorem dX11_takesLaw_74 : decode cX11_takesLaw 74 = .ok (.getfield 55, 3) := by decide +kernel
theorem dX11_takesLaw_77 : decode cX11_takesLaw 77 = .ok (.sipush 400, 3) := by decide +kernel
theorem dX11_takesLaw_80 : decode cX11_takesLaw 80 = .ok (.iload_n 2, 1) := by decide +kernel
theorem dX11_takesLaw_81 : decode cX11_takesLaw 81 = .ok (.iadd, 1) := by decide +kernel
theorem dX11_takesLaw_82 : decode cX11_takesLaw 82 = .ok (.iaload, 1) := by decide +kernel
theorem dX11_takesLaw_83 : decode cX11_takesLaw 83 = .ok (.iastore, 1) := by decide +kernel
theorem dX11_takesLaw_84 : decode cX11_takesLaw 84 = .ok (.aload_n 0, 1) := by decide +kernel
theorem dX11_takesLaw_85 : decode cX11_takesLaw 85 = .ok (.getfield 58, 3) := by decide +kernel
theorem dX11_takesLaw_88 : decode cX11_takesLaw 88 = .ok (.iload_n 2, 1) := by decide +kernel
theorem dX11_takesLaw_89 : decode cX11_takesLaw 89 = .ok (.aload_n 0, 1) := by decide +kernel
theorem dX11_takesLaw_90 : decode cX11_takesLaw 90 = .ok (.getfield 58, 3) := by decide +kernel
theorem dX11_takesLaw_93 : decode cX11_takesLaw 93 = .ok (.sipush 400, 3) := by decide +kernel
theorem dX11_takesLaw_96 : decode cX11_takesLaw 96 = .ok (.iload_n 2, 1) := by decide +kernel
theorem dX11_takesLaw_97 : decode cX11_takesLaw 97 = .ok (.iadd, 1) := by decide +kernel
theorem dX11_takesLaw_98 : decode cX11_takesLaw 98 = .ok (.iaload, 1) := by decide +kernel
theorem dX11_takesLaw_99 : decode cX11_takesLaw 99 = .ok (.iastore, 1) := by decide +kernel
theorem dX11_takesLaw_100 : decode cX11_takesLaw 100 = .ok (.iinc 2 1, 3) := by decide +kernel
theorem dX11_takesLaw_103 : decode cX11_takesLaw 103 = .ok (.goto (-43), 3) := by decide +kernel
theorem dX11_takesLaw_106 : decode cX11_takesLaw 106 = .ok (.aload_n 0, 1) := by decide +kernel
theorem dX11_takesLaw_107 : decode cX11_takesLaw 107 = .ok (.iload_n 1, 1) := by decide +kernel
theorem dX11_takesLaw_108 : decode cX11_takesLaw 108 = .ok (.putfield 260, 3) := by decide +kernel
theorem dX11_takesLaw_111 : decode cX11_takesLaw 111 = .ok (.return_, 1) := by decide +kernel
theorem dX11_letterOf_0 : decode cX11_letterOf 0 = .ok (.iload_n 1, 1) := by decide +kernel
theorem dX11_letterOf_1 : decode cX11_letterOf 1 = .ok (.bipush 97, 2) := by decide +kernel
theorem dX11_letterOf_3 : decode cX11_letterOf 3 = .ok (.if_icmp .lt 14, 3) := by decide +kernel
theorem dX11_letterOf_6 : decode cX11_letterOf 6 = .ok (.iload_n 1, 1) := by decide +kernel
theorem dX11_letterOf_7 : decode cX11_letterOf 7 = .ok (.bipush 122, 2) := by decide +kernel
theorem dX11_letterOf_9 : decode cX11_letterOf 9 = .ok (.if_icmp .gt 8, 3) := by decide +kernel
theorem dX11_letterOf_12 : decode cX11_letterOf 12 = .ok (.iload_n 1, 1) := by decide +kernel
theorem dX11_letterOf_13 : decode cX11_letterOf 13 = .ok (.bipush 97, 2) := by decide +kernel
theorem dX11_letterOf_15 : decode cX11_letterOf 15 = .ok (.isub, 1) := by decide +kernel
theorem dX11_letterOf_16 : decode cX11_letterOf 16 = .ok (.ireturn, 1) := by decide +kernel
theorem dX11_letterOf_17 : decode cX11_letterOf 17 = .ok (.iload_n 1, 1) := by decide +kernel
theorem dX11_letterOf_18 : decode cX11_letterOf 18 = .ok (.bipush 46, 2) := by decide +kernel
theorem dX11_letterOf_20 : decode cX11_letterOf 20 = .ok (.if_icmp .ne 8, 3) := by decide +kernel
theorem dX11_letterOf_23 : decode cX11_letterOf 23 = .ok (.bipush 26, 2) := by decide +kernel
theorem dX11_letterOf_25 : decode cX11_letterOf 25 = .ok (.goto 15, 3) := by decide +kernel
theorem dX11_letterOf_28 : decode cX11_letterOf 28 = .ok (.iload_n 1, 1) := by decide +kernel
theorem dX11_letterOf_29 : decode cX11_letterOf 29 = .ok (.bipush 44, 2) := by decide +kernel
theorem dX11_letterOf_31 : decode cX11_letterOf 31 = .ok (.if_icmp .ne 8, 3) := by decide +kernel
theorem dX11_letterOf_34 : decode cX11_letterOf 34 = .ok (.bipush 27, 2) := by decide +kernel
theorem dX11_letterOf_36 : decode cX11_letterOf 36 = .ok (.goto 4, 3) := by decide +kernel
theorem dX11_letterOf_39 : decode cX11_letterOf 39 = .ok (.iconst (-1), 1) := by decide +kernel
theorem dX11_letterOf_40 : decode cX11_letterOf 40 = .ok (.ireturn, 1) := by decide +kernel
theorem dX11_errsAt_0 : decode cX11_errsAt 0 = .ok (.aload_n 0, 1) := by decide +kernel
theorem dX11_errsAt_1 : decode cX11_errsAt 1 = .ok (.iload_n 1, 1) := by decide +kernel
theorem dX11_errsAt_2 : decode cX11_errsAt 2 = .ok (.putfield 208, 3) := by decide +kernel
theorem dX11_errsAt_5 : decode cX11_errsAt 5 = .ok (.aload_n 0, 1) := by decide +kernel
theorem dX11_errsAt_6 : decode cX11_errsAt 6 = .ok (.iload_n 2, 1) := by decide +kernel
theorem dX11_errsAt_7 : decode cX11_errsAt 7 = .ok (.putfield 211, 3) := by decide +kernel
theorem dX11_errsAt_10 : decode cX11_errsAt 10 = .ok (.iconst (-1), 1) := by decide +kernel
theorem dX11_errsAt_11 : decode cX11_errsAt 11 = .ok (.ireturn, 1) := by decide +kernel
theorem dX11_readRow_0 : decode cX11_readRow 0 = .ok (.aload_n 0, 1) := by decide +kernel
theorem dX11_readRow_1 : decode cX11_readRow 1 = .ok (.getfield 186, 3) := by decide +kernel
theorem dX11_readRow_4 : decode cX11_readRow 4 = .ok (.istore_n 1, 1) := by decide +kernel
theorem dX11_readRow_5 : decode cX11_readRow 5 = .ok (.aload_n 0, 1) := by decide +kernel
theorem dX11_readRow_6 : decode cX11_readRow 6 = .ok (.getfield 189, 3) := by decide +kernel
theorem dX11_readRow_9 : decode cX11_readRow 9 = .ok (.iconst 1, 1) := by decide +kernel
theorem dX11_readRow_10 : decode cX11_readRow 10 = .ok (.if_icmp .ne 16, 3) := by decide +kernel
theorem dX11_readRow_13 : decode cX11_readRow 13 = .ok (.aload_n 0, 1) := by decide +kernel
theorem dX11_readRow_14 : decode cX11_readRow 14 = .ok (.aload_n 0, 1) := by decide +kernel
theorem dX11_readRow_15 : decode cX11_readRow 15 = .ok (.getfield 186, 3) := by decide +kernel
theorem dX11_readRow_18 : decode cX11_readRow 18 = .ok (.invokevirtual 183, 3) := by decide +kernel
theorem dX11_readRow_21 : decode cX11_readRow 21 = .ok (.bipush 34, 2) := by decide +kernel
theorem dX11_readRow_23 : decode cX11_readRow 23 = .ok (.if_icmp .eq 9, 3) := by decide +kernel
theorem dX11_readRow_26 : decode cX11_readRow 26 = .ok (.aload_n 0, 1) := by decide +kernel
theorem dX11_readRow_27 : decode cX11_readRow 27 = .ok (.iconst 1, 1) := by decide +kernel
theorem dX11_readRow_28 : decode cX11_readRow 28 = .ok (.invokevirtual 217, 3) := by decide +kernel
theorem dX11_readRow_31 : decode cX11_readRow 31 = .ok (.ireturn, 1) := by decide +kernel
theorem dX11_readRow_32 : decode cX11_readRow 32 = .ok (.iconst 0, 1) := by decide +kernel
theorem dX11_readRow_33 : decode cX11_readRow 33 = .ok (.istore_n 2, 1) := by decide +kernel
theorem dX11_readRow_34 : decode cX11_readRow 34 = .ok (.iconst 0, 1) := by decide +kernel
theorem dX11_readRow_35 : decode cX11_readRow 35 = .ok (.istore_n 3, 1) := by decide +kernel
theorem dX11_readRow_36 : decode cX11_readRow 36 = .ok (.aload_n 0, 1) := by decide +kernel
theorem dX11_readRow_37 : decode cX11_readRow 37 = .ok (.iload_n 1, 1) := by decide +kernel
theorem dX11_readRow_38 : decode cX11_readRow 38 = .ok (.iconst 1, 1) := by decide +kernel
theorem dX11_readRow_39 : decode cX11_readRow 39 = .ok (.iadd, 1) := by decide +kernel
theorem dX11_readRow_40 : decode cX11_readRow 40 = .ok (.putfield 180, 3) := by decide +kernel
theorem dX11_readRow_43 : decode cX11_readRow 43 = .ok (.aload_n 0, 1) := by decide +kernel
theorem dX11_readRow_44 : decode cX11_readRow 44 = .ok (.aload_n 0, 1) := by decide +kernel
theorem dX11_readRow_45 : decode cX11_readRow 45 = .ok (.getfield 180, 3) := by decide +kernel
theorem dX11_readRow_48 : decode cX11_readRow 48 = .ok (.invokevirtual 183, 3) := by decide +kernel
theorem dX11_readRow_51 : decode cX11_readRow 51 = .ok (.bipush 34, 2) := by decide +kernel
theorem dX11_readRow_53 : decode cX11_readRow 53 = .ok (.if_icmp .eq 75, 3) := by decide +kernel
theorem dX11_readRow_56 : decode cX11_readRow 56 = .ok (.aload_n 0, 1) := by decide +kernel
theorem dX11_readRow_57 : decode cX11_readRow 57 = .ok (.aload_n 0, 1) := by decide +kernel
theorem dX11_readRow_58 : decode cX11_readRow 58 = .ok (.getfield 180, 3) := by decide +kernel
theorem dX11_readRow_61 : decode cX11_readRow 61 = .ok (.invokevirtual 183, 3) := by decide +kernel
theorem dX11_readRow_64 : decode cX11_readRow 64 = .ok (.iconst (-1), 1) := by decide +kernel
theorem dX11_readRow_65 : decode cX11_readRow 65 = .ok (.if_icmp .eq 19, 3) := by decide +kernel
theorem dX11_readRow_68 : decode cX11_readRow 68 = .ok (.aload_n 0, 1) := by decide +kernel
theorem dX11_readRow_69 : decode cX11_readRow 69 = .ok (.aload_n 0, 1) := by decide +kernel
theorem dX11_readRow_70 : decode cX11_readRow 70 = .ok (.aload_n 0, 1) := by decide +kernel
theorem dX11_readRow_71 : decode cX11_readRow 71 = .ok (.getfield 180, 3) := by decide +kernel
theorem dX11_readRow_74 : decode cX11_readRow 74 = .ok (.invokevirtual 183, 3) := by decide +kernel
theorem dX11_readRow_77 : decode cX11_readRow 77 = .ok (.invokevirtual 263, 3) := by decide +kernel
theorem dX11_readRow_80 : decode cX11_readRow 80 = .ok (.iconst (-1), 1) := by decide +kernel
theorem dX11_readRow_81 : decode cX11_readRow 81 = .ok (.if_icmp .ne 13, 3) := by decide +kernel
theorem dX11_readRow_84 : decode cX11_readRow 84 = .ok (.aload_n 0, 1) := by decide +kernel
theorem dX11_readRow_85 : decode cX11_readRow 85 = .ok (.iconst 1, 1) := by decide +kernel
theorem dX11_readRow_86 : decode cX11_readRow 86 = .ok (.aload_n 0, 1) := by decide +kernel
theorem dX11_readRow_87 : decode cX11_readRow 87 = .ok (.getfield 180, 3) := by decide +kernel
theorem dX11_readRow_90 : decode cX11_readRow 90 = .ok (.invokevirtual 266, 3) := by decide +kernel
theorem dX11_readRow_93 : decode cX11_readRow 93 = .ok (.ireturn, 1) := by decide +kernel
theorem dX11_readRow_94 : decode cX11_readRow 94 = .ok (.iload_n 2, 1) := by decide +kernel
theorem dX11_readRow_95 : decode cX11_readRow 95 = .ok (.iconst 1, 1) := by decide +kernel
theorem dX11_readRow_96 : decode cX11_readRow 96 = .ok (.aload_n 0, 1) := by decide +kernel
theorem dX11_readRow_97 : decode cX11_readRow 97 = .ok (.aload_n 0, 1) := by decide +kernel
theorem dX11_readRow_98 : decode cX11_readRow 98 = .ok (.aload_n 0, 1) := by decide +kernel
theorem dX11_readRow_99 : decode cX11_readRow 99 = .ok (.getfield 180, 3) := by decide +kernel
theorem dX11_readRow_102 : decode cX11_readRow 102 = .ok (.invokevirtual 183, 3) := by decide +kernel
theorem dX11_readRow_105 : decode cX11_readRow 105 = .ok (.invokevirtual 263, 3) := by decide +kernel
theorem dX11_readRow_108 : decode cX11_readRow 108 = .ok (.ishl, 1) := by decide +kernel
theorem dX11_readRow_109 : decode cX11_readRow 109 = .ok (.ior, 1) := by decide +kernel
theorem dX11_readRow_110 : decode cX11_readRow 110 = .ok (.istore_n 2, 1) := by decide +kernel
theorem dX11_readRow_111 : decode cX11_readRow 111 = .ok (.iload_n 3, 1) := by decide +kernel
theorem dX11_readRow_112 : decode cX11_readRow 112 = .ok (.iconst 1, 1) := by decide +kernel
theorem dX11_readRow_113 : decode cX11_readRow 113 = .ok (.iadd, 1) := by decide +kernel
theorem dX11_readRow_114 : decode cX11_readRow 114 = .ok (.istore_n 3, 1) := by decide +kernel
theorem dX11_readRow_115 : decode cX11_readRow 115 = .ok (.aload_n 0, 1) := by decide +kernel
theorem dX11_readRow_116 : decode cX11_readRow 116 = .ok (.aload_n 0, 1) := by decide +kernel
theorem dX11_readRow_117 : decode cX11_readRow 117 = .ok (.getfield 180, 3) := by decide +kernel
theorem dX11_readRow_120 : decode cX11_readRow 120 = .ok (.iconst 1, 1) := by decide +kernel
theorem dX11_readRow_121 : decode cX11_readRow 121 = .ok (.iadd, 1) := by decide +kernel
theorem dX11_readRow_122 : decode cX11_readRow 122 = .ok (.putfield 180, 3) := by decide +kernel
theorem dX11_readRow_125 : decode cX11_readRow 125 = .ok (.goto (-82), 3) := by decide +kernel
theorem dX11_readRow_128 : decode cX11_readRow 128 = .ok (.aload_n 0, 1) := by decide +kernel
theorem dX11_readRow_129 : decode cX11_readRow 129 = .ok (.iload_n 3, 1) := by decide +kernel
theorem dX11_readRow_130 : decode cX11_readRow 130 = .ok (.iconst 1, 1) := by decide +kernel
theorem dX11_readRow_131 : decode cX11_readRow 131 = .ok (.bipush 28, 2) := by decide +kernel
theorem dX11_readRow_133 : decode cX11_readRow 133 = .ok (.invokevirtual 147, 3) := by decide +kernel
theorem dX11_readRow_136 : decode cX11_readRow 136 = .ok (.ifCond .ne 10, 3) := by decide +kernel
theorem dX11_readRow_139 : decode cX11_readRow 139 = .ok (.aload_n 0, 1) := by decide +kernel
theorem dX11_readRow_140 : decode cX11_readRow 140 = .ok (.iconst 2, 1) := by decide +kernel
theorem dX11_readRow_141 : decode cX11_readRow 141 = .ok (.iload_n 1, 1) := by decide +kernel
theorem dX11_readRow_142 : decode cX11_readRow 142 = .ok (.invokevirtual 266, 3) := by decide +kernel
theorem dX11_readRow_145 : decode cX11_readRow 145 = .ok (.ireturn, 1) := by decide +kernel
theorem dX11_readRow_146 : decode cX11_readRow 146 = .ok (.aload_n 0, 1) := by decide +kernel
theorem dX11_readRow_147 : decode cX11_readRow 147 = .ok (.aload_n 0, 1) := by decide +kernel
theorem dX11_readRow_148 : decode cX11_readRow 148 = .ok (.getfield 180, 3) := by decide +kernel
theorem dX11_readRow_151 : decode cX11_readRow 151 = .ok (.iconst 1, 1) := by decide +kernel
theorem dX11_readRow_152 : decode cX11_readRow 152 = .ok (.iadd, 1) := by decide +kernel
theorem dX11_readRow_153 : decode cX11_readRow 153 = .ok (.putfield 180, 3) := by decide +kernel
theorem dX11_readRow_156 : decode cX11_readRow 156 = .ok (.aload_n 0, 1) := by decide +kernel
theorem dX11_readRow_157 : decode cX11_readRow 157 = .ok (.invokevirtual 223, 3) := by decide +kernel
theorem dX11_readRow_160 : decode cX11_readRow 160 = .ok (.iload_n 2, 1) := by decide +kernel
theorem dX11_readRow_161 : decode cX11_readRow 161 = .ok (.ireturn, 1) := by decide +kernel
theorem dX11_readHeir_0 : decode cX11_readHeir 0 = .ok (.aload_n 0, 1) := by decide +kernel
theorem dX11_readHeir_1 : decode cX11_readHeir 1 = .ok (.getfield 189, 3) := by decide +kernel
theorem dX11_readHeir_4 : decode cX11_readHeir 4 = .ok (.iconst 3, 1) := by decide +kernel
theorem dX11_readHeir_5 : decode cX11_readHeir 5 = .ok (.if_icmp .eq 9, 3) := by decide +kernel
theorem dX11_readHeir_8 : decode cX11_readHeir 8 = .ok (.aload_n 0, 1) := by decide +kernel
theorem dX11_readHeir_9 : decode cX11_readHeir 9 = .ok (.iconst 1, 1) := by decide +kernel
theorem dX11_readHeir_10 : decode cX11_readHeir 10 = .ok (.invokevirtual 217, 3) := by decide +kernel
theorem dX11_readHeir_13 : decode cX11_readHeir 13 = .ok (.ireturn, 1) := by decide +kernel
theorem dX11_readHeir_14 : decode cX11_readHeir 14 = .ok (.aload_n 0, 1) := by decide +kernel
theorem dX11_readHeir_15 : decode cX11_readHeir 15 = .ok (.aload_n 0, 1) := by decide +kernel
theorem dX11_readHeir_16 : decode cX11_readHeir 16 = .ok (.getfield 192, 3) := by decide +kernel
theorem dX11_readHeir_19 : decode cX11_readHeir 19 = .ok (.invokevirtual 128, 3) := by decide +kernel
theorem dX11_readHeir_22 : decode cX11_readHeir 22 = .ok (.ifCond .eq 11, 3) := by decide +kernel
theorem dX11_readHeir_25 : decode cX11_readHeir 25 = .ok (.aload_n 0, 1) := by decide +kernel
theorem dX11_readHeir_26 : decode cX11_readHeir 26 = .ok (.getfield 192, 3) := by decide +kernel
theorem dX11_readHeir_29 : decode cX11_readHeir 29 = .ok (.iload_n 1, 1) := by decide +kernel
theorem dX11_readHeir_30 : decode cX11_readHeir 30 = .ok (.if_icmp .ne 9, 3) := by decide +kernel
theorem dX11_readHeir_33 : decode cX11_readHeir 33 = .ok (.aload_n 0, 1) := by decide +kernel
theorem dX11_readHeir_34 : decode cX11_readHeir 34 = .ok (.iconst 2, 1) := by decide +kernel
theorem dX11_readHeir_35 : decode cX11_readHeir 35 = .ok (.invokevirtual 217, 3) := by decide +kernel
theorem dX11_readHeir_38 : decode cX11_readHeir 38 = .ok (.ireturn, 1) := by decide +kernel
theorem dX11_readHeir_39 : decode cX11_readHeir 39 = .ok (.aload_n 0, 1) := by decide +kernel
theorem dX11_readHeir_40 : decode cX11_readHeir 40 = .ok (.getfield 192, 3) := by decide +kernel
theorem dX11_readHeir_43 : decode cX11_readHeir 43 = .ok (.istore_n 2, 1) := by decide +kernel
theorem dX11_readHeir_44 : decode cX11_readHeir 44 = .ok (.aload_n 0, 1) := by decide +kernel
theorem dX11_readHeir_45 : decode cX11_readHeir 45 = .ok (.invokevirtual 223, 3) := by decide +kernel
theorem dX11_readHeir_48 : decode cX11_readHeir 48 = .ok (.iload_n 2, 1) := by decide +kernel
theorem dX11_readHeir_49 : decode cX11_readHeir 49 = .ok (.ireturn, 1) := by decide +kernel
theorem dX11_readLine_0 : decode cX11_readLine 0 = .ok (.iload_n 3, 1) := by decide +kernel
theorem dX11_readLine_1 : decode cX11_readLine 1 = .ok (.ifCond .eq 9, 3) := by decide +kernel
theorem dX11_readLine_4 : decode cX11_readLine 4 = .ok (.ldc_w 269, 3) := by decide +kernel
theorem dX11_readLine_7 : decode cX11_readLine 7 = .ok (.goto 7, 3) := by decide +kernel
theorem dX11_readLine_10 : decode cX11_readLine 10 = .ok (.aload_n 0, 1) := by decide +kernel
theorem dX11_readLine_11 : decode cX11_readLine 11 = .ok (.invokevirtual 270, 3) := by decide +kernel
theorem dX11_readLine_14 : decode cX11_readLine 14 = .ok (.istore 4, 2) := by decide +kernel
theorem dX11_readLine_16 : decode cX11_readLine 16 = .ok (.iload 4, 2) := by decide +kernel
theorem dX11_readLine_18 : decode cX11_readLine 18 = .ok (.iconst (-1), 1) := by decide +kernel
theorem dX11_readLine_19 : decode cX11_readLine 19 = .ok (.if_icmp .ne 5, 3) := by decide +kernel
theorem dX11_readLine_22 : decode cX11_readLine 22 = .ok (.iconst (-1), 1) := by decide +kernel
theorem dX11_readLine_23 : decode cX11_readLine 23 = .ok (.ireturn, 1) := by decide +kernel
theorem dX11_readLine_24 : decode cX11_readLine 24 = .ok (.aload_n 0, 1) := by decide +kernel
theorem dX11_readLine_25 : decode cX11_readLine 25 = .ok (.bipush 16, 2) := by decide +kernel
theorem dX11_readLine_27 : decode cX11_readLine 27 = .ok (.invokevirtual 245, 3) := by decide +kernel
theorem dX11_readLine_30 : decode cX11_readLine 30 = .ok (.ifCond .ne 9, 3) := by decide +kernel
theorem dX11_readLine_33 : decode cX11_readLine 33 = .ok (.aload_n 0, 1) := by decide +kernel
theorem dX11_readLine_34 : decode cX11_readLine 34 = .ok (.iconst 1, 1) := by decide +kernel
theorem dX11_readLine_35 : decode cX11_readLine 35 = .ok (.invokevirtual 217, 3) := by decide +kernel
theorem dX11_readLine_38 : decode cX11_readLine 38 = .ok (.ireturn, 1) := by decide +kernel
theorem dX11_readLine_39 : decode cX11_readLine 39 = .ok (.aload_n 0, 1) := by decide +kernel
theorem dX11_readLine_40 : decode cX11_readLine 40 = .ok (.invokevirtual 223, 3) := by decide +kernel
theorem dX11_readLine_43 : decode cX11_readLine 43 = .ok (.aload_n 0, 1) := by decide +kernel
theorem dX11_readLine_44 : decode cX11_readLine 44 = .ok (.iload_n 1, 1) := by decide +kernel
theorem dX11_readLine_45 : decode cX11_readLine 45 = .ok (.invokevirtual 273, 3) := by decide +kernel
theorem dX11_readLine_48 : decode cX11_readLine 48 = .ok (.istore 5, 2) := by decide +kernel
theorem dX11_readLine_50 : decode cX11_readLine 50 = .ok (.iload 5, 2) := by decide +kernel
theorem dX11_readLine_52 : decode cX11_readLine 52 = .ok (.iconst (-1), 1) := by decide +kernel
theorem dX11_readLine_53 : decode cX11_readLine 53 = .ok (.if_icmp .ne 5, 3) := by decide +kernel
theorem dX11_readLine_56 : decode cX11_readLine 56 = .ok (.iconst (-1), 1) := by decide +kernel
theorem dX11_readLine_57 : decode cX11_readLine 57 = .ok (.ireturn, 1) := by decide +kernel
theorem dX11_readLine_58 : decode cX11_readLine 58 = .ok (.aload_n 0, 1) := by decide +kernel
theorem dX11_readLine_59 : decode cX11_readLine 59 = .ok (.getfield 71, 3) := by decide +kernel
theorem dX11_readLine_62 : decode cX11_readLine 62 = .ok (.iload_n 2, 1) := by decide +kernel
theorem dX11_readLine_63 : decode cX11_readLine 63 = .ok (.iload 4, 2) := by decide +kernel
theorem dX11_readLine_65 : decode cX11_readLine 65 = .ok (.iastore, 1) := by decide +kernel
theorem dX11_readLine_66 : decode cX11_readLine 66 = .ok (.aload_n 0, 1) := by decide +kernel
theorem dX11_readLine_67 : decode cX11_readLine 67 = .ok (.getfield 74, 3) := by decide +kernel
theorem dX11_readLine_70 : decode cX11_readLine 70 = .ok (.iload_n 2, 1) := by decide +kernel
theorem dX11_readLine_71 : decode cX11_readLine 71 = .ok (.iload 5, 2) := by decide +kernel
theorem dX11_readLine_73 : decode cX11_readLine 73 = .ok (.iastore, 1) := by decide +kernel
theorem dX11_readLine_74 : decode cX11_readLine 74 = .ok (.aload_n 0, 1) := by decide +kernel
theorem dX11_readLine_75 : decode cX11_readLine 75 = .ok (.getfield 77, 3) := by decide +kernel
theorem dX11_readLine_78 : decode cX11_readLine 78 = .ok (.iload_n 2, 1) := by decide +kernel
theorem dX11_readLine_79 : decode cX11_readLine 79 = .ok (.iconst 0, 1) := by decide +kernel
theorem dX11_readLine_80 : decode cX11_readLine 80 = .ok (.iastore, 1) := by decide +kernel
theorem dX11_readLine_81 : decode cX11_readLine 81 = .ok (.aload_n 0, 1) := by decide +kernel
theorem dX11_readLine_82 : decode cX11_readLine 82 = .ok (.bipush 17, 2) := by decide +kernel
theorem dX11_readLine_84 : decode cX11_readLine 84 = .ok (.invokevirtual 245, 3) := by decide +kernel
theorem dX11_readLine_87 : decode cX11_readLine 87 = .ok (.ifCond .eq 32, 3) := by decide +kernel
theorem dX11_readLine_90 : decode cX11_readLine 90 = .ok (.aload_n 0, 1) := by decide +kernel
theorem dX11_readLine_91 : decode cX11_readLine 91 = .ok (.invokevirtual 223, 3) := by decide +kernel
theorem dX11_readLine_94 : decode cX11_readLine 94 = .ok (.aload_n 0, 1) := by decide +kernel
theorem dX11_readLine_95 : decode cX11_readLine 95 = .ok (.iload_n 1, 1) := by decide +kernel
theorem dX11_readLine_96 : decode cX11_readLine 96 = .ok (.invokevirtual 273, 3) := by decide +kernel
theorem dX11_readLine_99 : decode cX11_readLine 99 = .ok (.istore 6, 2) := by decide +kernel
theorem dX11_readLine_101 : decode cX11_readLine 101 = .ok (.iload 6, 2) := by decide +kernel
theorem dX11_readLine_103 : decode cX11_readLine 103 = .ok (.iconst (-1), 1) := by decide +kernel
theorem dX11_readLine_104 : decode cX11_readLine 104 = .ok (.if_icmp .ne 5, 3) := by decide +kernel
theorem dX11_readLine_107 : decode cX11_readLine 107 = .ok (.iconst (-1), 1) := by decide +kernel
theorem dX11_readLine_108 : decode cX11_readLine 108 = .ok (.ireturn, 1) := by decide +kernel
theorem dX11_readLine_109 : decode cX11_readLine 109 = .ok (.aload_n 0, 1) := by decide +kernel
theorem dX11_readLine_110 : decode cX11_readLine 110 = .ok (.getfield 77, 3) := by decide +kernel
theorem dX11_readLine_113 : decode cX11_readLine 113 = .ok (.iload_n 2, 1) := by decide +kernel
theorem dX11_readLine_114 : decode cX11_readLine 114 = .ok (.iload 6, 2) := by decide +kernel
theorem dX11_readLine_116 : decode cX11_readLine 116 = .ok (.iconst 1, 1) := by decide +kernel
theorem dX11_readLine_117 : decode cX11_readLine 117 = .ok (.iadd, 1) := by decide +kernel
theorem dX11_readLine_118 : decode cX11_readLine 118 = .ok (.iastore, 1) := by decide +kernel
theorem dX11_readLine_119 : decode cX11_readLine 119 = .ok (.aload_n 0, 1) := by decide +kernel
theorem dX11_readLine_120 : decode cX11_readLine 120 = .ok (.bipush 59, 2) := by decide +kernel
theorem dX11_readLine_122 : decode cX11_readLine 122 = .ok (.invokevirtual 230, 3) := by decide +kernel
theorem dX11_readLine_125 : decode cX11_readLine 125 = .ok (.ifCond .ne 9, 3) := by decide +kernel
theorem dX11_readLine_128 : decode cX11_readLine 128 = .ok (.aload_n 0, 1) := by decide +kernel
theorem dX11_readLine_129 : decode cX11_readLine 129 = .ok (.iconst 1, 1) := by decide +kernel
theorem dX11_readLine_130 : decode cX11_readLine 130 = .ok (.invokevirtual 217, 3) := by decide +kernel
theorem dX11_readLine_133 : decode cX11_readLine 133 = .ok (.ireturn, 1) := by decide +kernel
theorem dX11_readLine_134 : decode cX11_readLine 134 = .ok (.aload_n 0, 1) := by decide +kernel
theorem dX11_readLine_135 : decode cX11_readLine 135 = .ok (.invokevirtual 223, 3) := by decide +kernel
theorem dX11_readLine_138 : decode cX11_readLine 138 = .ok (.iconst 0, 1) := by decide +kernel
theorem dX11_readLine_139 : decode cX11_readLine 139 = .ok (.ireturn, 1) := by decide +kernel
theorem dX11_readWill_0 : decode cX11_readWill 0 = .ok (.iconst 0, 1) := by decide +kernel
theorem dX11_readWill_1 : decode cX11_readWill 1 = .ok (.istore_n 2, 1) := by decide +kernel
theorem dX11_readWill_2 : decode cX11_readWill 2 = .ok (.aload_n 0, 1) := by decide +kernel
theorem dX11_readWill_3 : decode cX11_readWill 3 = .ok (.bipush 15, 2) := by decide +kernel
theorem dX11_readWill_5 : decode cX11_readWill 5 = .ok (.invokevirtual 245, 3) := by decide +kernel
theorem dX11_readWill_8 : decode cX11_readWill 8 = .ok (.ifCond .ne 12, 3) := by decide +kernel
theorem dX11_readWill_11 : decode cX11_readWill 11 = .ok (.aload_n 0, 1) := by decide +kernel
theorem dX11_readWill_12 : decode cX11_readWill 12 = .ok (.bipush 18, 2) := by decide +kernel
theorem dX11_readWill_14 : decode cX11_readWill 14 = .ok (.invokevirtual 245, 3) := by decide +kernel
theorem dX11_readWill_17 : decode cX11_readWill 17 = .ok (.ifCond .eq 50, 3) := by decide +kernel
theorem dX11_readWill_20 : decode cX11_readWill 20 = .ok (.iload_n 2, 1) := by decide +kernel
theorem dX11_readWill_21 : decode cX11_readWill 21 = .ok (.bipush 12, 2) := by decide +kernel
theorem dX11_readWill_23 : decode cX11_readWill 23 = .ok (.if_icmp .ne 9, 3) := by decide +kernel
theorem dX11_readWill_26 : decode cX11_readWill 26 = .ok (.aload_n 0, 1) := by decide +kernel
theorem dX11_readWill_27 : decode cX11_readWill 27 = .ok (.iconst 3, 1) := by decide +kernel
theorem dX11_readWill_28 : decode cX11_readWill 28 = .ok (.invokevirtual 217, 3) := by decide +kernel
theorem dX11_readWill_31 : decode cX11_readWill 31 = .ok (.ireturn, 1) := by decide +kernel
theorem dX11_readWill_32 : decode cX11_readWill 32 = .ok (.aload_n 0, 1) := by decide +kernel
theorem dX11_readWill_33 : decode cX11_readWill 33 = .ok (.bipush 18, 2) := by decide +kernel
theorem dX11_readWill_35 : decode cX11_readWill 35 = .ok (.invokevirtual 245, 3) := by decide +kernel
theorem dX11_readWill_38 : decode cX11_readWill 38 = .ok (.istore_n 3, 1) := by decide +kernel
theorem dX11_readWill_39 : decode cX11_readWill 39 = .ok (.aload_n 0, 1) := by decide +kernel
theorem dX11_readWill_40 : decode cX11_readWill 40 = .ok (.invokevirtual 223, 3) := by decide +kernel
theorem dX11_readWill_43 : decode cX11_readWill 43 = .ok (.aload_n 0, 1) := by decide +kernel
theorem dX11_readWill_44 : decode cX11_readWill 44 = .ok (.iload_n 1, 1) := by decide +kernel
theorem dX11_readWill_45 : decode cX11_readWill 45 = .ok (.sipush 144, 3) := by decide +kernel
theorem dX11_readWill_48 : decode cX11_readWill 48 = .ok (.iload_n 2, 1) := by decide +kernel
theorem dX11_readWill_49 : decode cX11_readWill 49 = .ok (.iadd, 1) := by decide +kernel
theorem dX11_readWill_50 : decode cX11_readWill 50 = .ok (.iload_n 3, 1) := by decide +kernel
theorem dX11_readWill_51 : decode cX11_readWill 51 = .ok (.invokevirtual 276, 3) := by decide +kernel
theorem dX11_readWill_54 : decode cX11_readWill 54 = .ok (.iconst (-1), 1) := by decide +kernel
theorem dX11_readWill_55 : decode cX11_readWill 55 = .ok (.if_icmp .ne 5, 3) := by decide +kernel
theorem dX11_readWill_58 : decode cX11_readWill 58 = .ok (.iconst (-1), 1) := by decide +kernel
theorem dX11_readWill_59 : decode cX11_readWill 59 = .ok (.ireturn, 1) := by decide +kernel
theorem dX11_readWill_60 : decode cX11_readWill 60 = .ok (.iload_n 2, 1) := by decide +kernel
theorem dX11_readWill_61 : decode cX11_readWill 61 = .ok (.iconst 1, 1) := by decide +kernel
theorem dX11_readWill_62 : decode cX11_readWill 62 = .ok (.iadd, 1) := by decide +kernel
theorem dX11_readWill_63 : decode cX11_readWill 63 = .ok (.istore_n 2, 1) := by decide +kernel
theorem dX11_readWill_64 : decode cX11_readWill 64 = .ok (.goto (-62), 3) := by decide +kernel
theorem dX11_readWill_67 : decode cX11_readWill 67 = .ok (.aload_n 0, 1) := by decide +kernel
theorem dX11_readWill_68 : decode cX11_readWill 68 = .ok (.getfield 189, 3) := by decide +kernel
theorem dX11_readWill_71 : decode cX11_readWill 71 = .ok (.ifCond .ne 7, 3) := by decide +kernel
theorem dX11_readWill_74 : decode cX11_readWill 74 = .ok (.iload_n 2, 1) := by decide +kernel
theorem dX11_readWill_75 : decode cX11_readWill 75 = .ok (.goto 8, 3) := by decide +kernel
theorem dX11_readWill_78 : decode cX11_readWill 78 = .ok (.aload_n 0, 1) := by decide +kernel
theorem dX11_readWill_79 : decode cX11_readWill 79 = .ok (.iconst 1, 1) := by decide +kernel
theorem dX11_readWill_80 : decode cX11_readWill 80 = .ok (.invokevirtual 217, 3) := by decide +kernel
theorem dX11_readWill_83 : decode cX11_readWill 83 = .ok (.ireturn, 1) := by decide +kernel
theorem dX11_takesWill_0 : decode cX11_takesWill 0 = .ok (.iconst 0, 1) := by decide +kernel
theorem dX11_takesWill_1 : decode cX11_takesWill 1 = .ok (.istore_n 3, 1) := by decide +kernel
theorem dX11_takesWill_2 : decode cX11_takesWill 2 = .ok (.iload_n 3, 1) := by decide +kernel
theorem dX11_takesWill_3 : decode cX11_takesWill 3 = .ok (.iload_n 2, 1) := by decide +kernel
theorem dX11_takesWill_4 : decode cX11_takesWill 4 = .ok (.if_icmp .ge 72, 3) := by decide +kernel
theorem dX11_takesWill_7 : decode cX11_takesWill 7 = .ok (.aload_n 0, 1) := by decide +kernel
theorem dX11_takesWill_8 : decode cX11_takesWill 8 = .ok (.getfield 71, 3) := by decide +kernel
theorem dX11_takesWill_11 : decode cX11_takesWill 11 = .ok (.bipush 12, 2) := by decide +kernel
theorem dX11_takesWill_13 : decode cX11_takesWill 13 = .ok (.iload_n 1, 1) := by decide +kernel
theorem dX11_takesWill_14 : decode cX11_takesWill 14 = .ok (.imul, 1) := by decide +kernel
theorem dX11_takesWill_15 : decode cX11_takesWill 15 = .ok (.iload_n 3, 1) := by decide +kernel
theorem dX11_takesWill_16 : decode cX11_takesWill 16 = .ok (.iadd, 1) := by decide +kernel
theorem dX11_takesWill_17 : decode cX11_takesWill 17 = .ok (.aload_n 0, 1) := by decide +kernel
theorem dX11_takesWill_18 : decode cX11_takesWill 18 = .ok (.getfield 71, 3) := by decide +kernel
theorem dX11_takesWill_21 : decode cX11_takesWill 21 = .ok (.sipush 144, 3) := by decide +kernel
theorem dX11_takesWill_24 : decode cX11_takesWill 24 = .ok (.iload_n 3, 1) := by decide +kernel
theorem dX11_takesWill_25 : decode cX11_takesWill 25 = .ok (.iadd, 1) := by decide +kernel
theorem dX11_takesWill_26 : decode cX11_takesWill 26 = .ok (.iaload, 1) := by decide +kernel
theorem dX11_takesWill_27 : decode cX11_takesWill 27 = .ok (.iastore, 1) := by decide +kernel
theorem dX11_takesWill_28 : decode cX11_takesWill 28 = .ok (.aload_n 0, 1) := by decide +kernel
theorem dX11_takesWill_29 : decode cX11_takesWill 29 = .ok (.getfield 74, 3) := by decide +kernel
theorem dX11_takesWill_32 : decode cX11_takesWill 32 = .ok (.bipush 12, 2) := by decide +kernel
theorem dX11_takesWill_34 : decode cX11_takesWill 34 = .ok (.iload_n 1, 1) := by decide +kernel
theorem dX11_takesWill_35 : decode cX11_takesWill 35 = .ok (.imul, 1) := by decide +kernel
theorem dX11_takesWill_36 : decode cX11_takesWill 36 = .ok (.iload_n 3, 1) := by decide +kernel
theorem dX11_takesWill_37 : decode cX11_takesWill 37 = .ok (.iadd, 1) := by decide +kernel
theorem dX11_takesWill_38 : decode cX11_takesWill 38 = .ok (.aload_n 0, 1) := by decide +kernel
theorem dX11_takesWill_39 : decode cX11_takesWill 39 = .ok (.getfield 74, 3) := by decide +kernel
theorem dX11_takesWill_42 : decode cX11_takesWill 42 = .ok (.sipush 144, 3) := by decide +kernel
theorem dX11_takesWill_45 : decode cX11_takesWill 45 = .ok (.iload_n 3, 1) := by decide +kernel
theorem dX11_takesWill_46 : decode cX11_takesWill 46 = .ok (.iadd, 1) := by decide +kernel
theorem dX11_takesWill_47 : decode cX11_takesWill 47 = .ok (.iaload, 1) := by decide +kernel
theorem dX11_takesWill_48 : decode cX11_takesWill 48 = .ok (.iastore, 1) := by decide +kernel
theorem dX11_takesWill_49 : decode cX11_takesWill 49 = .ok (.aload_n 0, 1) := by decide +kernel
theorem dX11_takesWill_50 : decode cX11_takesWill 50 = .ok (.getfield 77, 3) := by decide +kernel
theorem dX11_takesWill_53 : decode cX11_takesWill 53 = .ok (.bipush 12, 2) := by decide +kernel
theorem dX11_takesWill_55 : decode cX11_takesWill 55 = .ok (.iload_n 1, 1) := by decide +kernel
theorem dX11_takesWill_56 : decode cX11_takesWill 56 = .ok (.imul, 1) := by decide +kernel
theorem dX11_takesWill_57 : decode cX11_takesWill 57 = .ok (.iload_n 3, 1) := by decide +kernel
theorem dX11_takesWill_58 : decode cX11_takesWill 58 = .ok (.iadd, 1) := by decide +kernel
theorem dX11_takesWill_59 : decode cX11_takesWill 59 = .ok (.aload_n 0, 1) := by decide +kernel
theorem dX11_takesWill_60 : decode cX11_takesWill 60 = .ok (.getfield 77, 3) := by decide +kernel
theorem dX11_takesWill_63 : decode cX11_takesWill 63 = .ok (.sipush 144, 3) := by decide +kernel
theorem dX11_takesWill_66 : decode cX11_takesWill 66 = .ok (.iload_n 3, 1) := by decide +kernel
theorem dX11_takesWill_67 : decode cX11_takesWill 67 = .ok (.iadd, 1) := by decide +kernel
theorem dX11_takesWill_68 : decode cX11_takesWill 68 = .ok (.iaload, 1) := by decide +kernel
theorem dX11_takesWill_69 : decode cX11_takesWill 69 = .ok (.iastore, 1) := by decide +kernel
theorem dX11_takesWill_70 : decode cX11_takesWill 70 = .ok (.iinc 3 1, 3) := by decide +kernel
theorem dX11_takesWill_73 : decode cX11_takesWill 73 = .ok (.goto (-71), 3) := by decide +kernel
theorem dX11_takesWill_76 : decode cX11_takesWill 76 = .ok (.aload_n 0, 1) := by decide +kernel
theorem dX11_takesWill_77 : decode cX11_takesWill 77 = .ok (.getfield 68, 3) := by decide +kernel
theorem dX11_takesWill_80 : decode cX11_takesWill 80 = .ok (.iload_n 1, 1) := by decide +kernel
theorem dX11_takesWill_81 : decode cX11_takesWill 81 = .ok (.iload_n 2, 1) := by decide +kernel
theorem dX11_takesWill_82 : decode cX11_takesWill 82 = .ok (.iastore, 1) := by decide +kernel
theorem dX11_takesWill_83 : decode cX11_takesWill 83 = .ok (.return_, 1) := by decide +kernel
theorem dX11_readDeed_0 : decode cX11_readDeed 0 = .ok (.iconst 0, 1) := by decide +kernel
theorem dX11_readDeed_1 : decode cX11_readDeed 1 = .ok (.istore_n 1, 1) := by decide +kernel
theorem dX11_readDeed_2 : decode cX11_readDeed 2 = .ok (.iconst 0, 1) := by decide +kernel
theorem dX11_readDeed_3 : decode cX11_readDeed 3 = .ok (.istore_n 2, 1) := by decide +kernel
theorem dX11_readDeed_4 : decode cX11_readDeed 4 = .ok (.iload_n 2, 1) := by decide +kernel
theorem dX11_readDeed_5 : decode cX11_readDeed 5 = .ok (.aload_n 0, 1) := by decide +kernel
theorem dX11_readDeed_6 : decode cX11_readDeed 6 = .ok (.getfield 174, 3) := by decide +kernel
theorem dX11_readDeed_9 : decode cX11_readDeed 9 = .ok (.if_icmp .ge 92, 3) := by decide +kernel
theorem dX11_readDeed_12 : decode cX11_readDeed 12 = .ok (.aload_n 0, 1) := by decide +kernel
theorem dX11_readDeed_13 : decode cX11_readDeed 13 = .ok (.getfield 40, 3) := by decide +kernel
theorem dX11_readDeed_16 : decode cX11_readDeed 16 = .ok (.iload_n 2, 1) := by decide +kernel
theorem dX11_readDeed_17 : decode cX11_readDeed 17 = .ok (.iaload, 1) := by decide +kernel
theorem dX11_readDeed_18 : decode cX11_readDeed 18 = .ok (.bipush 32, 2) := by decide +kernel
theorem dX11_readDeed_20 : decode cX11_readDeed 20 = .ok (.if_icmp .eq 75, 3) := by decide +kernel
theorem dX11_readDeed_23 : decode cX11_readDeed 23 = .ok (.aload_n 0, 1) := by decide +kernel
theorem dX11_readDeed_24 : decode cX11_readDeed 24 = .ok (.getfield 40, 3) := by decide +kernel
theorem dX11_readDeed_27 : decode cX11_readDeed 27 = .ok (.iload_n 2, 1) := by decide +kernel
theorem dX11_readDeed_28 : decode cX11_readDeed 28 = .ok (.iaload, 1) := by decide +kernel
theorem dX11_readDeed_29 : decode cX11_readDeed 29 = .ok (.bipush 10, 2) := by decide +kernel
theorem dX11_readDeed_31 : decode cX11_readDeed 31 = .ok (.if_icmp .ne 6, 3) := by decide +kernel
theorem dX11_readDeed_34 : decode cX11_readDeed 34 = .ok (.goto 61, 3) := by decide +kernel
theorem dX11_readDeed_37 : decode cX11_readDeed 37 = .ok (.aload_n 0, 1) := by decide +kernel
theorem dX11_readDeed_38 : decode cX11_readDeed 38 = .ok (.aload_n 0, 1) := by decide +kernel
theorem dX11_readDeed_39 : decode cX11_readDeed 39 = .ok (.getfield 40, 3) := by decide +kernel
theorem dX11_readDeed_42 : decode cX11_readDeed 42 = .ok (.iload_n 2, 1) := by decide +kernel
theorem dX11_readDeed_43 : decode cX11_readDeed 43 = .ok (.iaload, 1) := by decide +kernel
theorem dX11_readDeed_44 : decode cX11_readDeed 44 = .ok (.invokevirtual 263, 3) := by decide +kernel
theorem dX11_readDeed_47 : decode cX11_readDeed 47 = .ok (.iconst (-1), 1) := by decide +kernel
theorem dX11_readDeed_48 : decode cX11_readDeed 48 = .ok (.if_icmp .ne 10, 3) := by decide +kernel
theorem dX11_readDeed_51 : decode cX11_readDeed 51 = .ok (.aload_n 0, 1) := by decide +kernel
theorem dX11_readDeed_52 : decode cX11_readDeed 52 = .ok (.iconst 1, 1) := by decide +kernel
theorem dX11_readDeed_53 : decode cX11_readDeed 53 = .ok (.iload_n 2, 1) := by decide +kernel
theorem dX11_readDeed_54 : decode cX11_readDeed 54 = .ok (.invokevirtual 266, 3) := by decide +kernel
theorem dX11_readDeed_57 : decode cX11_readDeed 57 = .ok (.ireturn, 1) := by decide +kernel
theorem dX11_readDeed_58 : decode cX11_readDeed 58 = .ok (.iload_n 1, 1) := by decide +kernel
theorem dX11_readDeed_59 : decode cX11_readDeed 59 = .ok (.bipush 40, 2) := by decide +kernel
theorem dX11_readDeed_61 : decode cX11_readDeed 61 = .ok (.if_icmp .ne 10, 3) := by decide +kernel
theorem dX11_readDeed_64 : decode cX11_readDeed 64 = .ok (.aload_n 0, 1) := by decide +kernel
theorem dX11_readDeed_65 : decode cX11_readDeed 65 = .ok (.iconst 3, 1) := by decide +kernel
theorem dX11_readDeed_66 : decode cX11_readDeed 66 = .ok (.iload_n 2, 1) := by decide +kernel
theorem dX11_readDeed_67 : decode cX11_readDeed 67 = .ok (.invokevirtual 266, 3) := by decide +kernel
theorem dX11_readDeed_70 : decode cX11_readDeed 70 = .ok (.ireturn, 1) := by decide +kernel
theorem dX11_readDeed_71 : decode cX11_readDeed 71 = .ok (.aload_n 0, 1) := by decide +kernel
theorem dX11_readDeed_72 : decode cX11_readDeed 72 = .ok (.getfield 86, 3) := by decide +kernel
theorem dX11_readDeed_75 : decode cX11_readDeed 75 = .ok (.sipush 320, 3) := by decide +kernel
theorem dX11_readDeed_78 : decode cX11_readDeed 78 = .ok (.iload_n 1, 1) := by decide +kernel
theorem dX11_readDeed_79 : decode cX11_readDeed 79 = .ok (.iadd, 1) := by decide +kernel
theorem dX11_readDeed_80 : decode cX11_readDeed 80 = .ok (.aload_n 0, 1) := by decide +kernel
theorem dX11_readDeed_81 : decode cX11_readDeed 81 = .ok (.aload_n 0, 1) := by decide +kernel
theorem dX11_readDeed_82 : decode cX11_readDeed 82 = .ok (.getfield 40, 3) := by decide +kernel
theorem dX11_readDeed_85 : decode cX11_readDeed 85 = .ok (.iload_n 2, 1) := by decide +kernel
theorem dX11_readDeed_86 : decode cX11_readDeed 86 = .ok (.iaload, 1) := by decide +kernel
theorem dX11_readDeed_87 : decode cX11_readDeed 87 = .ok (.invokevirtual 263, 3) := by decide +kernel
theorem dX11_readDeed_90 : decode cX11_readDeed 90 = .ok (.iastore, 1) := by decide +kernel
theorem dX11_readDeed_91 : decode cX11_readDeed 91 = .ok (.iload_n 1, 1) := by decide +kernel
theorem dX11_readDeed_92 : decode cX11_readDeed 92 = .ok (.iconst 1, 1) := by decide +kernel
theorem dX11_readDeed_93 : decode cX11_readDeed 93 = .ok (.iadd, 1) := by decide +kernel
theorem dX11_readDeed_94 : decode cX11_readDeed 94 = .ok (.istore_n 1, 1) := by decide +kernel
theorem dX11_readDeed_95 : decode cX11_readDeed 95 = .ok (.iinc 2 1, 3) := by decide +kernel
theorem dX11_readDeed_98 : decode cX11_readDeed 98 = .ok (.goto (-94), 3) := by decide +kernel
theorem dX11_readDeed_101 : decode cX11_readDeed 101 = .ok (.iload_n 1, 1) := by decide +kernel
theorem dX11_readDeed_102 : decode cX11_readDeed 102 = .ok (.ifCond .ne 15, 3) := by decide +kernel
theorem dX11_readDeed_105 : decode cX11_readDeed 105 = .ok (.aload_n 0, 1) := by decide +kernel
theorem dX11_readDeed_106 : decode cX11_readDeed 106 = .ok (.iconst 4, 1) := by decide +kernel
theorem dX11_readDeed_107 : decode cX11_readDeed 107 = .ok (.aload_n 0, 1) := by decide +kernel
theorem dX11_readDeed_108 : decode cX11_readDeed 108 = .ok (.getfield 174, 3) := by decide +kernel
theorem dX11_readDeed_111 : decode cX11_readDeed 111 = .ok (.invokevirtual 266, 3) := by decide +kernel
theorem dX11_readDeed_114 : decode cX11_readDeed 114 = .ok (.goto 4, 3) := by decide +kernel
theorem dX11_readDeed_117 : decode cX11_readDeed 117 = .ok (.iload_n 1, 1) := by decide +kernel
theorem dX11_readDeed_118 : decode cX11_readDeed 118 = .ok (.ireturn, 1) := by decide +kernel
theorem dX11_takesDeed_0 : decode cX11_takesDeed 0 = .ok (.aload_n 0, 1) := by decide +kernel
theorem dX11_takesDeed_1 : decode cX11_takesDeed 1 = .ok (.getfield 80, 3) := by decide +kernel
theorem dX11_takesDeed_4 : decode cX11_takesDeed 4 = .ok (.aload_n 0, 1) := by decide +kernel
theorem dX11_takesDeed_5 : decode cX11_takesDeed 5 = .ok (.getfield 125, 3) := by decide +kernel
theorem dX11_takesDeed_8 : decode cX11_takesDeed 8 = .ok (.iload_n 1, 1) := by decide +kernel
theorem dX11_takesDeed_9 : decode cX11_takesDeed 9 = .ok (.iastore, 1) := by decide +kernel
theorem dX11_takesDeed_10 : decode cX11_takesDeed 10 = .ok (.aload_n 0, 1) := by decide +kernel
theorem dX11_takesDeed_11 : decode cX11_takesDeed 11 = .ok (.getfield 83, 3) := by decide +kernel
theorem dX11_takesDeed_14 : decode cX11_takesDeed 14 = .ok (.aload_n 0, 1) := by decide +kernel
theorem dX11_takesDeed_15 : decode cX11_takesDeed 15 = .ok (.getfield 125, 3) := by decide +kernel
theorem dX11_takesDeed_18 : decode cX11_takesDeed 18 = .ok (.iconst 0, 1) := by decide +kernel
theorem dX11_takesDeed_19 : decode cX11_takesDeed 19 = .ok (.iastore, 1) := by decide +kernel
theorem dX11_takesDeed_20 : decode cX11_takesDeed 20 = .ok (.iconst 0, 1) := by decide +kernel
theorem dX11_takesDeed_21 : decode cX11_takesDeed 21 = .ok (.istore_n 2, 1) := by decide +kernel
theorem dX11_takesDeed_22 : decode cX11_takesDeed 22 = .ok (.iload_n 2, 1) := by decide +kernel
theorem dX11_takesDeed_23 : decode cX11_takesDeed 23 = .ok (.iload_n 1, 1) := by decide +kernel
theorem dX11_takesDeed_24 : decode cX11_takesDeed 24 = .ok (.if_icmp .ge 57, 3) := by decide +kernel
theorem dX11_takesDeed_27 : decode cX11_takesDeed 27 = .ok (.aload_n 0, 1) := by decide +kernel
theorem dX11_takesDeed_28 : decode cX11_takesDeed 28 = .ok (.getfield 86, 3) := by decide +kernel
theorem dX11_takesDeed_31 : decode cX11_takesDeed 31 = .ok (.sipush 320, 3) := by decide +kernel
theorem dX11_takesDeed_34 : decode cX11_takesDeed 34 = .ok (.iload_n 2, 1) := by decide +kernel
theorem dX11_takesDeed_35 : decode cX11_takesDeed 35 = .ok (.iadd, 1) := by decide +kernel
theorem dX11_takesDeed_36 : decode cX11_takesDeed 36 = .ok (.iaload, 1) := by decide +kernel
theorem dX11_takesDeed_37 : decode cX11_takesDeed 37 = .ok (.istore_n 3, 1) := by decide +kernel
theorem dX11_takesDeed_38 : decode cX11_takesDeed 38 = .ok (.aload_n 0, 1) := by decide +kernel
theorem dX11_takesDeed_39 : decode cX11_takesDeed 39 = .ok (.getfield 86, 3) := by decide +kernel
theorem dX11_takesDeed_42 : decode cX11_takesDeed 42 = .ok (.bipush 40, 2) := by decide +kernel
theorem dX11_takesDeed_44 : decode cX11_takesDeed 44 = .ok (.aload_n 0, 1) := by decide +kernel
theorem dX11_takesDeed_45 : decode cX11_takesDeed 45 = .ok (.getfield 125, 3) := by decide +kernel
theorem dX11_takesDeed_48 : decode cX11_takesDeed 48 = .ok (.imul, 1) := by decide +kernel
theorem dX11_takesDeed_49 : decode cX11_takesDeed 49 = .ok (.iload_n 2, 1) := by decide +kernel
theorem dX11_takesDeed_50 : decode cX11_takesDeed 50 = .ok (.iadd, 1) := by decide +kernel
theorem dX11_takesDeed_51 : decode cX11_takesDeed 51 = .ok (.iload_n 3, 1) := by decide +kernel
theorem dX11_takesDeed_52 : decode cX11_takesDeed 52 = .ok (.iastore, 1) := by decide +kernel
theorem dX11_takesDeed_53 : decode cX11_takesDeed 53 = .ok (.aload_n 0, 1) := by decide +kernel
theorem dX11_takesDeed_54 : decode cX11_takesDeed 54 = .ok (.getfield 83, 3) := by decide +kernel
theorem dX11_takesDeed_57 : decode cX11_takesDeed 57 = .ok (.aload_n 0, 1) := by decide +kernel
theorem dX11_takesDeed_58 : decode cX11_takesDeed 58 = .ok (.getfield 125, 3) := by decide +kernel
theorem dX11_takesDeed_61 : decode cX11_takesDeed 61 = .ok (.aload_n 0, 1) := by decide +kernel
theorem dX11_takesDeed_62 : decode cX11_takesDeed 62 = .ok (.getfield 83, 3) := by decide +kernel
theorem dX11_takesDeed_65 : decode cX11_takesDeed 65 = .ok (.aload_n 0, 1) := by decide +kernel
theorem dX11_takesDeed_66 : decode cX11_takesDeed 66 = .ok (.getfield 125, 3) := by decide +kernel
theorem dX11_takesDeed_69 : decode cX11_takesDeed 69 = .ok (.iaload, 1) := by decide +kernel
theorem dX11_takesDeed_70 : decode cX11_takesDeed 70 = .ok (.iconst 1, 1) := by decide +kernel
theorem dX11_takesDeed_71 : decode cX11_takesDeed 71 = .ok (.iload_n 3, 1) := by decide +kernel
theorem dX11_takesDeed_72 : decode cX11_takesDeed 72 = .ok (.ishl, 1) := by decide +kernel
theorem dX11_takesDeed_73 : decode cX11_takesDeed 73 = .ok (.ior, 1) := by decide +kernel
theorem dX11_takesDeed_74 : decode cX11_takesDeed 74 = .ok (.iastore, 1) := by decide +kernel
theorem dX11_takesDeed_75 : decode cX11_takesDeed 75 = .ok (.iinc 2 1, 3) := by decide +kernel
theorem dX11_takesDeed_78 : decode cX11_takesDeed 78 = .ok (.goto (-56), 3) := by decide +kernel
theorem dX11_takesDeed_81 : decode cX11_takesDeed 81 = .ok (.aload_n 0, 1) := by decide +kernel
theorem dX11_takesDeed_82 : decode cX11_takesDeed 82 = .ok (.getfield 7, 3) := by decide +kernel
theorem dX11_takesDeed_85 : decode cX11_takesDeed 85 = .ok (.bipush 124, 2) := by decide +kernel
theorem dX11_takesDeed_87 : decode cX11_takesDeed 87 = .ok (.aload_n 0, 1) := by decide +kernel
theorem dX11_takesDeed_88 : decode cX11_takesDeed 88 = .ok (.getfield 125, 3) := by decide +kernel
theorem dX11_takesDeed_91 : decode cX11_takesDeed 91 = .ok (.iadd, 1) := by decide +kernel
theorem dX11_takesDeed_92 : decode cX11_takesDeed 92 = .ok (.iconst 0, 1) := by decide +kernel
theorem dX11_takesDeed_93 : decode cX11_takesDeed 93 = .ok (.iastore, 1) := by decide +kernel
theorem dX11_takesDeed_94 : decode cX11_takesDeed 94 = .ok (.aload_n 0, 1) := by decide +kernel
theorem dX11_takesDeed_95 : decode cX11_takesDeed 95 = .ok (.getfield 7, 3) := by decide +kernel
theorem dX11_takesDeed_98 : decode cX11_takesDeed 98 = .ok (.sipush 132, 3) := by decide +kernel
theorem dX11_takesDeed_101 : decode cX11_takesDeed 101 = .ok (.aload_n 0, 1) := by decide +kernel
theorem dX11_takesDeed_102 : decode cX11_takesDeed 102 = .ok (.getfield 125, 3) := by decide +kernel
theorem dX11_takesDeed_105 : decode cX11_takesDeed 105 = .ok (.iadd, 1) := by decide +kernel
theorem dX11_takesDeed_106 : decode cX11_takesDeed 106 = .ok (.iconst 0, 1) := by decide +kernel
theorem dX11_takesDeed_107 : decode cX11_takesDeed 107 = .ok (.iastore, 1) := by decide +kernel
theorem dX11_takesDeed_108 : decode cX11_takesDeed 108 = .ok (.aload_n 0, 1) := by decide +kernel
theorem dX11_takesDeed_109 : decode cX11_takesDeed 109 = .ok (.getfield 7, 3) := by decide +kernel
theorem dX11_takesDeed_112 : decode cX11_takesDeed 112 = .ok (.sipush 140, 3) := by decide +kernel
theorem dX11_takesDeed_115 : decode cX11_takesDeed 115 = .ok (.aload_n 0, 1) := by decide +kernel
theorem dX11_takesDeed_116 : decode cX11_takesDeed 116 = .ok (.getfield 125, 3) := by decide +kernel
theorem dX11_takesDeed_119 : decode cX11_takesDeed 119 = .ok (.iadd, 1) := by decide +kernel
theorem dX11_takesDeed_120 : decode cX11_takesDeed 120 = .ok (.iconst 0, 1) := by decide +kernel
theorem dX11_takesDeed_121 : decode cX11_takesDeed 121 = .ok (.iastore, 1) := by decide +kernel
theorem dX11_takesDeed_122 : decode cX11_takesDeed 122 = .ok (.aload_n 0, 1) := by decide +kernel
theorem dX11_takesDeed_123 : decode cX11_takesDeed 123 = .ok (.aload_n 0, 1) := by decide +kernel
theorem dX11_takesDeed_124 : decode cX11_takesDeed 124 = .ok (.getfield 125, 3) := by decide +kernel
theorem dX11_takesDeed_127 : decode cX11_takesDeed 127 = .ok (.iconst 1, 1) := by decide +kernel
theorem dX11_takesDeed_128 : decode cX11_takesDeed 128 = .ok (.iadd, 1) := by decide +kernel
theorem dX11_takesDeed_129 : decode cX11_takesDeed 129 = .ok (.putfield 125, 3) := by decide +kernel
theorem dX11_takesDeed_132 : decode cX11_takesDeed 132 = .ok (.aload_n 0, 1) := by decide +kernel
theorem dX11_takesDeed_133 : decode cX11_takesDeed 133 = .ok (.getfield 125, 3) := by decide +kernel
theorem dX11_takesDeed_136 : decode cX11_takesDeed 136 = .ok (.iconst 1, 1) := by decide +kernel
theorem dX11_takesDeed_137 : decode cX11_takesDeed 137 = .ok (.isub, 1) := by decide +kernel
theorem dX11_takesDeed_138 : decode cX11_takesDeed 138 = .ok (.ireturn, 1) := by decide +kernel
theorem dX11_readsText_0 : decode cX11_readsText 0 = .ok (.iload_n 1, 1) := by decide +kernel
theorem dX11_readsText_1 : decode cX11_readsText 1 = .ok (.iconst 2, 1) := by decide +kernel
theorem dX11_readsText_2 : decode cX11_readsText 2 = .ok (.if_icmp .ne 8, 3) := by decide +kernel
theorem dX11_readsText_5 : decode cX11_readsText 5 = .ok (.aload_n 0, 1) := by decide +kernel
theorem dX11_readsText_6 : decode cX11_readsText 6 = .ok (.invokevirtual 280, 3) := by decide +kernel
theorem dX11_readsText_9 : decode cX11_readsText 9 = .ok (.ireturn, 1) := by decide +kernel
theorem dX11_readsText_10 : decode cX11_readsText 10 = .ok (.aload_n 0, 1) := by decide +kernel
theorem dX11_readsText_11 : decode cX11_readsText 11 = .ok (.invokevirtual 223, 3) := by decide +kernel
theorem dX11_readsText_14 : decode cX11_readsText 14 = .ok (.iload_n 1, 1) := by decide +kernel
theorem dX11_readsText_15 : decode cX11_readsText 15 = .ok (.ifCond .ne 10, 3) := by decide +kernel
theorem dX11_readsText_18 : decode cX11_readsText 18 = .ok (.aload_n 0, 1) := by decide +kernel
theorem dX11_readsText_19 : decode cX11_readsText 19 = .ok (.invokevirtual 283, 3) := by decide +kernel
theorem dX11_readsText_22 : decode cX11_readsText 22 = .ok (.goto 8, 3) := by decide +kernel
theorem dX11_readsText_25 : decode cX11_readsText 25 = .ok (.aload_n 0, 1) := by decide +kernel
theorem dX11_readsText_26 : decode cX11_readsText 26 = .ok (.iload_n 2, 1) := by decide +kernel
theorem dX11_readsText_27 : decode cX11_readsText 27 = .ok (.invokevirtual 286, 3) := by decide +kernel
theorem dX11_readsText_30 : decode cX11_readsText 30 = .ok (.ireturn, 1) := by decide +kernel
theorem dX11_canText_0 : decode cX11_canText 0 = .ok (.iload_n 1, 1) := by decide +kernel
theorem dX11_canText_1 : decode cX11_canText 1 = .ok (.ifCond .eq 38, 3) := by decide +kernel
theorem dX11_canText_4 : decode cX11_canText 4 = .ok (.iload_n 1, 1) := by decide +kernel
theorem dX11_canText_5 : decode cX11_canText 5 = .ok (.iconst 1, 1) := by decide +kernel
theorem dX11_canText_6 : decode cX11_canText 6 = .ok (.if_icmp .ne 19, 3) := by decide +kernel
theorem dX11_canText_9 : decode cX11_canText 9 = .ok (.aload_n 0, 1) := by decide +kernel
theorem dX11_canText_10 : decode cX11_canText 10 = .ok (.iload_n 2, 1) := by decide +kernel
theorem dX11_canText_11 : decode cX11_canText 11 = .ok (.invokevirtual 128, 3) := by decide +kernel
theorem dX11_canText_14 : decode cX11_canText 14 = .ok (.ifCond .eq 11, 3) := by decide +kernel
theorem dX11_canText_17 : decode cX11_canText 17 = .ok (.aload_n 0, 1) := by decide +kernel
theorem dX11_canText_18 : decode cX11_canText 18 = .ok (.iload_n 2, 1) := by decide +kernel
theorem dX11_canText_19 : decode cX11_canText 19 = .ok (.invokevirtual 132, 3) := by decide +kernel
theorem dX11_canText_22 : decode cX11_canText 22 = .ok (.ifCond .ne 17, 3) := by decide +kernel
theorem dX11_canText_25 : decode cX11_canText 25 = .ok (.iload_n 1, 1) := by decide +kernel
theorem dX11_canText_26 : decode cX11_canText 26 = .ok (.iconst 2, 1) := by decide +kernel
theorem dX11_canText_27 : decode cX11_canText 27 = .ok (.if_icmp .ne 16, 3) := by decide +kernel
theorem dX11_canText_30 : decode cX11_canText 30 = .ok (.aload_n 0, 1) := by decide +kernel
theorem dX11_canText_31 : decode cX11_canText 31 = .ok (.getfield 125, 3) := by decide +kernel
theorem dX11_canText_34 : decode cX11_canText 34 = .ok (.bipush 8, 2) := by decide +kernel
theorem dX11_canText_36 : decode cX11_canText 36 = .ok (.if_icmp .ge 7, 3) := by decide +kernel
theorem dX11_canText_39 : decode cX11_canText 39 = .ok (.iconst 1, 1) := by decide +kernel
theorem dX11_canText_40 : decode cX11_canText 40 = .ok (.goto 4, 3) := by decide +kernel
theorem dX11_canText_43 : decode cX11_canText 43 = .ok (.iconst 0, 1) := by decide +kernel
theorem dX11_canText_44 : decode cX11_canText 44 = .ok (.ireturn, 1) := by decide +kernel
theorem dX11_text_0 : decode cX11_text 0 = .ok (.aload_n 0, 1) := by decide +kernel
theorem dX11_text_1 : decode cX11_text 1 = .ok (.iconst 0, 1) := by decide +kernel
theorem dX11_text_2 : decode cX11_text 2 = .ok (.putfield 107, 3) := by decide +kernel
theorem dX11_text_5 : decode cX11_text 5 = .ok (.aload_n 0, 1) := by decide +kernel
theorem dX11_text_6 : decode cX11_text 6 = .ok (.iconst 0, 1) := by decide +kernel
theorem dX11_text_7 : decode cX11_text 7 = .ok (.putfield 289, 3) := by decide +kernel
theorem dX11_text_10 : decode cX11_text 10 = .ok (.aload_n 0, 1) := by decide +kernel
theorem dX11_text_11 : decode cX11_text 11 = .ok (.iconst (-1), 1) := by decide +kernel
theorem dX11_text_12 : decode cX11_text 12 = .ok (.putfield 64, 3) := by decide +kernel
theorem dX11_text_15 : decode cX11_text 15 = .ok (.aload_n 0, 1) := by decide +kernel
theorem dX11_text_16 : decode cX11_text 16 = .ok (.iconst 0, 1) := by decide +kernel
theorem dX11_text_17 : decode cX11_text 17 = .ok (.putfield 180, 3) := by decide +kernel
theorem dX11_text_20 : decode cX11_text 20 = .ok (.aload_n 0, 1) := by decide +kernel
theorem dX11_text_21 : decode cX11_text 21 = .ok (.iconst 0, 1) := by decide +kernel
theorem dX11_text_22 : decode cX11_text 22 = .ok (.putfield 214, 3) := by decide +kernel
theorem dX11_text_25 : decode cX11_text 25 = .ok (.aload_n 0, 1) := by decide +kernel
theorem dX11_text_26 : decode cX11_text 26 = .ok (.iconst 0, 1) := by decide +kernel
theorem dX11_text_27 : decode cX11_text 27 = .ok (.putfield 242, 3) := by decide +kernel
theorem dX11_text_30 : decode cX11_text 30 = .ok (.iconst (-1), 1) := by decide +kernel
theorem dX11_text_31 : decode cX11_text 31 = .ok (.istore_n 3, 1) := by decide +kernel
theorem dX11_text_32 : decode cX11_text 32 = .ok (.aload_n 0, 1) := by decide +kernel
theorem dX11_text_33 : decode cX11_text 33 = .ok (.iload_n 1, 1) := by decide +kernel
theorem dX11_text_34 : decode cX11_text 34 = .ok (.iload_n 2, 1) := by decide +kernel
theorem dX11_text_35 : decode cX11_text 35 = .ok (.invokevirtual 292, 3) := by decide +kernel
theorem dX11_text_38 : decode cX11_text 38 = .ok (.ifCond .eq 31, 3) := by decide +kernel
theorem dX11_text_41 : decode cX11_text 41 = .ok (.aload_n 0, 1) := by decide +kernel
theorem dX11_text_42 : decode cX11_text 42 = .ok (.iload_n 1, 1) := by decide +kernel
theorem dX11_text_43 : decode cX11_text 43 = .ok (.iload_n 2, 1) := by decide +kernel
theorem dX11_text_44 : decode cX11_text 44 = .ok (.invokevirtual 296, 3) := by decide +kernel
theorem dX11_text_47 : decode cX11_text 47 = .ok (.istore_n 3, 1) := by decide +kernel
theorem dX11_text_48 : decode cX11_text 48 = .ok (.iload_n 3, 1) := by decide +kernel
theorem dX11_text_49 : decode cX11_text 49 = .ok (.iconst (-1), 1) := by decide +kernel
theorem dX11_text_50 : decode cX11_text 50 = .ok (.if_icmp .ne 19, 3) := by decide +kernel
theorem dX11_text_53 : decode cX11_text 53 = .ok (.aload_n 0, 1) := by decide +kernel
theorem dX11_text_54 : decode cX11_text 54 = .ok (.aload_n 0, 1) := by decide +kernel
theorem dX11_text_55 : decode cX11_text 55 = .ok (.getfield 208, 3) := by decide +kernel
theorem dX11_text_58 : decode cX11_text 58 = .ok (.putfield 289, 3) := by decide +kernel
theorem dX11_text_61 : decode cX11_text 61 = .ok (.aload_n 0, 1) := by decide +kernel
theorem dX11_text_62 : decode cX11_text 62 = .ok (.aload_n 0, 1) := by decide +kernel
theorem dX11_text_63 : decode cX11_text 63 = .ok (.getfield 211, 3) := by decide +kernel
theorem dX11_text_66 : decode cX11_text 66 = .ok (.putfield 64, 3) := by decide +kernel
theorem dX11_text_69 : decode cX11_text 69 = .ok (.aload_n 0, 1) := by decide +kernel
theorem dX11_text_70 : decode cX11_text 70 = .ok (.iconst 0, 1) := by decide +kernel
theorem dX11_text_71 : decode cX11_text 71 = .ok (.putfield 174, 3) := by decide +kernel
theorem dX11_text_74 : decode cX11_text 74 = .ok (.iload_n 3, 1) := by decide +kernel
theorem dX11_text_75 : decode cX11_text 75 = .ok (.iconst (-1), 1) := by decide +kernel
theorem dX11_text_76 : decode cX11_text 76 = .ok (.if_icmp .ne 5, 3) := by decide +kernel
theorem dX11_text_79 : decode cX11_text 79 = .ok (.iconst (-1), 1) := by decide +kernel
theorem dX11_text_80 : decode cX11_text 80 = .ok (.ireturn, 1) := by decide +kernel
theorem dX11_text_81 : decode cX11_text 81 = .ok (.iload_n 1, 1) := by decide +kernel
theorem dX11_text_82 : decode cX11_text 82 = .ok (.iconst 2, 1) := by decide +kernel
theorem dX11_text_83 : decode cX11_text 83 = .ok (.if_icmp .ne 9, 3) := by decide +kernel
theorem dX11_text_86 : decode cX11_text 86 = .ok (.aload_n 0, 1) := by decide +kernel
theorem dX11_text_87 : decode cX11_text 87 = .ok (.iload_n 3, 1) := by decide +kernel
theorem dX11_text_88 : decode cX11_text 88 = .ok (.invokevirtual 299, 3) := by decide +kernel
theorem dX11_text_91 : decode cX11_text 91 = .ok (.ireturn, 1) := by decide +kernel
theorem dX11_text_92 : decode cX11_text 92 = .ok (.iload_n 1, 1) := by decide +kernel
theorem dX11_text_93 : decode cX11_text 93 = .ok (.ifCond .ne 11, 3) := by decide +kernel
theorem dX11_text_96 : decode cX11_text 96 = .ok (.aload_n 0, 1) := by decide +kernel
theorem dX11_text_97 : decode cX11_text 97 = .ok (.iload_n 3, 1) := by decide +kernel
theorem dX11_text_98 : decode cX11_text 98 = .ok (.invokevirtual 302, 3) := by decide +kernel
theorem dX11_text_101 : decode cX11_text 101 = .ok (.goto 9, 3) := by decide +kernel
theorem dX11_text_104 : decode cX11_text 104 = .ok (.aload_n 0, 1) := by decide +kernel
theorem dX11_text_105 : decode cX11_text 105 = .ok (.iload_n 2, 1) := by decide +kernel
theorem dX11_text_106 : decode cX11_text 106 = .ok (.iload_n 3, 1) := by decide +kernel
theorem dX11_text_107 : decode cX11_text 107 = .ok (.invokevirtual 305, 3) := by decide +kernel
theorem dX11_text_110 : decode cX11_text 110 = .ok (.iload_n 3, 1) := by decide +kernel
theorem dX11_text_111 : decode cX11_text 111 = .ok (.ireturn, 1) := by decide +kernel
theorem dX11_fault_0 : decode cX11_fault 0 = .ok (.aload_n 0, 1) := by decide +kernel
theorem dX11_fault_1 : decode cX11_fault 1 = .ok (.iconst 0, 1) := by decide +kernel
theorem dX11_fault_2 : decode cX11_fault 2 = .ok (.putfield 107, 3) := by decide +kernel
theorem dX11_fault_5 : decode cX11_fault 5 = .ok (.iload_n 1, 1) := by decide +kernel
theorem dX11_fault_6 : decode cX11_fault 6 = .ok (.ifCond .ne 10, 3) := by decide +kernel
theorem dX11_fault_9 : decode cX11_fault 9 = .ok (.aload_n 0, 1) := by decide +kernel
theorem dX11_fault_10 : decode cX11_fault 10 = .ok (.getfield 289, 3) := by decide +kernel
theorem dX11_fault_13 : decode cX11_fault 13 = .ok (.goto 16, 3) := by decide +kernel
theorem dX11_fault_16 : decode cX11_fault 16 = .ok (.iload_n 1, 1) := by decide +kernel
theorem dX11_fault_17 : decode cX11_fault 17 = .ok (.iconst 1, 1) := by decide +kernel
theorem dX11_fault_18 : decode cX11_fault 18 = .ok (.if_icmp .ne 10, 3) := by decide +kernel
theorem dX11_fault_21 : decode cX11_fault 21 = .ok (.aload_n 0, 1) := by decide +kernel
theorem dX11_fault_22 : decode cX11_fault 22 = .ok (.getfield 64, 3) := by decide +kernel
theorem dX11_fault_25 : decode cX11_fault 25 = .ok (.goto 4, 3) := by decide +kernel
theorem dX11_fault_28 : decode cX11_fault 28 = .ok (.iconst (-1), 1) := by decide +kernel
theorem dX11_fault_29 : decode cX11_fault 29 = .ok (.ireturn, 1) := by decide +kernel
theorem dX11_twoOf_0 : decode cX11_twoOf 0 = .ok (.iload_n 1, 1) := by decide +kernel
theorem dX11_twoOf_1 : decode cX11_twoOf 1 = .ok (.iconst 2, 1) := by decide +kernel
theorem dX11_twoOf_2 : decode cX11_twoOf 2 = .ok (.if_icmp .ne 7, 3) := by decide +kernel
theorem dX11_twoOf_5 : decode cX11_twoOf 5 = .ok (.iload_n 2, 1) := by decide +kernel
theorem dX11_twoOf_6 : decode cX11_twoOf 6 = .ok (.iload_n 3, 1) := by decide +kernel
theorem dX11_twoOf_7 : decode cX11_twoOf 7 = .ok (.iadd, 1) := by decide +kernel
theorem dX11_twoOf_8 : decode cX11_twoOf 8 = .ok (.ireturn, 1) := by decide +kernel
theorem dX11_twoOf_9 : decode cX11_twoOf 9 = .ok (.iload_n 1, 1) := by decide +kernel
theorem dX11_twoOf_10 : decode cX11_twoOf 10 = .ok (.iconst 3, 1) := by decide +kernel
theorem dX11_twoOf_11 : decode cX11_twoOf 11 = .ok (.if_icmp .ne 7, 3) := by decide +kernel
theorem dX11_twoOf_14 : decode cX11_twoOf 14 = .ok (.iload_n 2, 1) := by decide +kernel
theorem dX11_twoOf_15 : decode cX11_twoOf 15 = .ok (.iload_n 3, 1) := by decide +kernel
theorem dX11_twoOf_16 : decode cX11_twoOf 16 = .ok (.isub, 1) := by decide +kernel
theorem dX11_twoOf_17 : decode cX11_twoOf 17 = .ok (.ireturn, 1) := by decide +kernel
theorem dX11_twoOf_18 : decode cX11_twoOf 18 = .ok (.iload_n 1, 1) := by decide +kernel
theorem dX11_twoOf_19 : decode cX11_twoOf 19 = .ok (.iconst 4, 1) := by decide +kernel
theorem dX11_twoOf_20 : decode cX11_twoOf 20 = .ok (.if_icmp .ne 7, 3) := by decide +kernel
theorem dX11_twoOf_23 : decode cX11_twoOf 23 = .ok (.iload_n 2, 1) := by decide +kernel
theorem dX11_twoOf_24 : decode cX11_twoOf 24 = .ok (.iload_n 3, 1) := by decide +kernel
theorem dX11_twoOf_25 : decode cX11_twoOf 25 = .ok (.imul, 1) := by decide +kernel
theorem dX11_twoOf_26 : decode cX11_twoOf 26 = .ok (.ireturn, 1) := by decide +kernel
theorem dX11_twoOf_27 : decode cX11_twoOf 27 = .ok (.iload_n 1, 1) := by decide +kernel
theorem dX11_twoOf_28 : decode cX11_twoOf 28 = .ok (.iconst 5, 1) := by decide +kernel
theorem dX11_twoOf_29 : decode cX11_twoOf 29 = .ok (.if_icmp .ne 7, 3) := by decide +kernel
theorem dX11_twoOf_32 : decode cX11_twoOf 32 = .ok (.iload_n 2, 1) := by decide +kernel
theorem dX11_twoOf_33 : decode cX11_twoOf 33 = .ok (.iload_n 3, 1) := by decide +kernel
theorem dX11_twoOf_34 : decode cX11_twoOf 34 = .ok (.idiv, 1) := by decide +kernel
theorem dX11_twoOf_35 : decode cX11_twoOf 35 = .ok (.ireturn, 1) := by decide +kernel
theorem dX11_twoOf_36 : decode cX11_twoOf 36 = .ok (.iload_n 1, 1) := by decide +kernel
theorem dX11_twoOf_37 : decode cX11_twoOf 37 = .ok (.bipush 6, 2) := by decide +kernel
theorem dX11_twoOf_39 : decode cX11_twoOf 39 = .ok (.if_icmp .ne 14, 3) := by decide +kernel
theorem dX11_twoOf_42 : decode cX11_twoOf 42 = .ok (.iload_n 2, 1) := by decide +kernel
theorem dX11_twoOf_43 : decode cX11_twoOf 43 = .ok (.iload_n 3, 1) := by decide +kernel
theorem dX11_twoOf_44 : decode cX11_twoOf 44 = .ok (.if_icmp .ge 7, 3) := by decide +kernel
theorem dX11_twoOf_47 : decode cX11_twoOf 47 = .ok (.iconst 1, 1) := by decide +kernel
theorem dX11_twoOf_48 : decode cX11_twoOf 48 = .ok (.goto 4, 3) := by decide +kernel
theorem dX11_twoOf_51 : decode cX11_twoOf 51 = .ok (.iconst 0, 1) := by decide +kernel
theorem dX11_twoOf_52 : decode cX11_twoOf 52 = .ok (.ireturn, 1) := by decide +kernel
theorem dX11_twoOf_53 : decode cX11_twoOf 53 = .ok (.iload_n 1, 1) := by decide +kernel
theorem dX11_twoOf_54 : decode cX11_twoOf 54 = .ok (.bipush 7, 2) := by decide +kernel
theorem dX11_twoOf_56 : decode cX11_twoOf 56 = .ok (.if_icmp .ne 14, 3) := by decide +kernel
theorem dX11_twoOf_59 : decode cX11_twoOf 59 = .ok (.iload_n 2, 1) := by decide +kernel
theorem dX11_twoOf_60 : decode cX11_twoOf 60 = .ok (.iload_n 3, 1) := by decide +kernel
theorem dX11_twoOf_61 : decode cX11_twoOf 61 = .ok (.if_icmp .ne 7, 3) := by decide +kernel
theorem dX11_twoOf_64 : decode cX11_twoOf 64 = .ok (.iconst 1, 1) := by decide +kernel
theorem dX11_twoOf_65 : decode cX11_twoOf 65 = .ok (.goto 4, 3) := by decide +kernel
theorem dX11_twoOf_68 : decode cX11_twoOf 68 = .ok (.iconst 0, 1) := by decide +kernel
theorem dX11_twoOf_69 : decode cX11_twoOf 69 = .ok (.ireturn, 1) := by decide +kernel
theorem dX11_twoOf_70 : decode cX11_twoOf 70 = .ok (.iload_n 1, 1) := by decide +kernel
theorem dX11_twoOf_71 : decode cX11_twoOf 71 = .ok (.bipush 8, 2) := by decide +kernel
theorem dX11_twoOf_73 : decode cX11_twoOf 73 = .ok (.if_icmp .ne 14, 3) := by decide +kernel
theorem dX11_twoOf_76 : decode cX11_twoOf 76 = .ok (.iload_n 2, 1) := by decide +kernel
theorem dX11_twoOf_77 : decode cX11_twoOf 77 = .ok (.iload_n 3, 1) := by decide +kernel
theorem dX11_twoOf_78 : decode cX11_twoOf 78 = .ok (.if_icmp .le 7, 3) := by decide +kernel
theorem dX11_twoOf_81 : decode cX11_twoOf 81 = .ok (.iconst 1, 1) := by decide +kernel
theorem dX11_twoOf_82 : decode cX11_twoOf 82 = .ok (.goto 4, 3) := by decide +kernel
theorem dX11_twoOf_85 : decode cX11_twoOf 85 = .ok (.iconst 0, 1) := by decide +kernel
theorem dX11_twoOf_86 : decode cX11_twoOf 86 = .ok (.ireturn, 1) := by decide +kernel
theorem dX11_twoOf_87 : decode cX11_twoOf 87 = .ok (.iload_n 1, 1) := by decide +kernel
theorem dX11_twoOf_88 : decode cX11_twoOf 88 = .ok (.bipush 10, 2) := by decide +kernel
theorem dX11_twoOf_90 : decode cX11_twoOf 90 = .ok (.if_icmp .ne 9, 3) := by decide +kernel
theorem dX11_twoOf_93 : decode cX11_twoOf 93 = .ok (.iload_n 2, 1) := by decide +kernel
theorem dX11_twoOf_94 : decode cX11_twoOf 94 = .ok (.iload_n 3, 1) := by decide +kernel
theorem dX11_twoOf_95 : decode cX11_twoOf 95 = .ok (.imul, 1) := by decide +kernel
theorem dX11_twoOf_96 : decode cX11_twoOf 96 = .ok (.goto 14, 3) := by decide +kernel
theorem dX11_twoOf_99 : decode cX11_twoOf 99 = .ok (.iload_n 2, 1) := by decide +kernel
theorem dX11_twoOf_100 : decode cX11_twoOf 100 = .ok (.iload_n 3, 1) := by decide +kernel
theorem dX11_twoOf_101 : decode cX11_twoOf 101 = .ok (.iadd, 1) := by decide +kernel
theorem dX11_twoOf_102 : decode cX11_twoOf 102 = .ok (.ifCond .le 7, 3) := by decide +kernel
theorem dX11_twoOf_105 : decode cX11_twoOf 105 = .ok (.iconst 1, 1) := by decide +kernel
theorem dX11_twoOf_106 : decode cX11_twoOf 106 = .ok (.goto 4, 3) := by decide +kernel
theorem dX11_twoOf_109 : decode cX11_twoOf 109 = .ok (.iconst 0, 1) := by decide +kernel
theorem dX11_twoOf_110 : decode cX11_twoOf 110 = .ok (.ireturn, 1) := by decide +kernel
theorem dX11_runs_0 : decode cX11_runs 0 = .ok (.iconst 0, 1) := by decide +kernel
theorem dX11_runs_1 : decode cX11_runs 1 = .ok (.istore_n 3, 1) := by decide +kernel
theorem dX11_runs_2 : decode cX11_runs 2 = .ok (.iload_n 1, 1) := by decide +kernel
theorem dX11_runs_3 : decode cX11_runs 3 = .ok (.istore 4, 2) := by decide +kernel
theorem dX11_runs_5 : decode cX11_runs 5 = .ok (.iload 4, 2) := by decide +kernel
theorem dX11_runs_7 : decode cX11_runs 7 = .ok (.iload_n 2, 1) := by decide +kernel
theorem dX11_runs_8 : decode cX11_runs 8 = .ok (.if_icmp .ge 145, 3) := by decide +kernel
theorem dX11_runs_11 : decode cX11_runs 11 = .ok (.aload_n 0, 1) := by decide +kernel
theorem dX11_runs_12 : decode cX11_runs 12 = .ok (.getfield 55, 3) := by decide +kernel
theorem dX11_runs_15 : decode cX11_runs 15 = .ok (.iload 4, 2) := by decide +kernel
theorem dX11_runs_17 : decode cX11_runs 17 = .ok (.iaload, 1) := by decide +kernel
theorem dX11_runs_18 : decode cX11_runs 18 = .ok (.ifCond .eq 14, 3) := by decide +kernel
theorem dX11_runs_21 : decode cX11_runs 21 = .ok (.aload_n 0, 1) := by decide +kernel
theorem dX11_runs_22 : decode cX11_runs 22 = .ok (.getfield 55, 3) := by decide +kernel
theorem dX11_runs_25 : decode cX11_runs 25 = .ok (.iload 4, 2) := by decide +kernel
theorem dX11_runs_27 : decode cX11_runs 27 = .ok (.iaload, 1) := by decide +kernel
theorem dX11_runs_28 : decode cX11_runs 28 = .ok (.iconst 1, 1) := by decide +kernel
theorem dX11_runs_29 : decode cX11_runs 29 = .ok (.if_icmp .ne 48, 3) := by decide +kernel
theorem dX11_runs_32 : decode cX11_runs 32 = .ok (.aload_n 0, 1) := by decide +kernel
theorem dX11_runs_33 : decode cX11_runs 33 = .ok (.getfield 92, 3) := by decide +kernel
theorem dX11_runs_36 : decode cX11_runs 36 = .ok (.iload_n 3, 1) := by decide +kernel
theorem dX11_runs_37 : decode cX11_runs 37 = .ok (.aload_n 0, 1) := by decide +kernel
theorem dX11_runs_38 : decode cX11_runs 38 = .ok (.getfield 55, 3) := by decide +kernel
theorem dX11_runs_41 : decode cX11_runs 41 = .ok (.iload 4, 2) := by decide +kernel
theorem dX11_runs_43 : decode cX11_runs 43 = .ok (.iaload, 1) := by decide +kernel
theorem dX11_runs_44 : decode cX11_runs 44 = .ok (.ifCond .ne 13, 3) := by decide +kernel
theorem dX11_runs_47 : decode cX11_runs 47 = .ok (.aload_n 0, 1) := by decide +kernel
theorem dX11_runs_48 : decode cX11_runs 48 = .ok (.getfield 58, 3) := by decide +kernel
theorem dX11_runs_51 : decode cX11_runs 51 = .ok (.iload 4, 2) := by decide +kernel
theorem dX11_runs_53 : decode cX11_runs 53 = .ok (.iaload, 1) := by decide +kernel
theorem dX11_runs_54 : decode cX11_runs 54 = .ok (.goto 15, 3) := by decide +kernel
theorem dX11_runs_57 : decode cX11_runs 57 = .ok (.aload_n 0, 1) := by decide +kernel
theorem dX11_runs_58 : decode cX11_runs 58 = .ok (.getfield 89, 3) := by decide +kernel
theorem dX11_runs_61 : decode cX11_runs 61 = .ok (.aload_n 0, 1) := by decide +kernel
theorem dX11_runs_62 : decode cX11_runs 62 = .ok (.getfield 58, 3) := by decide +kernel
theorem dX11_runs_65 : decode cX11_runs 65 = .ok (.iload 4, 2) := by decide +kernel
theorem dX11_runs_67 : decode cX11_runs 67 = .ok (.iaload, 1) := by decide +kernel
theorem dX11_runs_68 : decode cX11_runs 68 = .ok (.iaload, 1) := by decide +kernel
theorem dX11_runs_69 : decode cX11_runs 69 = .ok (.iastore, 1) := by decide +kernel
theorem dX11_runs_70 : decode cX11_runs 70 = .ok (.iload_n 3, 1) := by decide +kernel
theorem dX11_runs_71 : decode cX11_runs 71 = .ok (.iconst 1, 1) := by decide +kernel
theorem dX11_runs_72 : decode cX11_runs 72 = .ok (.iadd, 1) := by decide +kernel
theorem dX11_runs_73 : decode cX11_runs 73 = .ok (.istore_n 3, 1) := by decide +kernel
theorem dX11_runs_74 : decode cX11_runs 74 = .ok (.goto 73, 3) := by decide +kernel
theorem dX11_runs_77 : decode cX11_runs 77 = .ok (.aload_n 0, 1) := by decide +kernel
theorem dX11_runs_78 : decode cX11_runs 78 = .ok (.getfield 55, 3) := by decide +kernel
theorem dX11_runs_81 : decode cX11_runs 81 = .ok (.iload 4, 2) := by decide +kernel
theorem dX11_runs_83 : decode cX11_runs 83 = .ok (.iaload, 1) := by decide +kernel
theorem dX11_runs_84 : decode cX11_runs 84 = .ok (.bipush 9, 2) := by decide +kernel
theorem dX11_runs_86 : decode cX11_runs 86 = .ok (.if_icmp .ne 24, 3) := by decide +kernel
theorem dX11_runs_89 : decode cX11_runs 89 = .ok (.aload_n 0, 1) := by decide +kernel
theorem dX11_runs_90 : decode cX11_runs 90 = .ok (.getfield 92, 3) := by decide +kernel
theorem dX11_runs_93 : decode cX11_runs 93 = .ok (.iload_n 3, 1) := by decide +kernel
theorem dX11_runs_94 : decode cX11_runs 94 = .ok (.iconst 1, 1) := by decide +kernel
theorem dX11_runs_95 : decode cX11_runs 95 = .ok (.isub, 1) := by decide +kernel
theorem dX11_runs_96 : decode cX11_runs 96 = .ok (.iconst 1, 1) := by decide +kernel
theorem dX11_runs_97 : decode cX11_runs 97 = .ok (.aload_n 0, 1) := by decide +kernel
theorem dX11_runs_98 : decode cX11_runs 98 = .ok (.getfield 92, 3) := by decide +kernel
theorem dX11_runs_101 : decode cX11_runs 101 = .ok (.iload_n 3, 1) := by decide +kernel
theorem dX11_runs_102 : decode cX11_runs 102 = .ok (.iconst 1, 1) := by decide +kernel
theorem dX11_runs_103 : decode cX11_runs 103 = .ok (.isub, 1) := by decide +kernel
theorem dX11_runs_104 : decode cX11_runs 104 = .ok (.iaload, 1) := by decide +kernel
theorem dX11_runs_105 : decode cX11_runs 105 = .ok (.isub, 1) := by decide +kernel
theorem dX11_runs_106 : decode cX11_runs 106 = .ok (.iastore, 1) := by decide +kernel
theorem dX11_runs_107 : decode cX11_runs 107 = .ok (.goto 40, 3) := by decide +kernel
theorem dX11_runs_110 : decode cX11_runs 110 = .ok (.iload_n 3, 1) := by decide +kernel
theorem dX11_runs_111 : decode cX11_runs 111 = .ok (.iconst 1, 1) := by decide +kernel
theorem dX11_runs_112 : decode cX11_runs 112 = .ok (.isub, 1) := by decide +kernel
theorem dX11_runs_113 : decode cX11_runs 113 = .ok (.istore_n 3, 1) := by decide +kernel
theorem dX11_runs_114 : decode cX11_runs 114 = .ok (.aload_n 0, 1) := by decide +kernel
theorem dX11_runs_115 : decode cX11_runs 115 = .ok (.getfield 92, 3) := by decide +kernel
theorem dX11_runs_118 : decode cX11_runs 118 = .ok (.iload_n 3, 1) := by decide +kernel
theorem dX11_runs_119 : decode cX11_runs 119 = .ok (.iconst 1, 1) := by decide +kernel
theorem dX11_runs_120 : decode cX11_runs 120 = .ok (.isub, 1) := by decide +kernel
theorem dX11_runs_121 : decode cX11_runs 121 = .ok (.aload_n 0, 1) := by decide +kernel
theorem dX11_runs_122 : decode cX11_runs 122 = .ok (.aload_n 0, 1) := by decide +kernel
theorem dX11_runs_123 : decode cX11_runs 123 = .ok (.getfield 55, 3) := by decide +kernel
theorem dX11_runs_126 : decode cX11_runs 126 = .ok (.iload 4, 2) := by decide +kernel
theorem dX11_runs_128 : decode cX11_runs 128 = .ok (.iaload, 1) := by decide +kernel
theorem dX11_runs_129 : decode cX11_runs 129 = .ok (.aload_n 0, 1) := by decide +kernel
theorem dX11_runs_130 : decode cX11_runs 130 = .ok (.getfield 92, 3) := by decide +kernel
theorem dX11_runs_133 : decode cX11_runs 133 = .ok (.iload_n 3, 1) := by decide +kernel
theorem dX11_runs_134 : decode cX11_runs 134 = .ok (.iconst 1, 1) := by decide +kernel
theorem dX11_runs_135 : decode cX11_runs 135 = .ok (.isub, 1) := by decide +kernel
theorem dX11_runs_136 : decode cX11_runs 136 = .ok (.iaload, 1) := by decide +kernel
theorem dX11_runs_137 : decode cX11_runs 137 = .ok (.aload_n 0, 1) := by decide +kernel
theorem dX11_runs_138 : decode cX11_runs 138 = .ok (.getfield 92, 3) := by decide +kernel
theorem dX11_runs_141 : decode cX11_runs 141 = .ok (.iload_n 3, 1) := by decide +kernel
theorem dX11_runs_142 : decode cX11_runs 142 = .ok (.iaload, 1) := by decide +kernel
theorem dX11_runs_143 : decode cX11_runs 143 = .ok (.invokevirtual 308, 3) := by decide +kernel
theorem dX11_runs_146 : decode cX11_runs 146 = .ok (.iastore, 1) := by decide +kernel
theorem dX11_runs_147 : decode cX11_runs 147 = .ok (.iinc 4 1, 3) := by decide +kernel
theorem dX11_runs_150 : decode cX11_runs 150 = .ok (.goto (-145), 3) := by decide +kernel
theorem dX11_runs_153 : decode cX11_runs 153 = .ok (.aload_n 0, 1) := by decide +kernel
theorem dX11_runs_154 : decode cX11_runs 154 = .ok (.getfield 92, 3) := by decide +kernel
theorem dX11_runs_157 : decode cX11_runs 157 = .ok (.iconst 0, 1) := by decide +kernel
theorem dX11_runs_158 : decode cX11_runs 158 = .ok (.iaload, 1) := by decide +kernel
theorem dX11_runs_159 : decode cX11_runs 159 = .ok (.ireturn, 1) := by decide +kernel
theorem dX11_isSo_0 : decode cX11_isSo 0 = .ok (.aload_n 0, 1) := by decide +kernel
theorem dX11_isSo_1 : decode cX11_isSo 1 = .ok (.getfield 46, 3) := by decide +kernel
theorem dX11_isSo_4 : decode cX11_isSo 4 = .ok (.iload_n 1, 1) := by decide +kernel
theorem dX11_isSo_5 : decode cX11_isSo 5 = .ok (.iaload, 1) := by decide +kernel
theorem dX11_isSo_6 : decode cX11_isSo 6 = .ok (.aload_n 0, 1) := by decide +kernel
theorem dX11_isSo_7 : decode cX11_isSo 7 = .ok (.getfield 52, 3) := by decide +kernel
theorem dX11_isSo_10 : decode cX11_isSo 10 = .ok (.iload_n 1, 1) := by decide +kernel
theorem dX11_isSo_11 : decode cX11_isSo 11 = .ok (.iaload, 1) := by decide +kernel
theorem dX11_isSo_12 : decode cX11_isSo 12 = .ok (.if_icmp .eq 22, 3) := by decide +kernel
theorem dX11_isSo_15 : decode cX11_isSo 15 = .ok (.aload_n 0, 1) := by decide +kernel
theorem dX11_isSo_16 : decode cX11_isSo 16 = .ok (.aload_n 0, 1) := by decide +kernel
theorem dX11_isSo_17 : decode cX11_isSo 17 = .ok (.getfield 46, 3) := by decide +kernel
theorem dX11_isSo_20 : decode cX11_isSo 20 = .ok (.iload_n 1, 1) := by decide +kernel
theorem dX11_isSo_21 : decode cX11_isSo 21 = .ok (.iaload, 1) := by decide +kernel
theorem dX11_isSo_22 : decode cX11_isSo 22 = .ok (.aload_n 0, 1) := by decide +kernel
theorem dX11_isSo_23 : decode cX11_isSo 23 = .ok (.getfield 52, 3) := by decide +kernel
theorem dX11_isSo_26 : decode cX11_isSo 26 = .ok (.iload_n 1, 1) := by decide +kernel
theorem dX11_isSo_27 : decode cX11_isSo 27 = .ok (.iaload, 1) := by decide +kernel
theorem dX11_isSo_28 : decode cX11_isSo 28 = .ok (.invokevirtual 312, 3) := by decide +kernel
theorem dX11_isSo_31 : decode cX11_isSo 31 = .ok (.ifCond .eq 7, 3) := by decide +kernel
theorem dX11_isSo_34 : decode cX11_isSo 34 = .ok (.iconst 1, 1) := by decide +kernel
theorem dX11_isSo_35 : decode cX11_isSo 35 = .ok (.goto 4, 3) := by decide +kernel
theorem dX11_isSo_38 : decode cX11_isSo 38 = .ok (.iconst 0, 1) := by decide +kernel
theorem dX11_isSo_39 : decode cX11_isSo 39 = .ok (.ireturn, 1) := by decide +kernel
theorem dX11_canWrite_0 : decode cX11_canWrite 0 = .ok (.aload_n 0, 1) := by decide +kernel
theorem dX11_canWrite_1 : decode cX11_canWrite 1 = .ok (.iload_n 1, 1) := by decide +kernel
theorem dX11_canWrite_2 : decode cX11_canWrite 2 = .ok (.invokevirtual 132, 3) := by decide +kernel
theorem dX11_canWrite_5 : decode cX11_canWrite 5 = .ok (.ifCond .ne 5, 3) := by decide +kernel
theorem dX11_canWrite_8 : decode cX11_canWrite 8 = .ok (.iconst 0, 1) := by decide +kernel
theorem dX11_canWrite_9 : decode cX11_canWrite 9 = .ok (.ireturn, 1) := by decide +kernel
theorem dX11_canWrite_10 : decode cX11_canWrite 10 = .ok (.aload_n 0, 1) := by decide +kernel
theorem dX11_canWrite_11 : decode cX11_canWrite 11 = .ok (.iload_n 2, 1) := by decide +kernel
theorem dX11_canWrite_12 : decode cX11_canWrite 12 = .ok (.invokevirtual 315, 3) := by decide +kernel
theorem dX11_canWrite_15 : decode cX11_canWrite 15 = .ok (.iconst (-1), 1) := by decide +kernel
theorem dX11_canWrite_16 : decode cX11_canWrite 16 = .ok (.if_icmp .eq 18, 3) := by decide +kernel
theorem dX11_canWrite_19 : decode cX11_canWrite 19 = .ok (.aload_n 0, 1) := by decide +kernel
theorem dX11_canWrite_20 : decode cX11_canWrite 20 = .ok (.iload_n 2, 1) := by decide +kernel
theorem dX11_canWrite_21 : decode cX11_canWrite 21 = .ok (.invokevirtual 315, 3) := by decide +kernel
theorem dX11_canWrite_24 : decode cX11_canWrite 24 = .ok (.iload_n 1, 1) := by decide +kernel
theorem dX11_canWrite_25 : decode cX11_canWrite 25 = .ok (.if_icmp .ne 7, 3) := by decide +kernel
theorem dX11_canWrite_28 : decode cX11_canWrite 28 = .ok (.iconst 1, 1) := by decide +kernel
theorem dX11_canWrite_29 : decode cX11_canWrite 29 = .ok (.goto 4, 3) := by decide +kernel
theorem dX11_canWrite_32 : decode cX11_canWrite 32 = .ok (.iconst 0, 1) := by decide +kernel
theorem dX11_canWrite_33 : decode cX11_canWrite 33 = .ok (.ireturn, 1) := by decide +kernel
theorem dX11_canWrite_34 : decode cX11_canWrite 34 = .ok (.aload_n 0, 1) := by decide +kernel
theorem dX11_canWrite_35 : decode cX11_canWrite 35 = .ok (.iload_n 2, 1) := by decide +kernel
theorem dX11_canWrite_36 : decode cX11_canWrite 36 = .ok (.invokevirtual 160, 3) := by decide +kernel
theorem dX11_canWrite_39 : decode cX11_canWrite 39 = .ok (.istore_n 3, 1) := by decide +kernel
theorem dX11_canWrite_40 : decode cX11_canWrite 40 = .ok (.iload_n 3, 1) := by decide +kernel
theorem dX11_canWrite_41 : decode cX11_canWrite 41 = .ok (.iconst (-1), 1) := by decide +kernel
theorem dX11_canWrite_42 : decode cX11_canWrite 42 = .ok (.if_icmp .eq 35, 3) := by decide +kernel
theorem dX11_canWrite_45 : decode cX11_canWrite 45 = .ok (.aload_n 0, 1) := by decide +kernel
theorem dX11_canWrite_46 : decode cX11_canWrite 46 = .ok (.iload_n 3, 1) := by decide +kernel
theorem dX11_canWrite_47 : decode cX11_canWrite 47 = .ok (.invokevirtual 132, 3) := by decide +kernel
theorem dX11_canWrite_50 : decode cX11_canWrite 50 = .ok (.ifCond .eq 27, 3) := by decide +kernel
theorem dX11_canWrite_53 : decode cX11_canWrite 53 = .ok (.aload_n 0, 1) := by decide +kernel
theorem dX11_canWrite_54 : decode cX11_canWrite 54 = .ok (.getfield 37, 3) := by decide +kernel
theorem dX11_canWrite_57 : decode cX11_canWrite 57 = .ok (.bipush 12, 2) := by decide +kernel
theorem dX11_canWrite_59 : decode cX11_canWrite 59 = .ok (.iload_n 1, 1) := by decide +kernel
theorem dX11_canWrite_60 : decode cX11_canWrite 60 = .ok (.imul, 1) := by decide +kernel
theorem dX11_canWrite_61 : decode cX11_canWrite 61 = .ok (.iload_n 3, 1) := by decide +kernel
theorem dX11_canWrite_62 : decode cX11_canWrite 62 = .ok (.iadd, 1) := by decide +kernel
theorem dX11_canWrite_63 : decode cX11_canWrite 63 = .ok (.iaload, 1) := by decide +kernel
theorem dX11_canWrite_64 : decode cX11_canWrite 64 = .ok (.aload_n 0, 1) := by decide +kernel
theorem dX11_canWrite_65 : decode cX11_canWrite 65 = .ok (.getfield 157, 3) := by decide +kernel
theorem dX11_canWrite_68 : decode cX11_canWrite 68 = .ok (.iconst 1, 1) := by decide +kernel
theorem dX11_canWrite_69 : decode cX11_canWrite 69 = .ok (.iadd, 1) := by decide +kernel
theorem dX11_canWrite_70 : decode cX11_canWrite 70 = .ok (.if_icmp .gt 7, 3) := by decide +kernel
theorem dX11_canWrite_73 : decode cX11_canWrite 73 = .ok (.iconst 1, 1) := by decide +kernel
theorem dX11_canWrite_74 : decode cX11_canWrite 74 = .ok (.goto 4, 3) := by decide +kernel
theorem dX11_canWrite_77 : decode cX11_canWrite 77 = .ok (.iconst 0, 1) := by decide +kernel
theorem dX11_canWrite_78 : decode cX11_canWrite 78 = .ok (.ireturn, 1) := by decide +kernel
theorem dX11_lettersOf_0 : decode cX11_lettersOf 0 = .ok (.iconst 0, 1) := by decide +kernel
theorem dX11_lettersOf_1 : decode cX11_lettersOf 1 = .ok (.istore_n 2, 1) := by decide +kernel
theorem dX11_lettersOf_2 : decode cX11_lettersOf 2 = .ok (.iconst 0, 1) := by decide +kernel
theorem dX11_lettersOf_3 : decode cX11_lettersOf 3 = .ok (.istore_n 3, 1) := by decide +kernel
theorem dX11_lettersOf_4 : decode cX11_lettersOf 4 = .ok (.iload_n 3, 1) := by decide +kernel
theorem dX11_lettersOf_5 : decode cX11_lettersOf 5 = .ok (.bipush 28, 2) := by decide +kernel
theorem dX11_lettersOf_7 : decode cX11_lettersOf 7 = .ok (.if_icmp .ge 24, 3) := by decide +kernel
theorem dX11_lettersOf_10 : decode cX11_lettersOf 10 = .ok (.aload_n 0, 1) := by decide +kernel
theorem dX11_lettersOf_11 : decode cX11_lettersOf 11 = .ok (.iload_n 1, 1) := by decide +kernel
theorem dX11_lettersOf_12 : decode cX11_lettersOf 12 = .ok (.iload_n 3, 1) := by decide +kernel
theorem dX11_lettersOf_13 : decode cX11_lettersOf 13 = .ok (.invokevirtual 318, 3) := by decide +kernel
theorem dX11_lettersOf_16 : decode cX11_lettersOf 16 = .ok (.ifCond .eq 9, 3) := by decide +kernel
theorem dX11_lettersOf_19 : decode cX11_lettersOf 19 = .ok (.iload_n 2, 1) := by decide +kernel
theorem dX11_lettersOf_20 : decode cX11_lettersOf 20 = .ok (.iconst 1, 1) := by decide +kernel
theorem dX11_lettersOf_21 : decode cX11_lettersOf 21 = .ok (.iload_n 3, 1) := by decide +kernel
theorem dX11_lettersOf_22 : decode cX11_lettersOf 22 = .ok (.ishl, 1) := by decide +kernel
theorem dX11_lettersOf_23 : decode cX11_lettersOf 23 = .ok (.ior, 1) := by decide +kernel
theorem dX11_lettersOf_24 : decode cX11_lettersOf 24 = .ok (.istore_n 2, 1) := by decide +kernel
theorem dX11_lettersOf_25 : decode cX11_lettersOf 25 = .ok (.iinc 3 1, 3) := by decide +kernel
theorem dX11_lettersOf_28 : decode cX11_lettersOf 28 = .ok (.goto (-24), 3) := by decide +kernel
theorem dX11_lettersOf_31 : decode cX11_lettersOf 31 = .ok (.iload_n 2, 1) := by decide +kernel
theorem dX11_lettersOf_32 : decode cX11_lettersOf 32 = .ok (.ireturn, 1) := by decide +kernel
theorem dX11_ownedBy_0 : decode cX11_ownedBy 0 = .ok (.iconst 0, 1) := by decide +kernel
theorem dX11_ownedBy_1 : decode cX11_ownedBy 1 = .ok (.istore_n 2, 1) := by decide +kernel
theorem dX11_ownedBy_2 : decode cX11_ownedBy 2 = .ok (.iconst 0, 1) := by decide +kernel
theorem dX11_ownedBy_3 : decode cX11_ownedBy 3 = .ok (.istore_n 3, 1) := by decide +kernel
theorem dX11_ownedBy_4 : decode cX11_ownedBy 4 = .ok (.iload_n 3, 1) := by decide +kernel
theorem dX11_ownedBy_5 : decode cX11_ownedBy 5 = .ok (.bipush 28, 2) := by decide +kernel
theorem dX11_ownedBy_7 : decode cX11_ownedBy 7 = .ok (.if_icmp .ge 24, 3) := by decide +kernel
theorem dX11_ownedBy_10 : decode cX11_ownedBy 10 = .ok (.aload_n 0, 1) := by decide +kernel
theorem dX11_ownedBy_11 : decode cX11_ownedBy 11 = .ok (.iload_n 3, 1) := by decide +kernel
theorem dX11_ownedBy_12 : decode cX11_ownedBy 12 = .ok (.invokevirtual 160, 3) := by decide +kernel
theorem dX11_ownedBy_15 : decode cX11_ownedBy 15 = .ok (.iload_n 1, 1) := by decide +kernel
theorem dX11_ownedBy_16 : decode cX11_ownedBy 16 = .ok (.if_icmp .ne 9, 3) := by decide +kernel
theorem dX11_ownedBy_19 : decode cX11_ownedBy 19 = .ok (.iload_n 2, 1) := by decide +kernel
theorem dX11_ownedBy_20 : decode cX11_ownedBy 20 = .ok (.iconst 1, 1) := by decide +kernel
theorem dX11_ownedBy_21 : decode cX11_ownedBy 21 = .ok (.iload_n 3, 1) := by decide +kernel
theorem dX11_ownedBy_22 : decode cX11_ownedBy 22 = .ok (.ishl, 1) := by decide +kernel
theorem dX11_ownedBy_23 : decode cX11_ownedBy 23 = .ok (.ior, 1) := by decide +kernel
theorem dX11_ownedBy_24 : decode cX11_ownedBy 24 = .ok (.istore_n 2, 1) := by decide +kernel
theorem dX11_ownedBy_25 : decode cX11_ownedBy 25 = .ok (.iinc 3 1, 3) := by decide +kernel
theorem dX11_ownedBy_28 : decode cX11_ownedBy 28 = .ok (.goto (-24), 3) := by decide +kernel
theorem dX11_ownedBy_31 : decode cX11_ownedBy 31 = .ok (.iload_n 2, 1) := by decide +kernel
theorem dX11_ownedBy_32 : decode cX11_ownedBy 32 = .ok (.ireturn, 1) := by decide +kernel
theorem dX11_writersOf_0 : decode cX11_writersOf 0 = .ok (.iconst 0, 1) := by decide +kernel
theorem dX11_writersOf_1 : decode cX11_writersOf 1 = .ok (.istore_n 2, 1) := by decide +kernel
theorem dX11_writersOf_2 : decode cX11_writersOf 2 = .ok (.iconst 0, 1) := by decide +kernel
theorem dX11_writersOf_3 : decode cX11_writersOf 3 = .ok (.istore_n 3, 1) := by decide +kernel
theorem dX11_writersOf_4 : decode cX11_writersOf 4 = .ok (.iload_n 3, 1) := by decide +kernel
theorem dX11_writersOf_5 : decode cX11_writersOf 5 = .ok (.aload_n 0, 1) := by decide +kernel
theorem dX11_writersOf_6 : decode cX11_writersOf 6 = .ok (.getfield 122, 3) := by decide +kernel
theorem dX11_writersOf_9 : decode cX11_writersOf 9 = .ok (.if_icmp .ge 24, 3) := by decide +kernel
theorem dX11_writersOf_12 : decode cX11_writersOf 12 = .ok (.aload_n 0, 1) := by decide +kernel
theorem dX11_writersOf_13 : decode cX11_writersOf 13 = .ok (.iload_n 3, 1) := by decide +kernel
theorem dX11_writersOf_14 : decode cX11_writersOf 14 = .ok (.iload_n 1, 1) := by decide +kernel
theorem dX11_writersOf_15 : decode cX11_writersOf 15 = .ok (.invokevirtual 318, 3) := by decide +kernel
theorem dX11_writersOf_18 : decode cX11_writersOf 18 = .ok (.ifCond .eq 9, 3) := by decide +kernel
theorem dX11_writersOf_21 : decode cX11_writersOf 21 = .ok (.iload_n 2, 1) := by decide +kernel
theorem dX11_writersOf_22 : decode cX11_writersOf 22 = .ok (.iconst 1, 1) := by decide +kernel
theorem dX11_writersOf_23 : decode cX11_writersOf 23 = .ok (.iload_n 3, 1) := by decide +kernel
theorem dX11_writersOf_24 : decode cX11_writersOf 24 = .ok (.ishl, 1) := by decide +kernel
theorem dX11_writersOf_25 : decode cX11_writersOf 25 = .ok (.ior, 1) := by decide +kernel
theorem dX11_writersOf_26 : decode cX11_writersOf 26 = .ok (.istore_n 2, 1) := by decide +kernel
theorem dX11_writersOf_27 : decode cX11_writersOf 27 = .ok (.iinc 3 1, 3) := by decide +kernel
theorem dX11_writersOf_30 : decode cX11_writersOf 30 = .ok (.goto (-26), 3) := by decide +kernel
theorem dX11_writersOf_33 : decode cX11_writersOf 33 = .ok (.iload_n 2, 1) := by decide +kernel
theorem dX11_writersOf_34 : decode cX11_writersOf 34 = .ok (.ireturn, 1) := by decide +kernel
theorem dX11_findsHands_0 : decode cX11_findsHands 0 = .ok (.iconst 0, 1) := by decide +kernel
theorem dX11_findsHands_1 : decode cX11_findsHands 1 = .ok (.istore_n 1, 1) := by decide +kernel
theorem dX11_findsHands_2 : decode cX11_findsHands 2 = .ok (.iload_n 1, 1) := by decide +kernel
theorem dX11_findsHands_3 : decode cX11_findsHands 3 = .ok (.bipush 12, 2) := by decide +kernel
theorem dX11_findsHands_5 : decode cX11_findsHands 5 = .ok (.if_icmp .ge 32, 3) := by decide +kernel
theorem dX11_findsHands_8 : decode cX11_findsHands 8 = .ok (.aload_n 0, 1) := by decide +kernel
theorem dX11_findsHands_9 : decode cX11_findsHands 9 = .ok (.getfield 95, 3) := by decide +kernel
theorem dX11_findsHands_12 : decode cX11_findsHands 12 = .ok (.iload_n 1, 1) := by decide +kernel
theorem dX11_findsHands_13 : decode cX11_findsHands 13 = .ok (.iload_n 1, 1) := by decide +kernel
theorem dX11_findsHands_14 : decode cX11_findsHands 14 = .ok (.aload_n 0, 1) := by decide +kernel
theorem dX11_findsHands_15 : decode cX11_findsHands 15 = .ok (.getfield 122, 3) := by decide +kernel
theorem dX11_findsHands_18 : decode cX11_findsHands 18 = .ok (.if_icmp .ge 11, 3) := by decide +kernel
theorem dX11_findsHands_21 : decode cX11_findsHands 21 = .ok (.aload_n 0, 1) := by decide +kernel
theorem dX11_findsHands_22 : decode cX11_findsHands 22 = .ok (.iload_n 1, 1) := by decide +kernel
theorem dX11_findsHands_23 : decode cX11_findsHands 23 = .ok (.invokevirtual 321, 3) := by decide +kernel
theorem dX11_findsHands_26 : decode cX11_findsHands 26 = .ok (.goto 4, 3) := by decide +kernel
theorem dX11_findsHands_29 : decode cX11_findsHands 29 = .ok (.iconst 0, 1) := by decide +kernel
theorem dX11_findsHands_30 : decode cX11_findsHands 30 = .ok (.iastore, 1) := by decide +kernel
theorem dX11_findsHands_31 : decode cX11_findsHands 31 = .ok (.iinc 1 1, 3) := by decide +kernel
theorem dX11_findsHands_34 : decode cX11_findsHands 34 = .ok (.goto (-32), 3) := by decide +kernel
theorem dX11_findsHands_37 : decode cX11_findsHands 37 = .ok (.return_, 1) := by decide +kernel
theorem dX11_handOf_0 : decode cX11_handOf 0 = .ok (.iconst 0, 1) := by decide +kernel
theorem dX11_handOf_1 : decode cX11_handOf 1 = .ok (.istore_n 2, 1) := by decide +kernel
theorem dX11_handOf_2 : decode cX11_handOf 2 = .ok (.iconst 0, 1) := by decide +kernel
theorem dX11_handOf_3 : decode cX11_handOf 3 = .ok (.istore_n 3, 1) := by decide +kernel
theorem dX11_handOf_4 : decode cX11_handOf 4 = .ok (.iload_n 3, 1) := by decide +kernel
theorem dX11_handOf_5 : decode cX11_handOf 5 = .ok (.aload_n 0, 1) := by decide +kernel
theorem dX11_handOf_6 : decode cX11_handOf 6 = .ok (.getfield 122, 3) := by decide +kernel
theorem dX11_handOf_9 : decode cX11_handOf 9 = .ok (.if_icmp .ge 27, 3) := by decide +kernel
theorem dX11_handOf_12 : decode cX11_handOf 12 = .ok (.iload_n 1, 1) := by decide +kernel
theorem dX11_handOf_13 : decode cX11_handOf 13 = .ok (.iload_n 3, 1) := by decide +kernel
theorem dX11_handOf_14 : decode cX11_handOf 14 = .ok (.ishr, 1) := by decide +kernel
theorem dX11_handOf_15 : decode cX11_handOf 15 = .ok (.iconst 1, 1) := by decide +kernel
theorem dX11_handOf_16 : decode cX11_handOf 16 = .ok (.iand, 1) := by decide +kernel
theorem dX11_handOf_17 : decode cX11_handOf 17 = .ok (.iconst 1, 1) := by decide +kernel
theorem dX11_handOf_18 : decode cX11_handOf 18 = .ok (.if_icmp .ne 12, 3) := by decide +kernel
theorem dX11_handOf_21 : decode cX11_handOf 21 = .ok (.iload_n 2, 1) := by decide +kernel
theorem dX11_handOf_22 : decode cX11_handOf 22 = .ok (.aload_n 0, 1) := by decide +kernel
theorem dX11_handOf_23 : decode cX11_handOf 23 = .ok (.getfield 95, 3) := by decide +kernel
theorem dX11_handOf_26 : decode cX11_handOf 26 = .ok (.iload_n 3, 1) := by decide +kernel
theorem dX11_handOf_27 : decode cX11_handOf 27 = .ok (.iaload, 1) := by decide +kernel
theorem dX11_handOf_28 : decode cX11_handOf 28 = .ok (.ior, 1) := by decide +kernel
theorem dX11_handOf_29 : decode cX11_handOf 29 = .ok (.istore_n 2, 1) := by decide +kernel
theorem dX11_handOf_30 : decode cX11_handOf 30 = .ok (.iinc 3 1, 3) := by decide +kernel
theorem dX11_handOf_33 : decode cX11_handOf 33 = .ok (.goto (-29), 3) := by decide +kernel
theorem dX11_handOf_36 : decode cX11_handOf 36 = .ok (.iload_n 2, 1) := by decide +kernel
theorem dX11_handOf_37 : decode cX11_handOf 37 = .ok (.ireturn, 1) := by decide +kernel
theorem dX11_aloneOf_0 : decode cX11_aloneOf 0 = .ok (.iconst 0, 1) := by decide +kernel
theorem dX11_aloneOf_1 : decode cX11_aloneOf 1 = .ok (.istore_n 2, 1) := by decide +kernel
theorem dX11_aloneOf_2 : decode cX11_aloneOf 2 = .ok (.iconst 0, 1) := by decide +kernel
theorem dX11_aloneOf_3 : decode cX11_aloneOf 3 = .ok (.istore_n 3, 1) := by decide +kernel
theorem dX11_aloneOf_4 : decode cX11_aloneOf 4 = .ok (.iload_n 3, 1) := by decide +kernel
theorem dX11_aloneOf_5 : decode cX11_aloneOf 5 = .ok (.aload_n 0, 1) := by decide +kernel
theorem dX11_aloneOf_6 : decode cX11_aloneOf 6 = .ok (.getfield 122, 3) := by decide +kernel
theorem dX11_aloneOf_9 : decode cX11_aloneOf 9 = .ok (.if_icmp .ge 28, 3) := by decide +kernel
theorem dX11_aloneOf_12 : decode cX11_aloneOf 12 = .ok (.iload_n 1, 1) := by decide +kernel
theorem dX11_aloneOf_13 : decode cX11_aloneOf 13 = .ok (.aload_n 0, 1) := by decide +kernel
theorem dX11_aloneOf_14 : decode cX11_aloneOf 14 = .ok (.getfield 95, 3) := by decide +kernel
theorem dX11_aloneOf_17 : decode cX11_aloneOf 17 = .ok (.iload_n 3, 1) := by decide +kernel
theorem dX11_aloneOf_18 : decode cX11_aloneOf 18 = .ok (.iaload, 1) := by decide +kernel
theorem dX11_aloneOf_19 : decode cX11_aloneOf 19 = .ok (.iconst (-1), 1) := by decide +kernel
theorem dX11_aloneOf_20 : decode cX11_aloneOf 20 = .ok (.ixor, 1) := by decide +kernel
theorem dX11_aloneOf_21 : decode cX11_aloneOf 21 = .ok (.iand, 1) := by decide +kernel
theorem dX11_aloneOf_22 : decode cX11_aloneOf 22 = .ok (.ifCond .ne 9, 3) := by decide +kernel
theorem dX11_aloneOf_25 : decode cX11_aloneOf 25 = .ok (.iload_n 2, 1) := by decide +kernel
theorem dX11_aloneOf_26 : decode cX11_aloneOf 26 = .ok (.iconst 1, 1) := by decide +kernel
theorem dX11_aloneOf_27 : decode cX11_aloneOf 27 = .ok (.iload_n 3, 1) := by decide +kernel
theorem dX11_aloneOf_28 : decode cX11_aloneOf 28 = .ok (.ishl, 1) := by decide +kernel
theorem dX11_aloneOf_29 : decode cX11_aloneOf 29 = .ok (.ior, 1) := by decide +kernel
theorem dX11_aloneOf_30 : decode cX11_aloneOf 30 = .ok (.istore_n 2, 1) := by decide +kernel
theorem dX11_aloneOf_31 : decode cX11_aloneOf 31 = .ok (.iinc 3 1, 3) := by decide +kernel
theorem dX11_aloneOf_34 : decode cX11_aloneOf 34 = .ok (.goto (-30), 3) := by decide +kernel
theorem dX11_aloneOf_37 : decode cX11_aloneOf 37 = .ok (.iload_n 2, 1) := by decide +kernel
theorem dX11_aloneOf_38 : decode cX11_aloneOf 38 = .ok (.ireturn, 1) := by decide +kernel
theorem dX11_isVowel_0 : decode cX11_isVowel 0 = .ok (.iload_n 1, 1) := by decide +kernel
theorem dX11_isVowel_1 : decode cX11_isVowel 1 = .ok (.ifCond .eq 26, 3) := by decide +kernel
theorem dX11_isVowel_4 : decode cX11_isVowel 4 = .ok (.iload_n 1, 1) := by decide +kernel
theorem dX11_isVowel_5 : decode cX11_isVowel 5 = .ok (.iconst 4, 1) := by decide +kernel
theorem dX11_isVowel_6 : decode cX11_isVowel 6 = .ok (.if_icmp .eq 21, 3) := by decide +kernel
theorem dX11_isVowel_9 : decode cX11_isVowel 9 = .ok (.iload_n 1, 1) := by decide +kernel
theorem dX11_isVowel_10 : decode cX11_isVowel 10 = .ok (.bipush 8, 2) := by decide +kernel
theorem dX11_isVowel_12 : decode cX11_isVowel 12 = .ok (.if_icmp .eq 15, 3) := by decide +kernel
theorem dX11_isVowel_15 : decode cX11_isVowel 15 = .ok (.iload_n 1, 1) := by decide +kernel
theorem dX11_isVowel_16 : decode cX11_isVowel 16 = .ok (.bipush 14, 2) := by decide +kernel
theorem dX11_isVowel_18 : decode cX11_isVowel 18 = .ok (.if_icmp .eq 9, 3) := by decide +kernel
theorem dX11_isVowel_21 : decode cX11_isVowel 21 = .ok (.iload_n 1, 1) := by decide +kernel
theorem dX11_isVowel_22 : decode cX11_isVowel 22 = .ok (.bipush 20, 2) := by decide +kernel
theorem dX11_isVowel_24 : decode cX11_isVowel 24 = .ok (.if_icmp .ne 7, 3) := by decide +kernel
theorem dX11_isVowel_27 : decode cX11_isVowel 27 = .ok (.iconst 1, 1) := by decide +kernel
theorem dX11_isVowel_28 : decode cX11_isVowel 28 = .ok (.goto 4, 3) := by decide +kernel
theorem dX11_isVowel_31 : decode cX11_isVowel 31 = .ok (.iconst 0, 1) := by decide +kernel
theorem dX11_isVowel_32 : decode cX11_isVowel 32 = .ok (.ireturn, 1) := by decide +kernel
theorem dX11_isChild_0 : decode cX11_isChild 0 = .ok (.aload_n 0, 1) := by decide +kernel
theorem dX11_isChild_1 : decode cX11_isChild 1 = .ok (.getfield 19, 3) := by decide +kernel
theorem dX11_isChild_4 : decode cX11_isChild 4 = .ok (.iload_n 1, 1) := by decide +kernel
theorem dX11_isChild_5 : decode cX11_isChild 5 = .ok (.iaload, 1) := by decide +kernel
theorem dX11_isChild_6 : decode cX11_isChild 6 = .ok (.iconst 1, 1) := by decide +kernel
theorem dX11_isChild_7 : decode cX11_isChild 7 = .ok (.isub, 1) := by decide +kernel
theorem dX11_isChild_8 : decode cX11_isChild 8 = .ok (.iload_n 2, 1) := by decide +kernel
theorem dX11_isChild_9 : decode cX11_isChild 9 = .ok (.if_icmp .eq 15, 3) := by decide +kernel
theorem dX11_isChild_12 : decode cX11_isChild 12 = .ok (.aload_n 0, 1) := by decide +kernel
theorem dX11_isChild_13 : decode cX11_isChild 13 = .ok (.getfield 22, 3) := by decide +kernel
theorem dX11_isChild_16 : decode cX11_isChild 16 = .ok (.iload_n 1, 1) := by decide +kernel
theorem dX11_isChild_17 : decode cX11_isChild 17 = .ok (.iaload, 1) := by decide +kernel
theorem dX11_isChild_18 : decode cX11_isChild 18 = .ok (.iconst 1, 1) := by decide +kernel
theorem dX11_isChild_19 : decode cX11_isChild 19 = .ok (.isub, 1) := by decide +kernel
theorem dX11_isChild_20 : decode cX11_isChild 20 = .ok (.iload_n 2, 1) := by decide +kernel
theorem dX11_isChild_21 : decode cX11_isChild 21 = .ok (.if_icmp .ne 7, 3) := by decide +kernel
theorem dX11_isChild_24 : decode cX11_isChild 24 = .ok (.iconst 1, 1) := by decide +kernel
theorem dX11_isChild_25 : decode cX11_isChild 25 = .ok (.goto 4, 3) := by decide +kernel
theorem dX11_isChild_28 : decode cX11_isChild 28 = .ok (.iconst 0, 1) := by decide +kernel
theorem dX11_isChild_29 : decode cX11_isChild 29 = .ok (.ireturn, 1) := by decide +kernel
theorem dX11_worthOf_0 : decode cX11_worthOf 0 = .ok (.aload_n 0, 1) := by decide +kernel
theorem dX11_worthOf_1 : decode cX11_worthOf 1 = .ok (.getfield 89, 3) := by decide +kernel
theorem dX11_worthOf_4 : decode cX11_worthOf 4 = .ok (.iconst 0, 1) := by decide +kernel
theorem dX11_worthOf_5 : decode cX11_worthOf 5 = .ok (.iload_n 3, 1) := by decide +kernel
theorem dX11_worthOf_6 : decode cX11_worthOf 6 = .ok (.iastore, 1) := by decide +kernel
theorem dX11_worthOf_7 : decode cX11_worthOf 7 = .ok (.aload_n 0, 1) := by decide +kernel
theorem dX11_worthOf_8 : decode cX11_worthOf 8 = .ok (.getfield 89, 3) := by decide +kernel
theorem dX11_worthOf_11 : decode cX11_worthOf 11 = .ok (.iconst 1, 1) := by decide +kernel
theorem dX11_worthOf_12 : decode cX11_worthOf 12 = .ok (.aload_n 0, 1) := by decide +kernel
theorem dX11_worthOf_13 : decode cX11_worthOf 13 = .ok (.iload_n 3, 1) := by decide +kernel
theorem dX11_worthOf_14 : decode cX11_worthOf 14 = .ok (.invokevirtual 324, 3) := by decide +kernel
theorem dX11_worthOf_17 : decode cX11_worthOf 17 = .ok (.ifCond .eq 7, 3) := by decide +kernel
theorem dX11_worthOf_20 : decode cX11_worthOf 20 = .ok (.iconst 1, 1) := by decide +kernel
theorem dX11_worthOf_21 : decode cX11_worthOf 21 = .ok (.goto 4, 3) := by decide +kernel
theorem dX11_worthOf_24 : decode cX11_worthOf 24 = .ok (.iconst 0, 1) := by decide +kernel
theorem dX11_worthOf_25 : decode cX11_worthOf 25 = .ok (.iastore, 1) := by decide +kernel
theorem dX11_worthOf_26 : decode cX11_worthOf 26 = .ok (.aload_n 0, 1) := by decide +kernel
theorem dX11_worthOf_27 : decode cX11_worthOf 27 = .ok (.getfield 89, 3) := by decide +kernel
theorem dX11_worthOf_30 : decode cX11_worthOf 30 = .ok (.iconst 2, 1) := by decide +kernel
theorem dX11_worthOf_31 : decode cX11_worthOf 31 = .ok (.aload_n 0, 1) := by decide +kernel
theorem dX11_worthOf_32 : decode cX11_worthOf 32 = .ok (.getfield 7, 3) := by decide +kernel
theorem dX11_worthOf_35 : decode cX11_worthOf 35 = .ok (.iconst 0, 1) := by decide +kernel
theorem dX11_worthOf_36 : decode cX11_worthOf 36 = .ok (.iaload, 1) := by decide +kernel
theorem dX11_worthOf_37 : decode cX11_worthOf 37 = .ok (.aload_n 0, 1) := by decide +kernel
theorem dX11_worthOf_38 : decode cX11_worthOf 38 = .ok (.getfield 25, 3) := by decide +kernel
theorem dX11_worthOf_41 : decode cX11_worthOf 41 = .ok (.iload_n 2, 1) := by decide +kernel
theorem dX11_worthOf_42 : decode cX11_worthOf 42 = .ok (.iaload, 1) := by decide +kernel
theorem dX11_worthOf_43 : decode cX11_worthOf 43 = .ok (.isub, 1) := by decide +kernel
theorem dX11_worthOf_44 : decode cX11_worthOf 44 = .ok (.iastore, 1) := by decide +kernel
theorem dX11_worthOf_45 : decode cX11_worthOf 45 = .ok (.aload_n 0, 1) := by decide +kernel
theorem dX11_worthOf_46 : decode cX11_worthOf 46 = .ok (.getfield 89, 3) := by decide +kernel
theorem dX11_worthOf_49 : decode cX11_worthOf 49 = .ok (.iconst 3, 1) := by decide +kernel
theorem dX11_worthOf_50 : decode cX11_worthOf 50 = .ok (.aload_n 0, 1) := by decide +kernel
theorem dX11_worthOf_51 : decode cX11_worthOf 51 = .ok (.getfield 37, 3) := by decide +kernel
theorem dX11_worthOf_54 : decode cX11_worthOf 54 = .ok (.bipush 12, 2) := by decide +kernel
theorem dX11_worthOf_56 : decode cX11_worthOf 56 = .ok (.iload_n 1, 1) := by decide +kernel
theorem dX11_worthOf_57 : decode cX11_worthOf 57 = .ok (.imul, 1) := by decide +kernel
theorem dX11_worthOf_58 : decode cX11_worthOf 58 = .ok (.iload_n 2, 1) := by decide +kernel
theorem dX11_worthOf_59 : decode cX11_worthOf 59 = .ok (.iadd, 1) := by decide +kernel
theorem dX11_worthOf_60 : decode cX11_worthOf 60 = .ok (.iaload, 1) := by decide +kernel
theorem dX11_worthOf_61 : decode cX11_worthOf 61 = .ok (.iastore, 1) := by decide +kernel
theorem dX11_worthOf_62 : decode cX11_worthOf 62 = .ok (.aload_n 0, 1) := by decide +kernel
theorem dX11_worthOf_63 : decode cX11_worthOf 63 = .ok (.getfield 89, 3) := by decide +kernel
theorem dX11_worthOf_66 : decode cX11_worthOf 66 = .ok (.iconst 4, 1) := by decide +kernel
theorem dX11_worthOf_67 : decode cX11_worthOf 67 = .ok (.aload_n 0, 1) := by decide +kernel
theorem dX11_worthOf_68 : decode cX11_worthOf 68 = .ok (.iload_n 2, 1) := by decide +kernel
theorem dX11_worthOf_69 : decode cX11_worthOf 69 = .ok (.iload_n 1, 1) := by decide +kernel
theorem dX11_worthOf_70 : decode cX11_worthOf 70 = .ok (.invokevirtual 327, 3) := by decide +kernel
theorem dX11_worthOf_73 : decode cX11_worthOf 73 = .ok (.ifCond .eq 7, 3) := by decide +kernel
theorem dX11_worthOf_76 : decode cX11_worthOf 76 = .ok (.iconst 1, 1) := by decide +kernel
theorem dX11_worthOf_77 : decode cX11_worthOf 77 = .ok (.goto 4, 3) := by decide +kernel
theorem dX11_worthOf_80 : decode cX11_worthOf 80 = .ok (.iconst 0, 1) := by decide +kernel
theorem dX11_worthOf_81 : decode cX11_worthOf 81 = .ok (.iastore, 1) := by decide +kernel
theorem dX11_worthOf_82 : decode cX11_worthOf 82 = .ok (.aload_n 0, 1) := by decide +kernel
theorem dX11_worthOf_83 : decode cX11_worthOf 83 = .ok (.getfield 89, 3) := by decide +kernel
theorem dX11_worthOf_86 : decode cX11_worthOf 86 = .ok (.iconst 5, 1) := by decide +kernel
theorem dX11_worthOf_87 : decode cX11_worthOf 87 = .ok (.aload_n 0, 1) := by decide +kernel
theorem dX11_worthOf_88 : decode cX11_worthOf 88 = .ok (.iload_n 1, 1) := by decide +kernel
theorem dX11_worthOf_89 : decode cX11_worthOf 89 = .ok (.invokevirtual 139, 3) := by decide +kernel
theorem dX11_worthOf_92 : decode cX11_worthOf 92 = .ok (.iload_n 2, 1) := by decide +kernel
theorem dX11_worthOf_93 : decode cX11_worthOf 93 = .ok (.if_icmp .ne 7, 3) := by decide +kernel
theorem dX11_worthOf_96 : decode cX11_worthOf 96 = .ok (.iconst 1, 1) := by decide +kernel
theorem dX11_worthOf_97 : decode cX11_worthOf 97 = .ok (.goto 4, 3) := by decide +kernel
theorem dX11_worthOf_100 : decode cX11_worthOf 100 = .ok (.iconst 0, 1) := by decide +kernel
theorem dX11_worthOf_101 : decode cX11_worthOf 101 = .ok (.iastore, 1) := by decide +kernel
theorem dX11_worthOf_102 : decode cX11_worthOf 102 = .ok (.aload_n 0, 1) := by decide +kernel
theorem dX11_worthOf_103 : decode cX11_worthOf 103 = .ok (.getfield 89, 3) := by decide +kernel
theorem dX11_worthOf_106 : decode cX11_worthOf 106 = .ok (.bipush 6, 2) := by decide +kernel
theorem dX11_worthOf_108 : decode cX11_worthOf 108 = .ok (.aload_n 0, 1) := by decide +kernel
theorem dX11_worthOf_109 : decode cX11_worthOf 109 = .ok (.aload_n 0, 1) := by decide +kernel
theorem dX11_worthOf_110 : decode cX11_worthOf 110 = .ok (.iload_n 2, 1) := by decide +kernel
theorem dX11_worthOf_111 : decode cX11_worthOf 111 = .ok (.invokevirtual 330, 3) := by decide +kernel
theorem dX11_worthOf_114 : decode cX11_worthOf 114 = .ok (.invokevirtual 333, 3) := by decide +kernel
theorem dX11_worthOf_117 : decode cX11_worthOf 117 = .ok (.iastore, 1) := by decide +kernel
theorem dX11_worthOf_118 : decode cX11_worthOf 118 = .ok (.aload_n 0, 1) := by decide +kernel
theorem dX11_worthOf_119 : decode cX11_worthOf 119 = .ok (.getfield 89, 3) := by decide +kernel
theorem dX11_worthOf_122 : decode cX11_worthOf 122 = .ok (.bipush 7, 2) := by decide +kernel
theorem dX11_worthOf_124 : decode cX11_worthOf 124 = .ok (.aload_n 0, 1) := by decide +kernel
theorem dX11_worthOf_125 : decode cX11_worthOf 125 = .ok (.getfield 31, 3) := by decide +kernel
theorem dX11_worthOf_128 : decode cX11_worthOf 128 = .ok (.iload_n 2, 1) := by decide +kernel
theorem dX11_worthOf_129 : decode cX11_worthOf 129 = .ok (.iaload, 1) := by decide +kernel
theorem dX11_worthOf_130 : decode cX11_worthOf 130 = .ok (.iastore, 1) := by decide +kernel
theorem dX11_worthOf_131 : decode cX11_worthOf 131 = .ok (.aload_n 0, 1) := by decide +kernel
theorem dX11_worthOf_132 : decode cX11_worthOf 132 = .ok (.getfield 89, 3) := by decide +kernel
theorem dX11_worthOf_135 : decode cX11_worthOf 135 = .ok (.bipush 8, 2) := by decide +kernel
theorem dX11_worthOf_137 : decode cX11_worthOf 137 = .ok (.aload_n 0, 1) := by decide +kernel
theorem dX11_worthOf_138 : decode cX11_worthOf 138 = .ok (.getfield 7, 3) := by decide +kernel
theorem dX11_worthOf_141 : decode cX11_worthOf 141 = .ok (.bipush 100, 2) := by decide +kernel
theorem dX11_worthOf_143 : decode cX11_worthOf 143 = .ok (.iload_n 2, 1) := by decide +kernel
theorem dX11_worthOf_144 : decode cX11_worthOf 144 = .ok (.iadd, 1) := by decide +kernel
theorem dX11_worthOf_145 : decode cX11_worthOf 145 = .ok (.iaload, 1) := by decide +kernel
theorem dX11_worthOf_146 : decode cX11_worthOf 146 = .ok (.iastore, 1) := by decide +kernel
theorem dX11_worthOf_147 : decode cX11_worthOf 147 = .ok (.aload_n 0, 1) := by decide +kernel
theorem dX11_worthOf_148 : decode cX11_worthOf 148 = .ok (.getfield 89, 3) := by decide +kernel
theorem dX11_worthOf_151 : decode cX11_worthOf 151 = .ok (.bipush 9, 2) := by decide +kernel
theorem dX11_worthOf_153 : decode cX11_worthOf 153 = .ok (.aload_n 0, 1) := by decide +kernel
theorem dX11_worthOf_154 : decode cX11_worthOf 154 = .ok (.getfield 7, 3) := by decide +kernel
theorem dX11_worthOf_157 : decode cX11_worthOf 157 = .ok (.iconst 0, 1) := by decide +kernel
theorem dX11_worthOf_158 : decode cX11_worthOf 158 = .ok (.iaload, 1) := by decide +kernel
theorem dX11_worthOf_159 : decode cX11_worthOf 159 = .ok (.iastore, 1) := by decide +kernel
theorem dX11_worthOf_160 : decode cX11_worthOf 160 = .ok (.iconst 0, 1) := by decide +kernel
theorem dX11_worthOf_161 : decode cX11_worthOf 161 = .ok (.istore 4, 2) := by decide +kernel
theorem dX11_worthOf_163 : decode cX11_worthOf 163 = .ok (.iload 4, 2) := by decide +kernel
theorem dX11_worthOf_165 : decode cX11_worthOf 165 = .ok (.aload_n 0, 1) := by decide +kernel
theorem dX11_worthOf_166 : decode cX11_worthOf 166 = .ok (.getfield 260, 3) := by decide +kernel
theorem dX11_worthOf_169 : decode cX11_worthOf 169 = .ok (.if_icmp .ge 37, 3) := by decide +kernel
theorem dX11_worthOf_172 : decode cX11_worthOf 172 = .ok (.aload_n 0, 1) := by decide +kernel
theorem dX11_worthOf_173 : decode cX11_worthOf 173 = .ok (.iload 4, 2) := by decide +kernel
theorem dX11_worthOf_175 : decode cX11_worthOf 175 = .ok (.invokevirtual 336, 3) := by decide +kernel
theorem dX11_worthOf_178 : decode cX11_worthOf 178 = .ok (.ifCond .eq 22, 3) := by decide +kernel
theorem dX11_worthOf_181 : decode cX11_worthOf 181 = .ok (.aload_n 0, 1) := by decide +kernel
theorem dX11_worthOf_182 : decode cX11_worthOf 182 = .ok (.aload_n 0, 1) := by decide +kernel
theorem dX11_worthOf_183 : decode cX11_worthOf 183 = .ok (.getfield 49, 3) := by decide +kernel
theorem dX11_worthOf_186 : decode cX11_worthOf 186 = .ok (.iload 4, 2) := by decide +kernel
theorem dX11_worthOf_188 : decode cX11_worthOf 188 = .ok (.iaload, 1) := by decide +kernel
theorem dX11_worthOf_189 : decode cX11_worthOf 189 = .ok (.aload_n 0, 1) := by decide +kernel
theorem dX11_worthOf_190 : decode cX11_worthOf 190 = .ok (.getfield 46, 3) := by decide +kernel
theorem dX11_worthOf_193 : decode cX11_worthOf 193 = .ok (.iload 4, 2) := by decide +kernel
theorem dX11_worthOf_195 : decode cX11_worthOf 195 = .ok (.iaload, 1) := by decide +kernel
theorem dX11_worthOf_196 : decode cX11_worthOf 196 = .ok (.invokevirtual 312, 3) := by decide +kernel
theorem dX11_worthOf_199 : decode cX11_worthOf 199 = .ok (.ireturn, 1) := by decide +kernel
theorem dX11_worthOf_200 : decode cX11_worthOf 200 = .ok (.iinc 4 1, 3) := by decide +kernel
theorem dX11_worthOf_203 : decode cX11_worthOf 203 = .ok (.goto (-40), 3) := by decide +kernel
theorem dX11_worthOf_206 : decode cX11_worthOf 206 = .ok (.iconst 0, 1) := by decide +kernel
theorem dX11_worthOf_207 : decode cX11_worthOf 207 = .ok (.ireturn, 1) := by decide +kernel
theorem dX11_heirByWill_0 : decode cX11_heirByWill 0 = .ok (.bipush 12, 2) := by decide +kernel
theorem dX11_heirByWill_2 : decode cX11_heirByWill 2 = .ok (.iload_n 1, 1) := by decide +kernel
theorem dX11_heirByWill_3 : decode cX11_heirByWill 3 = .ok (.imul, 1) := by decide +kernel
theorem dX11_heirByWill_4 : decode cX11_heirByWill 4 = .ok (.istore_n 3, 1) := by decide +kernel
theorem dX11_heirByWill_5 : decode cX11_heirByWill 5 = .ok (.iload_n 3, 1) := by decide +kernel
theorem dX11_heirByWill_6 : decode cX11_heirByWill 6 = .ok (.bipush 12, 2) := by decide +kernel
theorem dX11_heirByWill_8 : decode cX11_heirByWill 8 = .ok (.iload_n 1, 1) := by decide +kernel
theorem dX11_heirByWill_9 : decode cX11_heirByWill 9 = .ok (.imul, 1) := by decide +kernel
theorem dX11_heirByWill_10 : decode cX11_heirByWill 10 = .ok (.aload_n 0, 1) := by decide +kernel
theorem dX11_heirByWill_11 : decode cX11_heirByWill 11 = .ok (.getfield 68, 3) := by decide +kernel
theorem dX11_heirByWill_14 : decode cX11_heirByWill 14 = .ok (.iload_n 1, 1) := by decide +kernel
theorem dX11_heirByWill_15 : decode cX11_heirByWill 15 = .ok (.iaload, 1) := by decide +kernel
theorem dX11_heirByWill_16 : decode cX11_heirByWill 16 = .ok (.iadd, 1) := by decide +kernel
theorem dX11_heirByWill_17 : decode cX11_heirByWill 17 = .ok (.if_icmp .ge 79, 3) := by decide +kernel
theorem dX11_heirByWill_20 : decode cX11_heirByWill 20 = .ok (.aload_n 0, 1) := by decide +kernel
theorem dX11_heirByWill_21 : decode cX11_heirByWill 21 = .ok (.getfield 71, 3) := by decide +kernel
theorem dX11_heirByWill_24 : decode cX11_heirByWill 24 = .ok (.iload_n 3, 1) := by decide +kernel
theorem dX11_heirByWill_25 : decode cX11_heirByWill 25 = .ok (.iaload, 1) := by decide +kernel
theorem dX11_heirByWill_26 : decode cX11_heirByWill 26 = .ok (.iload_n 2, 1) := by decide +kernel
theorem dX11_heirByWill_27 : decode cX11_heirByWill 27 = .ok (.ishr, 1) := by decide +kernel
theorem dX11_heirByWill_28 : decode cX11_heirByWill 28 = .ok (.iconst 1, 1) := by decide +kernel
theorem dX11_heirByWill_29 : decode cX11_heirByWill 29 = .ok (.iand, 1) := by decide +kernel
theorem dX11_heirByWill_30 : decode cX11_heirByWill 30 = .ok (.iconst 1, 1) := by decide +kernel
theorem dX11_heirByWill_31 : decode cX11_heirByWill 31 = .ok (.if_icmp .ne 44, 3) := by decide +kernel
theorem dX11_heirByWill_34 : decode cX11_heirByWill 34 = .ok (.aload_n 0, 1) := by decide +kernel
theorem dX11_heirByWill_35 : decode cX11_heirByWill 35 = .ok (.aload_n 0, 1) := by decide +kernel
theorem dX11_heirByWill_36 : decode cX11_heirByWill 36 = .ok (.getfield 74, 3) := by decide +kernel
theorem dX11_heirByWill_39 : decode cX11_heirByWill 39 = .ok (.iload_n 3, 1) := by decide +kernel
theorem dX11_heirByWill_40 : decode cX11_heirByWill 40 = .ok (.iaload, 1) := by decide +kernel
theorem dX11_heirByWill_41 : decode cX11_heirByWill 41 = .ok (.invokevirtual 132, 3) := by decide +kernel
theorem dX11_heirByWill_44 : decode cX11_heirByWill 44 = .ok (.ifCond .eq 31, 3) := by decide +kernel
theorem dX11_heirByWill_47 : decode cX11_heirByWill 47 = .ok (.aload_n 0, 1) := by decide +kernel
theorem dX11_heirByWill_48 : decode cX11_heirByWill 48 = .ok (.getfield 77, 3) := by decide +kernel
theorem dX11_heirByWill_51 : decode cX11_heirByWill 51 = .ok (.iload_n 3, 1) := by decide +kernel
theorem dX11_heirByWill_52 : decode cX11_heirByWill 52 = .ok (.iaload, 1) := by decide +kernel
theorem dX11_heirByWill_53 : decode cX11_heirByWill 53 = .ok (.ifCond .eq 18, 3) := by decide +kernel
theorem dX11_heirByWill_56 : decode cX11_heirByWill 56 = .ok (.aload_n 0, 1) := by decide +kernel
theorem dX11_heirByWill_57 : decode cX11_heirByWill 57 = .ok (.aload_n 0, 1) := by decide +kernel
theorem dX11_heirByWill_58 : decode cX11_heirByWill 58 = .ok (.getfield 77, 3) := by decide +kernel
theorem dX11_heirByWill_61 : decode cX11_heirByWill 61 = .ok (.iload_n 3, 1) := by decide +kernel
theorem dX11_heirByWill_62 : decode cX11_heirByWill 62 = .ok (.iaload, 1) := by decide +kernel
theorem dX11_heirByWill_63 : decode cX11_heirByWill 63 = .ok (.iconst 1, 1) := by decide +kernel
theorem dX11_heirByWill_64 : decode cX11_heirByWill 64 = .ok (.isub, 1) := by decide +kernel
theorem dX11_heirByWill_65 : decode cX11_heirByWill 65 = .ok (.invokevirtual 132, 3) := by decide +kernel
theorem dX11_heirByWill_68 : decode cX11_heirByWill 68 = .ok (.ifCond .eq 7, 3) := by decide +kernel
theorem dX11_heirByWill_71 : decode cX11_heirByWill 71 = .ok (.iconst 1, 1) := by decide +kernel
theorem dX11_heirByWill_72 : decode cX11_heirByWill 72 = .ok (.goto 4, 3) := by decide +kernel
theorem dX11_heirByWill_75 : decode cX11_heirByWill 75 = .ok (.iconst 0, 1) := by decide +kernel
theorem dX11_heirByWill_76 : decode cX11_heirByWill 76 = .ok (.istore 4, 2) := by decide +kernel
theorem dX11_heirByWill_78 : decode cX11_heirByWill 78 = .ok (.iload 4, 2) := by decide +kernel
theorem dX11_heirByWill_80 : decode cX11_heirByWill 80 = .ok (.ifCond .eq 10, 3) := by decide +kernel
theorem dX11_heirByWill_83 : decode cX11_heirByWill 83 = .ok (.aload_n 0, 1) := by decide +kernel
theorem dX11_heirByWill_84 : decode cX11_heirByWill 84 = .ok (.getfield 74, 3) := by decide +kernel
theorem dX11_heirByWill_87 : decode cX11_heirByWill 87 = .ok (.iload_n 3, 1) := by decide +kernel
theorem dX11_heirByWill_88 : decode cX11_heirByWill 88 = .ok (.iaload, 1) := by decide +kernel
theorem dX11_heirByWill_89 : decode cX11_heirByWill 89 = .ok (.ireturn, 1) := by decide +kernel
theorem dX11_heirByWill_90 : decode cX11_heirByWill 90 = .ok (.iinc 3 1, 3) := by decide +kernel
theorem dX11_heirByWill_93 : decode cX11_heirByWill 93 = .ok (.goto (-88), 3) := by decide +kernel
theorem dX11_heirByWill_96 : decode cX11_heirByWill 96 = .ok (.iconst (-1), 1) := by decide +kernel
theorem dX11_heirByWill_97 : decode cX11_heirByWill 97 = .ok (.ireturn, 1) := by decide +kernel
theorem dX11_heirByLaw_0 : decode cX11_heirByLaw 0 = .ok (.iconst (-1), 1) := by decide +kernel
theorem dX11_heirByLaw_1 : decode cX11_heirByLaw 1 = .ok (.istore_n 3, 1) := by decide +kernel
theorem dX11_heirByLaw_2 : decode cX11_heirByLaw 2 = .ok (.iconst 0, 1) := by decide +kernel
theorem dX11_heirByLaw_3 : decode cX11_heirByLaw 3 = .ok (.istore 4, 2) := by decide +kernel
theorem dX11_heirByLaw_5 : decode cX11_heirByLaw 5 = .ok (.iconst 0, 1) := by decide +kernel
theorem dX11_heirByLaw_6 : decode cX11_heirByLaw 6 = .ok (.istore 5, 2) := by decide +kernel
theorem dX11_heirByLaw_8 : decode cX11_heirByLaw 8 = .ok (.iload 5, 2) := by decide +kernel
theorem dX11_heirByLaw_10 : decode cX11_heirByLaw 10 = .ok (.aload_n 0, 1) := by decide +kernel
theorem dX11_heirByLaw_11 : decode cX11_heirByLaw 11 = .ok (.getfield 122, 3) := by decide +kernel
theorem dX11_heirByLaw_14 : decode cX11_heirByLaw 14 = .ok (.if_icmp .ge 61, 3) := by decide +kernel
theorem dX11_heirByLaw_17 : decode cX11_heirByLaw 17 = .ok (.aload_n 0, 1) := by decide +kernel
theorem dX11_heirByLaw_18 : decode cX11_heirByLaw 18 = .ok (.iload 5, 2) := by decide +kernel
theorem dX11_heirByLaw_20 : decode cX11_heirByLaw 20 = .ok (.invokevirtual 132, 3) := by decide +kernel
theorem dX11_heirByLaw_23 : decode cX11_heirByLaw 23 = .ok (.ifCond .ne 6, 3) := by decide +kernel
theorem dX11_heirByLaw_26 : decode cX11_heirByLaw 26 = .ok (.goto 43, 3) := by decide +kernel
theorem dX11_heirByLaw_29 : decode cX11_heirByLaw 29 = .ok (.aload_n 0, 1) := by decide +kernel
theorem dX11_heirByLaw_30 : decode cX11_heirByLaw 30 = .ok (.iload_n 1, 1) := by decide +kernel
theorem dX11_heirByLaw_31 : decode cX11_heirByLaw 31 = .ok (.iload 5, 2) := by decide +kernel
theorem dX11_heirByLaw_33 : decode cX11_heirByLaw 33 = .ok (.iload_n 2, 1) := by decide +kernel
theorem dX11_heirByLaw_34 : decode cX11_heirByLaw 34 = .ok (.invokevirtual 339, 3) := by decide +kernel
theorem dX11_heirByLaw_37 : decode cX11_heirByLaw 37 = .ok (.istore 6, 2) := by decide +kernel
theorem dX11_heirByLaw_39 : decode cX11_heirByLaw 39 = .ok (.iload 6, 2) := by decide +kernel
theorem dX11_heirByLaw_41 : decode cX11_heirByLaw 41 = .ok (.iload 4, 2) := by decide +kernel
theorem dX11_heirByLaw_43 : decode cX11_heirByLaw 43 = .ok (.if_icmp .le 8, 3) := by decide +kernel
theorem dX11_heirByLaw_46 : decode cX11_heirByLaw 46 = .ok (.iload 5, 2) := by decide +kernel
theorem dX11_heirByLaw_48 : decode cX11_heirByLaw 48 = .ok (.goto 4, 3) := by decide +kernel
theorem dX11_heirByLaw_51 : decode cX11_heirByLaw 51 = .ok (.iload_n 3, 1) := by decide +kernel
theorem dX11_heirByLaw_52 : decode cX11_heirByLaw 52 = .ok (.istore_n 3, 1) := by decide +kernel
theorem dX11_heirByLaw_53 : decode cX11_heirByLaw 53 = .ok (.iload 6, 2) := by decide +kernel
theorem dX11_heirByLaw_55 : decode cX11_heirByLaw 55 = .ok (.iload 4, 2) := by decide +kernel
theorem dX11_heirByLaw_57 : decode cX11_heirByLaw 57 = .ok (.if_icmp .le 8, 3) := by decide +kernel
theorem dX11_heirByLaw_60 : decode cX11_heirByLaw 60 = .ok (.iload 6, 2) := by decide +kernel
theorem dX11_heirByLaw_62 : decode cX11_heirByLaw 62 = .ok (.goto 5, 3) := by decide +kernel
theorem dX11_heirByLaw_65 : decode cX11_heirByLaw 65 = .ok (.iload 4, 2) := by decide +kernel
theorem dX11_heirByLaw_67 : decode cX11_heirByLaw 67 = .ok (.istore 4, 2) := by decide +kernel
theorem dX11_heirByLaw_69 : decode cX11_heirByLaw 69 = .ok (.iinc 5 1, 3) := by decide +kernel
theorem dX11_heirByLaw_72 : decode cX11_heirByLaw 72 = .ok (.goto (-64), 3) := by decide +kernel
theorem dX11_heirByLaw_75 : decode cX11_heirByLaw 75 = .ok (.iload_n 3, 1) := by decide +kernel
theorem dX11_heirByLaw_76 : decode cX11_heirByLaw 76 = .ok (.ireturn, 1) := by decide +kernel
theorem dX11_isDead_0 : decode cX11_isDead 0 = .ok (.aload_n 0, 1) := by decide +kernel
theorem dX11_isDead_1 : decode cX11_isDead 1 = .ok (.getfield 7, 3) := by decide +kernel
theorem dX11_isDead_4 : decode cX11_isDead 4 = .ok (.iconst 3, 1) := by decide +kernel
theorem dX11_isDead_5 : decode cX11_isDead 5 = .ok (.aload_n 0, 1) := by decide +kernel
theorem dX11_isDead_6 : decode cX11_isDead 6 = .ok (.getfield 7, 3) := by decide +kernel
theorem dX11_isDead_9 : decode cX11_isDead 9 = .ok (.iconst 3, 1) := by decide +kernel
theorem dX11_isDead_10 : decode cX11_isDead 10 = .ok (.iaload, 1) := by decide +kernel
theorem dX11_isDead_11 : decode cX11_isDead 11 = .ok (.iconst 1, 1) := by decide +kernel
theorem dX11_isDead_12 : decode cX11_isDead 12 = .ok (.iload_n 1, 1) := by decide +kernel
theorem dX11_isDead_13 : decode cX11_isDead 13 = .ok (.ishl, 1) := by decide +kernel
theorem dX11_isDead_14 : decode cX11_isDead 14 = .ok (.ior, 1) := by decide +kernel
theorem dX11_isDead_15 : decode cX11_isDead 15 = .ok (.iastore, 1) := by decide +kernel
theorem dX11_isDead_16 : decode cX11_isDead 16 = .ok (.iconst 0, 1) := by decide +kernel
theorem dX11_isDead_17 : decode cX11_isDead 17 = .ok (.istore_n 2, 1) := by decide +kernel
theorem dX11_isDead_18 : decode cX11_isDead 18 = .ok (.iload_n 2, 1) := by decide +kernel
theorem dX11_isDead_19 : decode cX11_isDead 19 = .ok (.bipush 28, 2) := by decide +kernel
theorem dX11_isDead_21 : decode cX11_isDead 21 = .ok (.if_icmp .ge 84, 3) := by decide +kernel
theorem dX11_isDead_24 : decode cX11_isDead 24 = .ok (.aload_n 0, 1) := by decide +kernel
theorem dX11_isDead_25 : decode cX11_isDead 25 = .ok (.iload_n 2, 1) := by decide +kernel
theorem dX11_isDead_26 : decode cX11_isDead 26 = .ok (.invokevirtual 160, 3) := by decide +kernel
theorem dX11_isDead_29 : decode cX11_isDead 29 = .ok (.iload_n 1, 1) := by decide +kernel
theorem dX11_isDead_30 : decode cX11_isDead 30 = .ok (.if_icmp .eq 6, 3) := by decide +kernel
theorem dX11_isDead_33 : decode cX11_isDead 33 = .ok (.goto 66, 3) := by decide +kernel
theorem dX11_isDead_36 : decode cX11_isDead 36 = .ok (.aload_n 0, 1) := by decide +kernel
theorem dX11_isDead_37 : decode cX11_isDead 37 = .ok (.iload_n 1, 1) := by decide +kernel
theorem dX11_isDead_38 : decode cX11_isDead 38 = .ok (.iload_n 2, 1) := by decide +kernel
theorem dX11_isDead_39 : decode cX11_isDead 39 = .ok (.invokevirtual 342, 3) := by decide +kernel
theorem dX11_isDead_42 : decode cX11_isDead 42 = .ok (.istore_n 3, 1) := by decide +kernel
theorem dX11_isDead_43 : decode cX11_isDead 43 = .ok (.iload_n 3, 1) := by decide +kernel
theorem dX11_isDead_44 : decode cX11_isDead 44 = .ok (.iconst (-1), 1) := by decide +kernel
theorem dX11_isDead_45 : decode cX11_isDead 45 = .ok (.if_icmp .eq 7, 3) := by decide +kernel
theorem dX11_isDead_48 : decode cX11_isDead 48 = .ok (.iconst 1, 1) := by decide +kernel
theorem dX11_isDead_49 : decode cX11_isDead 49 = .ok (.goto 4, 3) := by decide +kernel
theorem dX11_isDead_52 : decode cX11_isDead 52 = .ok (.iconst 0, 1) := by decide +kernel
theorem dX11_isDead_53 : decode cX11_isDead 53 = .ok (.istore 4, 2) := by decide +kernel
theorem dX11_isDead_55 : decode cX11_isDead 55 = .ok (.iload_n 2, 1) := by decide +kernel
theorem dX11_isDead_56 : decode cX11_isDead 56 = .ok (.aload_n 0, 1) := by decide +kernel
theorem dX11_isDead_57 : decode cX11_isDead 57 = .ok (.getfield 98, 3) := by decide +kernel
theorem dX11_isDead_60 : decode cX11_isDead 60 = .ok (.if_icmp .ne 9, 3) := by decide +kernel
theorem dX11_isDead_63 : decode cX11_isDead 63 = .ok (.aload_n 0, 1) := by decide +kernel
theorem dX11_isDead_64 : decode cX11_isDead 64 = .ok (.iload 4, 2) := by decide +kernel
theorem dX11_isDead_66 : decode cX11_isDead 66 = .ok (.putfield 345, 3) := by decide +kernel
theorem dX11_isDead_69 : decode cX11_isDead 69 = .ok (.aload_n 0, 1) := by decide +kernel
theorem dX11_isDead_70 : decode cX11_isDead 70 = .ok (.iload_n 2, 1) := by decide +kernel
theorem dX11_isDead_71 : decode cX11_isDead 71 = .ok (.iload 4, 2) := by decide +kernel
theorem dX11_isDead_73 : decode cX11_isDead 73 = .ok (.ifCond .eq 7, 3) := by decide +kernel
theorem dX11_isDead_76 : decode cX11_isDead 76 = .ok (.iload_n 3, 1) := by decide +kernel
theorem dX11_isDead_77 : decode cX11_isDead 77 = .ok (.goto 9, 3) := by decide +kernel
theorem dX11_isDead_80 : decode cX11_isDead 80 = .ok (.aload_n 0, 1) := by decide +kernel
theorem dX11_isDead_81 : decode cX11_isDead 81 = .ok (.iload_n 1, 1) := by decide +kernel
theorem dX11_isDead_82 : decode cX11_isDead 82 = .ok (.iload_n 2, 1) := by decide +kernel
theorem dX11_isDead_83 : decode cX11_isDead 83 = .ok (.invokevirtual 348, 3) := by decide +kernel
theorem dX11_isDead_86 : decode cX11_isDead 86 = .ok (.iload 4, 2) := by decide +kernel
theorem dX11_isDead_88 : decode cX11_isDead 88 = .ok (.ifCond .eq 7, 3) := by decide +kernel
theorem dX11_isDead_91 : decode cX11_isDead 91 = .ok (.iconst 3, 1) := by decide +kernel
theorem dX11_isDead_92 : decode cX11_isDead 92 = .ok (.goto 4, 3) := by decide +kernel
theorem dX11_isDead_95 : decode cX11_isDead 95 = .ok (.iconst 4, 1) := by decide +kernel
theorem dX11_isDead_96 : decode cX11_isDead 96 = .ok (.invokevirtual 166, 3) := by decide +kernel
theorem dX11_isDead_99 : decode cX11_isDead 99 = .ok (.iinc 2 1, 3) := by decide +kernel
theorem dX11_isDead_102 : decode cX11_isDead 102 = .ok (.goto (-84), 3) := by decide +kernel
theorem dX11_isDead_105 : decode cX11_isDead 105 = .ok (.iconst 0, 1) := by decide +kernel
theorem dX11_isDead_106 : decode cX11_isDead 106 = .ok (.istore_n 2, 1) := by decide +kernel
theorem dX11_isDead_107 : decode cX11_isDead 107 = .ok (.iload_n 2, 1) := by decide +kernel
theorem dX11_isDead_108 : decode cX11_isDead 108 = .ok (.bipush 28, 2) := by decide +kernel
theorem dX11_isDead_110 : decode cX11_isDead 110 = .ok (.if_icmp .ge 23, 3) := by decide +kernel
theorem dX11_isDead_113 : decode cX11_isDead 113 = .ok (.aload_n 0, 1) := by decide +kernel
theorem dX11_isDead_114 : decode cX11_isDead 114 = .ok (.iload_n 2, 1) := by decide +kernel
theorem dX11_isDead_115 : decode cX11_isDead 115 = .ok (.invokevirtual 315, 3) := by decide +kernel
theorem dX11_isDead_118 : decode cX11_isDead 118 = .ok (.iload_n 1, 1) := by decide +kernel
theorem dX11_isDead_119 : decode cX11_isDead 119 = .ok (.if_icmp .ne 8, 3) := by decide +kernel
theorem dX11_isDead_122 : decode cX11_isDead 122 = .ok (.aload_n 0, 1) := by decide +kernel
theorem dX11_isDead_123 : decode cX11_isDead 123 = .ok (.iload_n 2, 1) := by decide +kernel
theorem dX11_isDead_124 : decode cX11_isDead 124 = .ok (.invokevirtual 170, 3) := by decide +kernel
theorem dX11_isDead_127 : decode cX11_isDead 127 = .ok (.iinc 2 1, 3) := by decide +kernel
theorem dX11_isDead_130 : decode cX11_isDead 130 = .ok (.goto (-23), 3) := by decide +kernel
theorem dX11_isDead_133 : decode cX11_isDead 133 = .ok (.aload_n 0, 1) := by decide +kernel
theorem dX11_isDead_134 : decode cX11_isDead 134 = .ok (.iload_n 1, 1) := by decide +kernel
theorem dX11_isDead_135 : decode cX11_isDead 135 = .ok (.invokevirtual 139, 3) := by decide +kernel
theorem dX11_isDead_138 : decode cX11_isDead 138 = .ok (.iconst (-1), 1) := by decide +kernel
theorem dX11_isDead_139 : decode cX11_isDead 139 = .ok (.if_icmp .eq 17, 3) := by decide +kernel
theorem dX11_isDead_142 : decode cX11_isDead 142 = .ok (.aload_n 0, 1) := by decide +kernel
theorem dX11_isDead_143 : decode cX11_isDead 143 = .ok (.getfield 7, 3) := by decide +kernel
theorem dX11_isDead_146 : decode cX11_isDead 146 = .ok (.bipush 112, 2) := by decide +kernel
theorem dX11_isDead_148 : decode cX11_isDead 148 = .ok (.aload_n 0, 1) := by decide +kernel
theorem dX11_isDead_149 : decode cX11_isDead 149 = .ok (.iload_n 1, 1) := by decide +kernel
theorem dX11_isDead_150 : decode cX11_isDead 150 = .ok (.invokevirtual 139, 3) := by decide +kernel
theorem dX11_isDead_153 : decode cX11_isDead 153 = .ok (.iadd, 1) := by decide +kernel
theorem dX11_isDead_154 : decode cX11_isDead 154 = .ok (.iconst 0, 1) := by decide +kernel
theorem dX11_isDead_155 : decode cX11_isDead 155 = .ok (.iastore, 1) := by decide +kernel
theorem dX11_isDead_156 : decode cX11_isDead 156 = .ok (.aload_n 0, 1) := by decide +kernel
theorem dX11_isDead_157 : decode cX11_isDead 157 = .ok (.invokevirtual 113, 3) := by decide +kernel
theorem dX11_isDead_160 : decode cX11_isDead 160 = .ok (.return_, 1) := by decide +kernel
theorem dX11_haveParentInCommon_0 : decode cX11_haveParentInCommon 0 = .ok (.aload_n 0, 1) := by decide +kernel
theorem dX11_haveParentInCommon_1 : decode cX11_haveParentInCommon 1 = .ok (.getfield 19, 3) := by decide +kernel
theorem dX11_haveParentInCommon_4 : decode cX11_haveParentInCommon 4 = .ok (.iload_n 1, 1) := by decide +kernel
theorem dX11_haveParentInCommon_5 : decode cX11_haveParentInCommon 5 = .ok (.iaload, 1) := by decide +kernel
theorem dX11_haveParentInCommon_6 : decode cX11_haveParentInCommon 6 = .ok (.ifCond .le 21, 3) := by decide +kernel
theorem dX11_haveParentInCommon_9 : decode cX11_haveParentInCommon 9 = .ok (.aload_n 0, 1) := by decide +kernel
theorem dX11_haveParentInCommon_10 : decode cX11_haveParentInCommon 10 = .ok (.iload_n 2, 1) := by decide +kernel
theorem dX11_haveParentInCommon_11 : decode cX11_haveParentInCommon 11 = .ok (.aload_n 0, 1) := by decide +kernel
theorem dX11_haveParentInCommon_12 : decode cX11_haveParentInCommon 12 = .ok (.getfield 19, 3) := by decide +kernel
theorem dX11_haveParentInCommon_15 : decode cX11_haveParentInCommon 15 = .ok (.iload_n 1, 1) := by decide +kernel
theorem dX11_haveParentInCommon_16 : decode cX11_haveParentInCommon 16 = .ok (.iaload, 1) := by decide +kernel
theorem dX11_haveParentInCommon_17 : decode cX11_haveParentInCommon 17 = .ok (.iconst 1, 1) := by decide +kernel
theorem dX11_haveParentInCommon_18 : decode cX11_haveParentInCommon 18 = .ok (.isub, 1) := by decide +kernel
theorem dX11_haveParentInCommon_19 : decode cX11_haveParentInCommon 19 = .ok (.invokevirtual 327, 3) := by decide +kernel
theorem dX11_haveParentInCommon_22 : decode cX11_haveParentInCommon 22 = .ok (.ifCond .eq 5, 3) := by decide +kernel
theorem dX11_haveParentInCommon_25 : decode cX11_haveParentInCommon 25 = .ok (.iconst 1, 1) := by decide +kernel
theorem dX11_haveParentInCommon_26 : decode cX11_haveParentInCommon 26 = .ok (.ireturn, 1) := by decide +kernel
theorem dX11_haveParentInCommon_27 : decode cX11_haveParentInCommon 27 = .ok (.aload_n 0, 1) := by decide +kernel
theorem dX11_haveParentInCommon_28 : decode cX11_haveParentInCommon 28 = .ok (.getfield 22, 3) := by decide +kernel
theorem dX11_haveParentInCommon_31 : decode cX11_haveParentInCommon 31 = .ok (.iload_n 1, 1) := by decide +kernel
theorem dX11_haveParentInCommon_32 : decode cX11_haveParentInCommon 32 = .ok (.iaload, 1) := by decide +kernel
theorem dX11_haveParentInCommon_33 : decode cX11_haveParentInCommon 33 = .ok (.ifCond .le 23, 3) := by decide +kernel
theorem dX11_haveParentInCommon_36 : decode cX11_haveParentInCommon 36 = .ok (.aload_n 0, 1) := by decide +kernel
theorem dX11_haveParentInCommon_37 : decode cX11_haveParentInCommon 37 = .ok (.iload_n 2, 1) := by decide +kernel
theorem dX11_haveParentInCommon_38 : decode cX11_haveParentInCommon 38 = .ok (.aload_n 0, 1) := by decide +kernel
theorem dX11_haveParentInCommon_39 : decode cX11_haveParentInCommon 39 = .ok (.getfield 22, 3) := by decide +kernel
theorem dX11_haveParentInCommon_42 : decode cX11_haveParentInCommon 42 = .ok (.iload_n 1, 1) := by decide +kernel
theorem dX11_haveParentInCommon_43 : decode cX11_haveParentInCommon 43 = .ok (.iaload, 1) := by decide +kernel
theorem dX11_haveParentInCommon_44 : decode cX11_haveParentInCommon 44 = .ok (.iconst 1, 1) := by decide +kernel
theorem dX11_haveParentInCommon_45 : decode cX11_haveParentInCommon 45 = .ok (.isub, 1) := by decide +kernel
theorem dX11_haveParentInCommon_46 : decode cX11_haveParentInCommon 46 = .ok (.invokevirtual 327, 3) := by decide +kernel
theorem dX11_haveParentInCommon_49 : decode cX11_haveParentInCommon 49 = .ok (.ifCond .eq 7, 3) := by decide +kernel
theorem dX11_haveParentInCommon_52 : decode cX11_haveParentInCommon 52 = .ok (.iconst 1, 1) := by decide +kernel
theorem dX11_haveParentInCommon_53 : decode cX11_haveParentInCommon 53 = .ok (.goto 4, 3) := by decide +kernel
theorem dX11_haveParentInCommon_56 : decode cX11_haveParentInCommon 56 = .ok (.iconst 0, 1) := by decide +kernel
theorem dX11_haveParentInCommon_57 : decode cX11_haveParentInCommon 57 = .ok (.ireturn, 1) := by decide +kernel
theorem dX11_canWed_0 : decode cX11_canWed 0 = .ok (.aload_n 0, 1) := by decide +kernel
theorem dX11_canWed_1 : decode cX11_canWed 1 = .ok (.iload_n 1, 1) := by decide +kernel
theorem dX11_canWed_2 : decode cX11_canWed 2 = .ok (.invokevirtual 151, 3) := by decide +kernel
theorem dX11_canWed_5 : decode cX11_canWed 5 = .ok (.ifCond .eq 34, 3) := by decide +kernel
theorem dX11_canWed_8 : decode cX11_canWed 8 = .ok (.aload_n 0, 1) := by decide +kernel
theorem dX11_canWed_9 : decode cX11_canWed 9 = .ok (.iload_n 2, 1) := by decide +kernel
theorem dX11_canWed_10 : decode cX11_canWed 10 = .ok (.invokevirtual 151, 3) := by decide +kernel
theorem dX11_canWed_13 : decode cX11_canWed 13 = .ok (.ifCond .eq 26, 3) := by decide +kernel
theorem dX11_canWed_16 : decode cX11_canWed 16 = .ok (.iload_n 1, 1) := by decide +kernel
theorem dX11_canWed_17 : decode cX11_canWed 17 = .ok (.iload_n 2, 1) := by decide +kernel
theorem dX11_canWed_18 : decode cX11_canWed 18 = .ok (.if_icmp .eq 21, 3) := by decide +kernel
theorem dX11_canWed_21 : decode cX11_canWed 21 = .ok (.aload_n 0, 1) := by decide +kernel
theorem dX11_canWed_22 : decode cX11_canWed 22 = .ok (.iload_n 1, 1) := by decide +kernel
theorem dX11_canWed_23 : decode cX11_canWed 23 = .ok (.invokevirtual 139, 3) := by decide +kernel
theorem dX11_canWed_26 : decode cX11_canWed 26 = .ok (.iconst (-1), 1) := by decide +kernel
theorem dX11_canWed_27 : decode cX11_canWed 27 = .ok (.if_icmp .ne 12, 3) := by decide +kernel
theorem dX11_canWed_30 : decode cX11_canWed 30 = .ok (.aload_n 0, 1) := by decide +kernel
theorem dX11_canWed_31 : decode cX11_canWed 31 = .ok (.iload_n 2, 1) := by decide +kernel
theorem dX11_canWed_32 : decode cX11_canWed 32 = .ok (.invokevirtual 139, 3) := by decide +kernel
theorem dX11_canWed_35 : decode cX11_canWed 35 = .ok (.iconst (-1), 1) := by decide +kernel
theorem dX11_canWed_36 : decode cX11_canWed 36 = .ok (.if_icmp .eq 5, 3) := by decide +kernel
theorem dX11_canWed_39 : decode cX11_canWed 39 = .ok (.iconst 0, 1) := by decide +kernel
theorem dX11_canWed_40 : decode cX11_canWed 40 = .ok (.ireturn, 1) := by decide +kernel
theorem dX11_canWed_41 : decode cX11_canWed 41 = .ok (.aload_n 0, 1) := by decide +kernel
theorem dX11_canWed_42 : decode cX11_canWed 42 = .ok (.iload_n 1, 1) := by decide +kernel
theorem dX11_canWed_43 : decode cX11_canWed 43 = .ok (.iload_n 2, 1) := by decide +kernel
theorem dX11_canWed_44 : decode cX11_canWed 44 = .ok (.invokevirtual 327, 3) := by decide +kernel
theorem dX11_canWed_47 : decode cX11_canWed 47 = .ok (.ifCond .ne 25, 3) := by decide +kernel
theorem dX11_canWed_50 : decode cX11_canWed 50 = .ok (.aload_n 0, 1) := by decide +kernel
theorem dX11_canWed_51 : decode cX11_canWed 51 = .ok (.iload_n 2, 1) := by decide +kernel
theorem dX11_canWed_52 : decode cX11_canWed 52 = .ok (.iload_n 1, 1) := by decide +kernel
theorem dX11_canWed_53 : decode cX11_canWed 53 = .ok (.invokevirtual 327, 3) := by decide +kernel
theorem dX11_canWed_56 : decode cX11_canWed 56 = .ok (.ifCond .ne 16, 3) := by decide +kernel
theorem dX11_canWed_59 : decode cX11_canWed 59 = .ok (.aload_n 0, 1) := by decide +kernel
theorem dX11_canWed_60 : decode cX11_canWed 60 = .ok (.iload_n 1, 1) := by decide +kernel
theorem dX11_canWed_61 : decode cX11_canWed 61 = .ok (.iload_n 2, 1) := by decide +kernel
theorem dX11_canWed_62 : decode cX11_canWed 62 = .ok (.invokevirtual 351, 3) := by decide +kernel
theorem dX11_canWed_65 : decode cX11_canWed 65 = .ok (.ifCond .ne 7, 3) := by decide +kernel
theorem dX11_canWed_68 : decode cX11_canWed 68 = .ok (.iconst 1, 1) := by decide +kernel
theorem dX11_canWed_69 : decode cX11_canWed 69 = .ok (.goto 4, 3) := by decide +kernel
theorem dX11_canWed_72 : decode cX11_canWed 72 = .ok (.iconst 0, 1) := by decide +kernel
theorem dX11_canWed_73 : decode cX11_canWed 73 = .ok (.ireturn, 1) := by decide +kernel
theorem dX11_weds_0 : decode cX11_weds 0 = .ok (.aload_n 0, 1) := by decide +kernel
theorem dX11_weds_1 : decode cX11_weds 1 = .ok (.getfield 7, 3) := by decide +kernel
theorem dX11_weds_4 : decode cX11_weds 4 = .ok (.bipush 112, 2) := by decide +kernel
theorem dX11_weds_6 : decode cX11_weds 6 = .ok (.iload_n 1, 1) := by decide +kernel
theorem dX11_weds_7 : decode cX11_weds 7 = .ok (.iadd, 1) := by decide +kernel
theorem dX11_weds_8 : decode cX11_weds 8 = .ok (.iload_n 2, 1) := by decide +kernel
theorem dX11_weds_9 : decode cX11_weds 9 = .ok (.iconst 1, 1) := by decide +kernel
theorem dX11_weds_10 : decode cX11_weds 10 = .ok (.iadd, 1) := by decide +kernel
theorem dX11_weds_11 : decode cX11_weds 11 = .ok (.iastore, 1) := by decide +kernel
theorem dX11_weds_12 : decode cX11_weds 12 = .ok (.aload_n 0, 1) := by decide +kernel
theorem dX11_weds_13 : decode cX11_weds 13 = .ok (.getfield 7, 3) := by decide +kernel
theorem dX11_weds_16 : decode cX11_weds 16 = .ok (.bipush 112, 2) := by decide +kernel
theorem dX11_weds_18 : decode cX11_weds 18 = .ok (.iload_n 2, 1) := by decide +kernel
theorem dX11_weds_19 : decode cX11_weds 19 = .ok (.iadd, 1) := by decide +kernel
theorem dX11_weds_20 : decode cX11_weds 20 = .ok (.iload_n 1, 1) := by decide +kernel
theorem dX11_weds_21 : decode cX11_weds 21 = .ok (.iconst 1, 1) := by decide +kernel
theorem dX11_weds_22 : decode cX11_weds 22 = .ok (.iadd, 1) := by decide +kernel
theorem dX11_weds_23 : decode cX11_weds 23 = .ok (.iastore, 1) := by decide +kernel
theorem dX11_weds_24 : decode cX11_weds 24 = .ok (.aload_n 0, 1) := by decide +kernel
theorem dX11_weds_25 : decode cX11_weds 25 = .ok (.invokevirtual 113, 3) := by decide +kernel
theorem dX11_weds_28 : decode cX11_weds 28 = .ok (.return_, 1) := by decide +kernel
theorem dX11_wed_0 : decode cX11_wed 0 = .ok (.aload_n 0, 1) := by decide +kernel
theorem dX11_wed_1 : decode cX11_wed 1 = .ok (.iconst 0, 1) := by decide +kernel
theorem dX11_wed_2 : decode cX11_wed 2 = .ok (.putfield 107, 3) := by decide +kernel
theorem dX11_wed_5 : decode cX11_wed 5 = .ok (.aload_n 0, 1) := by decide +kernel
theorem dX11_wed_6 : decode cX11_wed 6 = .ok (.iload_n 1, 1) := by decide +kernel
theorem dX11_wed_7 : decode cX11_wed 7 = .ok (.iload_n 2, 1) := by decide +kernel
theorem dX11_wed_8 : decode cX11_wed 8 = .ok (.invokevirtual 354, 3) := by decide +kernel
theorem dX11_wed_11 : decode cX11_wed 11 = .ok (.ifCond .ne 5, 3) := by decide +kernel
theorem dX11_wed_14 : decode cX11_wed 14 = .ok (.iconst 0, 1) := by decide +kernel
theorem dX11_wed_15 : decode cX11_wed 15 = .ok (.ireturn, 1) := by decide +kernel
theorem dX11_wed_16 : decode cX11_wed 16 = .ok (.aload_n 0, 1) := by decide +kernel
theorem dX11_wed_17 : decode cX11_wed 17 = .ok (.invokevirtual 357, 3) := by decide +kernel
theorem dX11_wed_20 : decode cX11_wed 20 = .ok (.aload_n 0, 1) := by decide +kernel
theorem dX11_wed_21 : decode cX11_wed 21 = .ok (.iload_n 1, 1) := by decide +kernel
theorem dX11_wed_22 : decode cX11_wed 22 = .ok (.iload_n 2, 1) := by decide +kernel
theorem dX11_wed_23 : decode cX11_wed 23 = .ok (.invokevirtual 360, 3) := by decide +kernel
theorem dX11_wed_26 : decode cX11_wed 26 = .ok (.iconst 1, 1) := by decide +kernel
theorem dX11_wed_27 : decode cX11_wed 27 = .ok (.ireturn, 1) := by decide +kernel
theorem dX11_part_0 : decode cX11_part 0 = .ok (.aload_n 0, 1) := by decide +kernel
theorem dX11_part_1 : decode cX11_part 1 = .ok (.iconst 0, 1) := by decide +kernel
theorem dX11_part_2 : decode cX11_part 2 = .ok (.putfield 107, 3) := by decide +kernel
theorem dX11_part_5 : decode cX11_part 5 = .ok (.aload_n 0, 1) := by decide +kernel
theorem dX11_part_6 : decode cX11_part 6 = .ok (.iload_n 1, 1) := by decide +kernel
theorem dX11_part_7 : decode cX11_part 7 = .ok (.invokevirtual 128, 3) := by decide +kernel
theorem dX11_part_10 : decode cX11_part 10 = .ok (.ifCond .eq 34, 3) := by decide +kernel
theorem dX11_part_13 : decode cX11_part 13 = .ok (.aload_n 0, 1) := by decide +kernel
theorem dX11_part_14 : decode cX11_part 14 = .ok (.iload_n 2, 1) := by decide +kernel
theorem dX11_part_15 : decode cX11_part 15 = .ok (.invokevirtual 128, 3) := by decide +kernel
theorem dX11_part_18 : decode cX11_part 18 = .ok (.ifCond .eq 26, 3) := by decide +kernel
theorem dX11_part_21 : decode cX11_part 21 = .ok (.iload_n 1, 1) := by decide +kernel
theorem dX11_part_22 : decode cX11_part 22 = .ok (.iload_n 2, 1) := by decide +kernel
theorem dX11_part_23 : decode cX11_part 23 = .ok (.if_icmp .eq 21, 3) := by decide +kernel
theorem dX11_part_26 : decode cX11_part 26 = .ok (.aload_n 0, 1) := by decide +kernel
theorem dX11_part_27 : decode cX11_part 27 = .ok (.iload_n 1, 1) := by decide +kernel
theorem dX11_part_28 : decode cX11_part 28 = .ok (.invokevirtual 139, 3) := by decide +kernel
theorem dX11_part_31 : decode cX11_part 31 = .ok (.iload_n 2, 1) := by decide +kernel
theorem dX11_part_32 : decode cX11_part 32 = .ok (.if_icmp .ne 12, 3) := by decide +kernel
theorem dX11_part_35 : decode cX11_part 35 = .ok (.aload_n 0, 1) := by decide +kernel
theorem dX11_part_36 : decode cX11_part 36 = .ok (.iload_n 2, 1) := by decide +kernel
theorem dX11_part_37 : decode cX11_part 37 = .ok (.invokevirtual 139, 3) := by decide +kernel
theorem dX11_part_40 : decode cX11_part 40 = .ok (.iload_n 1, 1) := by decide +kernel
theorem dX11_part_41 : decode cX11_part 41 = .ok (.if_icmp .eq 5, 3) := by decide +kernel
theorem dX11_part_44 : decode cX11_part 44 = .ok (.iconst 0, 1) := by decide +kernel
theorem dX11_part_45 : decode cX11_part 45 = .ok (.ireturn, 1) := by decide +kernel
theorem dX11_part_46 : decode cX11_part 46 = .ok (.aload_n 0, 1) := by decide +kernel
theorem dX11_part_47 : decode cX11_part 47 = .ok (.invokevirtual 357, 3) := by decide +kernel
theorem dX11_part_50 : decode cX11_part 50 = .ok (.aload_n 0, 1) := by decide +kernel
theorem dX11_part_51 : decode cX11_part 51 = .ok (.getfield 7, 3) := by decide +kernel
theorem dX11_part_54 : decode cX11_part 54 = .ok (.bipush 112, 2) := by decide +kernel
theorem dX11_part_56 : decode cX11_part 56 = .ok (.iload_n 1, 1) := by decide +kernel
theorem dX11_part_57 : decode cX11_part 57 = .ok (.iadd, 1) := by decide +kernel
theorem dX11_part_58 : decode cX11_part 58 = .ok (.iconst 0, 1) := by decide +kernel
theorem dX11_part_59 : decode cX11_part 59 = .ok (.iastore, 1) := by decide +kernel
theorem dX11_part_60 : decode cX11_part 60 = .ok (.aload_n 0, 1) := by decide +kernel
theorem dX11_part_61 : decode cX11_part 61 = .ok (.getfield 7, 3) := by decide +kernel
theorem dX11_part_64 : decode cX11_part 64 = .ok (.bipush 112, 2) := by decide +kernel
theorem dX11_part_66 : decode cX11_part 66 = .ok (.iload_n 2, 1) := by decide +kernel
theorem dX11_part_67 : decode cX11_part 67 = .ok (.iadd, 1) := by decide +kernel
theorem dX11_part_68 : decode cX11_part 68 = .ok (.iconst 0, 1) := by decide +kernel
theorem dX11_part_69 : decode cX11_part 69 = .ok (.iastore, 1) := by decide +kernel
theorem dX11_part_70 : decode cX11_part 70 = .ok (.aload_n 0, 1) := by decide +kernel
theorem dX11_part_71 : decode cX11_part 71 = .ok (.invokevirtual 113, 3) := by decide +kernel
theorem dX11_part_74 : decode cX11_part 74 = .ok (.iconst 1, 1) := by decide +kernel
theorem dX11_part_75 : decode cX11_part 75 = .ok (.ireturn, 1) := by decide +kernel
theorem dX11_canGo_0 : decode cX11_canGo 0 = .ok (.aload_n 0, 1) := by decide +kernel
theorem dX11_canGo_1 : decode cX11_canGo 1 = .ok (.iload_n 1, 1) := by decide +kernel
theorem dX11_canGo_2 : decode cX11_canGo 2 = .ok (.invokevirtual 163, 3) := by decide +kernel
theorem dX11_canGo_5 : decode cX11_canGo 5 = .ok (.ifCond .eq 20, 3) := by decide +kernel
theorem dX11_canGo_8 : decode cX11_canGo 8 = .ok (.aload_n 0, 1) := by decide +kernel
theorem dX11_canGo_9 : decode cX11_canGo 9 = .ok (.iload_n 2, 1) := by decide +kernel
theorem dX11_canGo_10 : decode cX11_canGo 10 = .ok (.invokevirtual 151, 3) := by decide +kernel
theorem dX11_canGo_13 : decode cX11_canGo 13 = .ok (.ifCond .eq 12, 3) := by decide +kernel
theorem dX11_canGo_16 : decode cX11_canGo 16 = .ok (.aload_n 0, 1) := by decide +kernel
theorem dX11_canGo_17 : decode cX11_canGo 17 = .ok (.iload_n 1, 1) := by decide +kernel
theorem dX11_canGo_18 : decode cX11_canGo 18 = .ok (.invokevirtual 315, 3) := by decide +kernel
theorem dX11_canGo_21 : decode cX11_canGo 21 = .ok (.iconst (-1), 1) := by decide +kernel
theorem dX11_canGo_22 : decode cX11_canGo 22 = .ok (.if_icmp .eq 5, 3) := by decide +kernel
theorem dX11_canGo_25 : decode cX11_canGo 25 = .ok (.iconst 0, 1) := by decide +kernel
theorem dX11_canGo_26 : decode cX11_canGo 26 = .ok (.ireturn, 1) := by decide +kernel
theorem dX11_canGo_27 : decode cX11_canGo 27 = .ok (.aload_n 0, 1) := by decide +kernel
theorem dX11_canGo_28 : decode cX11_canGo 28 = .ok (.iload_n 1, 1) := by decide +kernel
theorem dX11_canGo_29 : decode cX11_canGo 29 = .ok (.invokevirtual 160, 3) := by decide +kernel
theorem dX11_canGo_32 : decode cX11_canGo 32 = .ok (.istore_n 3, 1) := by decide +kernel
theorem dX11_canGo_33 : decode cX11_canGo 33 = .ok (.iload_n 3, 1) := by decide +kernel
theorem dX11_canGo_34 : decode cX11_canGo 34 = .ok (.iconst (-1), 1) := by decide +kernel
theorem dX11_canGo_35 : decode cX11_canGo 35 = .ok (.if_icmp .eq 20, 3) := by decide +kernel
theorem dX11_canGo_38 : decode cX11_canGo 38 = .ok (.iload_n 3, 1) := by decide +kernel
theorem dX11_canGo_39 : decode cX11_canGo 39 = .ok (.iload_n 2, 1) := by decide +kernel
theorem dX11_canGo_40 : decode cX11_canGo 40 = .ok (.if_icmp .eq 15, 3) := by decide +kernel
theorem dX11_canGo_43 : decode cX11_canGo 43 = .ok (.aload_n 0, 1) := by decide +kernel
theorem dX11_canGo_44 : decode cX11_canGo 44 = .ok (.iload_n 3, 1) := by decide +kernel
theorem dX11_canGo_45 : decode cX11_canGo 45 = .ok (.invokevirtual 132, 3) := by decide +kernel
theorem dX11_canGo_48 : decode cX11_canGo 48 = .ok (.ifCond .eq 7, 3) := by decide +kernel
theorem dX11_canGo_51 : decode cX11_canGo 51 = .ok (.iconst 1, 1) := by decide +kernel
theorem dX11_canGo_52 : decode cX11_canGo 52 = .ok (.goto 4, 3) := by decide +kernel
theorem dX11_canGo_55 : decode cX11_canGo 55 = .ok (.iconst 0, 1) := by decide +kernel
theorem dX11_canGo_56 : decode cX11_canGo 56 = .ok (.ireturn, 1) := by decide +kernel
theorem dX11_lend_0 : decode cX11_lend 0 = .ok (.aload_n 0, 1) := by decide +kernel
theorem dX11_lend_1 : decode cX11_lend 1 = .ok (.iconst 0, 1) := by decide +kernel
theorem dX11_lend_2 : decode cX11_lend 2 = .ok (.putfield 107, 3) := by decide +kernel
theorem dX11_lend_5 : decode cX11_lend 5 = .ok (.aload_n 0, 1) := by decide +kernel
theorem dX11_lend_6 : decode cX11_lend 6 = .ok (.iload_n 1, 1) := by decide +kernel
theorem dX11_lend_7 : decode cX11_lend 7 = .ok (.iload_n 2, 1) := by decide +kernel
theorem dX11_lend_8 : decode cX11_lend 8 = .ok (.invokevirtual 363, 3) := by decide +kernel
theorem dX11_lend_11 : decode cX11_lend 11 = .ok (.ifCond .eq 33, 3) := by decide +kernel
theorem dX11_lend_14 : decode cX11_lend 14 = .ok (.aload_n 0, 1) := by decide +kernel
theorem dX11_lend_15 : decode cX11_lend 15 = .ok (.iload_n 3, 1) := by decide +kernel
theorem dX11_lend_16 : decode cX11_lend 16 = .ok (.iconst 1, 1) := by decide +kernel
theorem dX11_lend_17 : decode cX11_lend 17 = .ok (.bipush 99, 2) := by decide +kernel
theorem dX11_lend_19 : decode cX11_lend 19 = .ok (.invokevirtual 147, 3) := by decide +kernel
theorem dX11_lend_22 : decode cX11_lend 22 = .ok (.ifCond .eq 22, 3) := by decide +kernel
theorem dX11_lend_25 : decode cX11_lend 25 = .ok (.aload_n 0, 1) := by decide +kernel
theorem dX11_lend_26 : decode cX11_lend 26 = .ok (.iload 4, 2) := by decide +kernel
theorem dX11_lend_28 : decode cX11_lend 28 = .ok (.iconst 0, 1) := by decide +kernel
theorem dX11_lend_29 : decode cX11_lend 29 = .ok (.aload_n 0, 1) := by decide +kernel
theorem dX11_lend_30 : decode cX11_lend 30 = .ok (.getfield 7, 3) := by decide +kernel
theorem dX11_lend_33 : decode cX11_lend 33 = .ok (.bipush 100, 2) := by decide +kernel
theorem dX11_lend_35 : decode cX11_lend 35 = .ok (.iload_n 2, 1) := by decide +kernel
theorem dX11_lend_36 : decode cX11_lend 36 = .ok (.iadd, 1) := by decide +kernel
theorem dX11_lend_37 : decode cX11_lend 37 = .ok (.iaload, 1) := by decide +kernel
theorem dX11_lend_38 : decode cX11_lend 38 = .ok (.invokevirtual 147, 3) := by decide +kernel
theorem dX11_lend_41 : decode cX11_lend 41 = .ok (.ifCond .ne 5, 3) := by decide +kernel
theorem dX11_lend_44 : decode cX11_lend 44 = .ok (.iconst 0, 1) := by decide +kernel
theorem dX11_lend_45 : decode cX11_lend 45 = .ok (.ireturn, 1) := by decide +kernel
theorem dX11_lend_46 : decode cX11_lend 46 = .ok (.aload_n 0, 1) := by decide +kernel
theorem dX11_lend_47 : decode cX11_lend 47 = .ok (.iload_n 1, 1) := by decide +kernel
theorem dX11_lend_48 : decode cX11_lend 48 = .ok (.invokevirtual 160, 3) := by decide +kernel
theorem dX11_lend_51 : decode cX11_lend 51 = .ok (.istore 5, 2) := by decide +kernel
theorem dX11_lend_53 : decode cX11_lend 53 = .ok (.aload_n 0, 1) := by decide +kernel
theorem dX11_lend_54 : decode cX11_lend 54 = .ok (.getfield 7, 3) := by decide +kernel
theorem dX11_lend_57 : decode cX11_lend 57 = .ok (.bipush 100, 2) := by decide +kernel
theorem dX11_lend_59 : decode cX11_lend 59 = .ok (.iload 5, 2) := by decide +kernel
theorem dX11_lend_61 : decode cX11_lend 61 = .ok (.iadd, 1) := by decide +kernel
theorem dX11_lend_62 : decode cX11_lend 62 = .ok (.iaload, 1) := by decide +kernel
theorem dX11_lend_63 : decode cX11_lend 63 = .ok (.iload 4, 2) := by decide +kernel
theorem dX11_lend_65 : decode cX11_lend 65 = .ok (.iadd, 1) := by decide +kernel
theorem dX11_lend_66 : decode cX11_lend 66 = .ok (.ldc 146, 2) := by decide +kernel
theorem dX11_lend_68 : decode cX11_lend 68 = .ok (.if_icmp .le 5, 3) := by decide +kernel
theorem dX11_lend_71 : decode cX11_lend 71 = .ok (.iconst 0, 1) := by decide +kernel
theorem dX11_lend_72 : decode cX11_lend 72 = .ok (.ireturn, 1) := by decide +kernel
theorem dX11_lend_73 : decode cX11_lend 73 = .ok (.aload_n 0, 1) := by decide +kernel
theorem dX11_lend_74 : decode cX11_lend 74 = .ok (.invokevirtual 357, 3) := by decide +kernel
theorem dX11_lend_77 : decode cX11_lend 77 = .ok (.aload_n 0, 1) := by decide +kernel
theorem dX11_lend_78 : decode cX11_lend 78 = .ok (.getfield 7, 3) := by decide +kernel
theorem dX11_lend_81 : decode cX11_lend 81 = .ok (.bipush 100, 2) := by decide +kernel
theorem dX11_lend_83 : decode cX11_lend 83 = .ok (.iload_n 2, 1) := by decide +kernel
theorem dX11_lend_84 : decode cX11_lend 84 = .ok (.iadd, 1) := by decide +kernel
theorem dX11_lend_85 : decode cX11_lend 85 = .ok (.aload_n 0, 1) := by decide +kernel
theorem dX11_lend_86 : decode cX11_lend 86 = .ok (.getfield 7, 3) := by decide +kernel
theorem dX11_lend_89 : decode cX11_lend 89 = .ok (.bipush 100, 2) := by decide +kernel
theorem dX11_lend_91 : decode cX11_lend 91 = .ok (.iload_n 2, 1) := by decide +kernel
theorem dX11_lend_92 : decode cX11_lend 92 = .ok (.iadd, 1) := by decide +kernel
theorem dX11_lend_93 : decode cX11_lend 93 = .ok (.iaload, 1) := by decide +kernel
theorem dX11_lend_94 : decode cX11_lend 94 = .ok (.iload 4, 2) := by decide +kernel
theorem dX11_lend_96 : decode cX11_lend 96 = .ok (.isub, 1) := by decide +kernel
theorem dX11_lend_97 : decode cX11_lend 97 = .ok (.iastore, 1) := by decide +kernel
theorem dX11_lend_98 : decode cX11_lend 98 = .ok (.aload_n 0, 1) := by decide +kernel
theorem dX11_lend_99 : decode cX11_lend 99 = .ok (.getfield 7, 3) := by decide +kernel
theorem dX11_lend_102 : decode cX11_lend 102 = .ok (.bipush 100, 2) := by decide +kernel
theorem dX11_lend_104 : decode cX11_lend 104 = .ok (.iload 5, 2) := by decide +kernel
theorem dX11_lend_106 : decode cX11_lend 106 = .ok (.iadd, 1) := by decide +kernel
theorem dX11_lend_107 : decode cX11_lend 107 = .ok (.aload_n 0, 1) := by decide +kernel
theorem dX11_lend_108 : decode cX11_lend 108 = .ok (.getfield 7, 3) := by decide +kernel
theorem dX11_lend_111 : decode cX11_lend 111 = .ok (.bipush 100, 2) := by decide +kernel
theorem dX11_lend_113 : decode cX11_lend 113 = .ok (.iload 5, 2) := by decide +kernel
theorem dX11_lend_115 : decode cX11_lend 115 = .ok (.iadd, 1) := by decide +kernel
theorem dX11_lend_116 : decode cX11_lend 116 = .ok (.iaload, 1) := by decide +kernel
theorem dX11_lend_117 : decode cX11_lend 117 = .ok (.iload 4, 2) := by decide +kernel
theorem dX11_lend_119 : decode cX11_lend 119 = .ok (.iadd, 1) := by decide +kernel
theorem dX11_lend_120 : decode cX11_lend 120 = .ok (.iastore, 1) := by decide +kernel
theorem dX11_lend_121 : decode cX11_lend 121 = .ok (.aload_n 0, 1) := by decide +kernel
theorem dX11_lend_122 : decode cX11_lend 122 = .ok (.getfield 7, 3) := by decide +kernel
theorem dX11_lend_125 : decode cX11_lend 125 = .ok (.bipush 32, 2) := by decide +kernel
theorem dX11_lend_127 : decode cX11_lend 127 = .ok (.iload_n 1, 1) := by decide +kernel
theorem dX11_lend_128 : decode cX11_lend 128 = .ok (.iadd, 1) := by decide +kernel
theorem dX11_lend_129 : decode cX11_lend 129 = .ok (.iload_n 2, 1) := by decide +kernel
theorem dX11_lend_130 : decode cX11_lend 130 = .ok (.iconst 1, 1) := by decide +kernel
theorem dX11_lend_131 : decode cX11_lend 131 = .ok (.iadd, 1) := by decide +kernel
theorem dX11_lend_132 : decode cX11_lend 132 = .ok (.iastore, 1) := by decide +kernel
theorem dX11_lend_133 : decode cX11_lend 133 = .ok (.aload_n 0, 1) := by decide +kernel
theorem dX11_lend_134 : decode cX11_lend 134 = .ok (.getfield 7, 3) := by decide +kernel
theorem dX11_lend_137 : decode cX11_lend 137 = .ok (.bipush 60, 2) := by decide +kernel
theorem dX11_lend_139 : decode cX11_lend 139 = .ok (.iload_n 1, 1) := by decide +kernel
theorem dX11_lend_140 : decode cX11_lend 140 = .ok (.iadd, 1) := by decide +kernel
theorem dX11_lend_141 : decode cX11_lend 141 = .ok (.aload_n 0, 1) := by decide +kernel
theorem dX11_lend_142 : decode cX11_lend 142 = .ok (.getfield 7, 3) := by decide +kernel
theorem dX11_lend_145 : decode cX11_lend 145 = .ok (.iconst 0, 1) := by decide +kernel
theorem dX11_lend_146 : decode cX11_lend 146 = .ok (.iaload, 1) := by decide +kernel
theorem dX11_lend_147 : decode cX11_lend 147 = .ok (.iload_n 3, 1) := by decide +kernel
theorem dX11_lend_148 : decode cX11_lend 148 = .ok (.iadd, 1) := by decide +kernel
theorem dX11_lend_149 : decode cX11_lend 149 = .ok (.iastore, 1) := by decide +kernel
theorem dX11_lend_150 : decode cX11_lend 150 = .ok (.iconst 1, 1) := by decide +kernel
theorem dX11_lend_151 : decode cX11_lend 151 = .ok (.ireturn, 1) := by decide +kernel
theorem dX11_give_0 : decode cX11_give 0 = .ok (.aload_n 0, 1) := by decide +kernel
theorem dX11_give_1 : decode cX11_give 1 = .ok (.iconst 0, 1) := by decide +kernel
theorem dX11_give_2 : decode cX11_give 2 = .ok (.putfield 107, 3) := by decide +kernel
theorem dX11_give_5 : decode cX11_give 5 = .ok (.aload_n 0, 1) := by decide +kernel
theorem dX11_give_6 : decode cX11_give 6 = .ok (.iload_n 1, 1) := by decide +kernel
theorem dX11_give_7 : decode cX11_give 7 = .ok (.iload_n 2, 1) := by decide +kernel
theorem dX11_give_8 : decode cX11_give 8 = .ok (.invokevirtual 363, 3) := by decide +kernel
theorem dX11_give_11 : decode cX11_give 11 = .ok (.ifCond .ne 5, 3) := by decide +kernel
theorem dX11_give_14 : decode cX11_give 14 = .ok (.iconst 0, 1) := by decide +kernel
theorem dX11_give_15 : decode cX11_give 15 = .ok (.ireturn, 1) := by decide +kernel
theorem dX11_give_16 : decode cX11_give 16 = .ok (.aload_n 0, 1) := by decide +kernel
theorem dX11_give_17 : decode cX11_give 17 = .ok (.invokevirtual 357, 3) := by decide +kernel
theorem dX11_give_20 : decode cX11_give 20 = .ok (.aload_n 0, 1) := by decide +kernel
theorem dX11_give_21 : decode cX11_give 21 = .ok (.iload_n 1, 1) := by decide +kernel
theorem dX11_give_22 : decode cX11_give 22 = .ok (.iload_n 2, 1) := by decide +kernel
theorem dX11_give_23 : decode cX11_give 23 = .ok (.iconst 1, 1) := by decide +kernel
theorem dX11_give_24 : decode cX11_give 24 = .ok (.invokevirtual 166, 3) := by decide +kernel
theorem dX11_give_27 : decode cX11_give 27 = .ok (.iconst 1, 1) := by decide +kernel
theorem dX11_give_28 : decode cX11_give 28 = .ok (.ireturn, 1) := by decide +kernel
theorem dX11_duel_0 : decode cX11_duel 0 = .ok (.aload_n 0, 1) := by decide +kernel
theorem dX11_duel_1 : decode cX11_duel 1 = .ok (.iconst 0, 1) := by decide +kernel
theorem dX11_duel_2 : decode cX11_duel 2 = .ok (.putfield 107, 3) := by decide +kernel
theorem dX11_duel_5 : decode cX11_duel 5 = .ok (.aload_n 0, 1) := by decide +kernel
theorem dX11_duel_6 : decode cX11_duel 6 = .ok (.iload_n 1, 1) := by decide +kernel
theorem dX11_duel_7 : decode cX11_duel 7 = .ok (.invokevirtual 151, 3) := by decide +kernel
theorem dX11_duel_10 : decode cX11_duel 10 = .ok (.ifCond .eq 24, 3) := by decide +kernel
theorem dX11_duel_13 : decode cX11_duel 13 = .ok (.aload_n 0, 1) := by decide +kernel
theorem dX11_duel_14 : decode cX11_duel 14 = .ok (.iload_n 2, 1) := by decide +kernel
theorem dX11_duel_15 : decode cX11_duel 15 = .ok (.invokevirtual 151, 3) := by decide +kernel
theorem dX11_duel_18 : decode cX11_duel 18 = .ok (.ifCond .eq 16, 3) := by decide +kernel
theorem dX11_duel_21 : decode cX11_duel 21 = .ok (.iload_n 1, 1) := by decide +kernel
theorem dX11_duel_22 : decode cX11_duel 22 = .ok (.iload_n 2, 1) := by decide +kernel
theorem dX11_duel_23 : decode cX11_duel 23 = .ok (.if_icmp .eq 11, 3) := by decide +kernel
theorem dX11_duel_26 : decode cX11_duel 26 = .ok (.aload_n 0, 1) := by decide +kernel
theorem dX11_duel_27 : decode cX11_duel 27 = .ok (.iload_n 3, 1) := by decide +kernel
theorem dX11_duel_28 : decode cX11_duel 28 = .ok (.invokevirtual 163, 3) := by decide +kernel
theorem dX11_duel_31 : decode cX11_duel 31 = .ok (.ifCond .ne 5, 3) := by decide +kernel
theorem dX11_duel_34 : decode cX11_duel 34 = .ok (.iconst (-1), 1) := by decide +kernel
theorem dX11_duel_35 : decode cX11_duel 35 = .ok (.ireturn, 1) := by decide +kernel
theorem dX11_duel_36 : decode cX11_duel 36 = .ok (.aload_n 0, 1) := by decide +kernel
theorem dX11_duel_37 : decode cX11_duel 37 = .ok (.iload_n 3, 1) := by decide +kernel
theorem dX11_duel_38 : decode cX11_duel 38 = .ok (.invokevirtual 160, 3) := by decide +kernel
theorem dX11_duel_41 : decode cX11_duel 41 = .ok (.iload_n 1, 1) := by decide +kernel
theorem dX11_duel_42 : decode cX11_duel 42 = .ok (.if_icmp .eq 14, 3) := by decide +kernel
theorem dX11_duel_45 : decode cX11_duel 45 = .ok (.aload_n 0, 1) := by decide +kernel
theorem dX11_duel_46 : decode cX11_duel 46 = .ok (.iload_n 3, 1) := by decide +kernel
theorem dX11_duel_47 : decode cX11_duel 47 = .ok (.invokevirtual 160, 3) := by decide +kernel
theorem dX11_duel_50 : decode cX11_duel 50 = .ok (.iload_n 2, 1) := by decide +kernel
theorem dX11_duel_51 : decode cX11_duel 51 = .ok (.if_icmp .eq 5, 3) := by decide +kernel
theorem dX11_duel_54 : decode cX11_duel 54 = .ok (.iconst (-1), 1) := by decide +kernel
theorem dX11_duel_55 : decode cX11_duel 55 = .ok (.ireturn, 1) := by decide +kernel
theorem dX11_duel_56 : decode cX11_duel 56 = .ok (.aload_n 0, 1) := by decide +kernel
theorem dX11_duel_57 : decode cX11_duel 57 = .ok (.invokevirtual 357, 3) := by decide +kernel
theorem dX11_duel_60 : decode cX11_duel 60 = .ok (.aload_n 0, 1) := by decide +kernel
theorem dX11_duel_61 : decode cX11_duel 61 = .ok (.aload_n 0, 1) := by decide +kernel
theorem dX11_duel_62 : decode cX11_duel 62 = .ok (.getfield 31, 3) := by decide +kernel
theorem dX11_duel_65 : decode cX11_duel 65 = .ok (.iload_n 1, 1) := by decide +kernel
theorem dX11_duel_66 : decode cX11_duel 66 = .ok (.iaload, 1) := by decide +kernel
theorem dX11_duel_67 : decode cX11_duel 67 = .ok (.aload_n 0, 1) := by decide +kernel
theorem dX11_duel_68 : decode cX11_duel 68 = .ok (.getfield 31, 3) := by decide +kernel
theorem dX11_duel_71 : decode cX11_duel 71 = .ok (.iload_n 2, 1) := by decide +kernel
theorem dX11_duel_72 : decode cX11_duel 72 = .ok (.iaload, 1) := by decide +kernel
theorem dX11_duel_73 : decode cX11_duel 73 = .ok (.iadd, 1) := by decide +kernel
theorem dX11_duel_74 : decode cX11_duel 74 = .ok (.iconst 2, 1) := by decide +kernel
theorem dX11_duel_75 : decode cX11_duel 75 = .ok (.iadd, 1) := by decide +kernel
theorem dX11_duel_76 : decode cX11_duel 76 = .ok (.invokevirtual 366, 3) := by decide +kernel
theorem dX11_duel_79 : decode cX11_duel 79 = .ok (.aload_n 0, 1) := by decide +kernel
theorem dX11_duel_80 : decode cX11_duel 80 = .ok (.getfield 31, 3) := by decide +kernel
theorem dX11_duel_83 : decode cX11_duel 83 = .ok (.iload_n 1, 1) := by decide +kernel
theorem dX11_duel_84 : decode cX11_duel 84 = .ok (.iaload, 1) := by decide +kernel
theorem dX11_duel_85 : decode cX11_duel 85 = .ok (.iconst 1, 1) := by decide +kernel
theorem dX11_duel_86 : decode cX11_duel 86 = .ok (.iadd, 1) := by decide +kernel
theorem dX11_duel_87 : decode cX11_duel 87 = .ok (.if_icmp .ge 7, 3) := by decide +kernel
theorem dX11_duel_90 : decode cX11_duel 90 = .ok (.iload_n 1, 1) := by decide +kernel
theorem dX11_duel_91 : decode cX11_duel 91 = .ok (.goto 4, 3) := by decide +kernel
theorem dX11_duel_94 : decode cX11_duel 94 = .ok (.iload_n 2, 1) := by decide +kernel
theorem dX11_duel_95 : decode cX11_duel 95 = .ok (.istore 4, 2) := by decide +kernel
theorem dX11_duel_97 : decode cX11_duel 97 = .ok (.aload_n 0, 1) := by decide +kernel
theorem dX11_duel_98 : decode cX11_duel 98 = .ok (.iload_n 3, 1) := by decide +kernel
theorem dX11_duel_99 : decode cX11_duel 99 = .ok (.iload 4, 2) := by decide +kernel
theorem dX11_duel_101 : decode cX11_duel 101 = .ok (.iconst 2, 1) := by decide +kernel
theorem dX11_duel_102 : decode cX11_duel 102 = .ok (.invokevirtual 166, 3) := by decide +kernel
theorem dX11_duel_105 : decode cX11_duel 105 = .ok (.aload_n 0, 1) := by decide +kernel
theorem dX11_duel_106 : decode cX11_duel 106 = .ok (.iload_n 3, 1) := by decide +kernel
theorem dX11_duel_107 : decode cX11_duel 107 = .ok (.invokevirtual 170, 3) := by decide +kernel
theorem dX11_duel_110 : decode cX11_duel 110 = .ok (.iload 4, 2) := by decide +kernel
theorem dX11_duel_112 : decode cX11_duel 112 = .ok (.ireturn, 1) := by decide +kernel
theorem dX11_areLiving_0 : decode cX11_areLiving 0 = .ok (.iload_n 1, 1) := by decide +kernel
theorem dX11_areLiving_1 : decode cX11_areLiving 1 = .ok (.ifCond .le 28, 3) := by decide +kernel
theorem dX11_areLiving_4 : decode cX11_areLiving 4 = .ok (.iload_n 1, 1) := by decide +kernel
theorem dX11_areLiving_5 : decode cX11_areLiving 5 = .ok (.iconst 1, 1) := by decide +kernel
theorem dX11_areLiving_6 : decode cX11_areLiving 6 = .ok (.aload_n 0, 1) := by decide +kernel
theorem dX11_areLiving_7 : decode cX11_areLiving 7 = .ok (.getfield 122, 3) := by decide +kernel
theorem dX11_areLiving_10 : decode cX11_areLiving 10 = .ok (.ishl, 1) := by decide +kernel
theorem dX11_areLiving_11 : decode cX11_areLiving 11 = .ok (.if_icmp .ge 18, 3) := by decide +kernel
theorem dX11_areLiving_14 : decode cX11_areLiving 14 = .ok (.iload_n 1, 1) := by decide +kernel
theorem dX11_areLiving_15 : decode cX11_areLiving 15 = .ok (.aload_n 0, 1) := by decide +kernel
theorem dX11_areLiving_16 : decode cX11_areLiving 16 = .ok (.getfield 7, 3) := by decide +kernel
theorem dX11_areLiving_19 : decode cX11_areLiving 19 = .ok (.iconst 3, 1) := by decide +kernel
theorem dX11_areLiving_20 : decode cX11_areLiving 20 = .ok (.iaload, 1) := by decide +kernel
theorem dX11_areLiving_21 : decode cX11_areLiving 21 = .ok (.iand, 1) := by decide +kernel
theorem dX11_areLiving_22 : decode cX11_areLiving 22 = .ok (.ifCond .ne 7, 3) := by decide +kernel
theorem dX11_areLiving_25 : decode cX11_areLiving 25 = .ok (.iconst 1, 1) := by decide +kernel
theorem dX11_areLiving_26 : decode cX11_areLiving 26 = .ok (.goto 4, 3) := by decide +kernel
theorem dX11_areLiving_29 : decode cX11_areLiving 29 = .ok (.iconst 0, 1) := by decide +kernel
theorem dX11_areLiving_30 : decode cX11_areLiving 30 = .ok (.ireturn, 1) := by decide +kernel
theorem dX11_sign_0 : decode cX11_sign 0 = .ok (.aload_n 0, 1) := by decide +kernel
theorem dX11_sign_1 : decode cX11_sign 1 = .ok (.iconst 0, 1) := by decide +kernel
theorem dX11_sign_2 : decode cX11_sign 2 = .ok (.putfield 107, 3) := by decide +kernel
theorem dX11_sign_5 : decode cX11_sign 5 = .ok (.aload_n 0, 1) := by decide +kernel
theorem dX11_sign_6 : decode cX11_sign 6 = .ok (.iload_n 1, 1) := by decide +kernel
theorem dX11_sign_7 : decode cX11_sign 7 = .ok (.invokevirtual 369, 3) := by decide +kernel
theorem dX11_sign_10 : decode cX11_sign 10 = .ok (.ifCond .eq 11, 3) := by decide +kernel
theorem dX11_sign_13 : decode cX11_sign 13 = .ok (.aload_n 0, 1) := by decide +kernel
theorem dX11_sign_14 : decode cX11_sign 14 = .ok (.iload_n 2, 1) := by decide +kernel
theorem dX11_sign_15 : decode cX11_sign 15 = .ok (.invokevirtual 372, 3) := by decide +kernel
theorem dX11_sign_18 : decode cX11_sign 18 = .ok (.ifCond .ne 5, 3) := by decide +kernel
theorem dX11_sign_21 : decode cX11_sign 21 = .ok (.iconst (-1), 1) := by decide +kernel
theorem dX11_sign_22 : decode cX11_sign 22 = .ok (.ireturn, 1) := by decide +kernel
theorem dX11_sign_23 : decode cX11_sign 23 = .ok (.aload_n 0, 1) := by decide +kernel
theorem dX11_sign_24 : decode cX11_sign 24 = .ok (.invokevirtual 357, 3) := by decide +kernel
theorem dX11_sign_27 : decode cX11_sign 27 = .ok (.aload_n 0, 1) := by decide +kernel
theorem dX11_sign_28 : decode cX11_sign 28 = .ok (.invokevirtual 375, 3) := by decide +kernel
theorem dX11_sign_31 : decode cX11_sign 31 = .ok (.aload_n 0, 1) := by decide +kernel
theorem dX11_sign_32 : decode cX11_sign 32 = .ok (.getfield 7, 3) := by decide +kernel
theorem dX11_sign_35 : decode cX11_sign 35 = .ok (.bipush 124, 2) := by decide +kernel
theorem dX11_sign_37 : decode cX11_sign 37 = .ok (.iload_n 1, 1) := by decide +kernel
theorem dX11_sign_38 : decode cX11_sign 38 = .ok (.iadd, 1) := by decide +kernel
theorem dX11_sign_39 : decode cX11_sign 39 = .ok (.iload_n 2, 1) := by decide +kernel
theorem dX11_sign_40 : decode cX11_sign 40 = .ok (.iastore, 1) := by decide +kernel
theorem dX11_sign_41 : decode cX11_sign 41 = .ok (.aload_n 0, 1) := by decide +kernel
theorem dX11_sign_42 : decode cX11_sign 42 = .ok (.getfield 7, 3) := by decide +kernel
theorem dX11_sign_45 : decode cX11_sign 45 = .ok (.sipush 132, 3) := by decide +kernel
theorem dX11_sign_48 : decode cX11_sign 48 = .ok (.iload_n 1, 1) := by decide +kernel
theorem dX11_sign_49 : decode cX11_sign 49 = .ok (.iadd, 1) := by decide +kernel
theorem dX11_sign_50 : decode cX11_sign 50 = .ok (.aload_n 0, 1) := by decide +kernel
theorem dX11_sign_51 : decode cX11_sign 51 = .ok (.getfield 83, 3) := by decide +kernel
theorem dX11_sign_54 : decode cX11_sign 54 = .ok (.iload_n 1, 1) := by decide +kernel
theorem dX11_sign_55 : decode cX11_sign 55 = .ok (.iaload, 1) := by decide +kernel
theorem dX11_sign_56 : decode cX11_sign 56 = .ok (.aload_n 0, 1) := by decide +kernel
theorem dX11_sign_57 : decode cX11_sign 57 = .ok (.iload_n 2, 1) := by decide +kernel
theorem dX11_sign_58 : decode cX11_sign 58 = .ok (.invokevirtual 378, 3) := by decide +kernel
theorem dX11_sign_61 : decode cX11_sign 61 = .ok (.iconst (-1), 1) := by decide +kernel
theorem dX11_sign_62 : decode cX11_sign 62 = .ok (.ixor, 1) := by decide +kernel
theorem dX11_sign_63 : decode cX11_sign 63 = .ok (.iand, 1) := by decide +kernel
theorem dX11_sign_64 : decode cX11_sign 64 = .ok (.iastore, 1) := by decide +kernel
theorem dX11_sign_65 : decode cX11_sign 65 = .ok (.aload_n 0, 1) := by decide +kernel
theorem dX11_sign_66 : decode cX11_sign 66 = .ok (.getfield 7, 3) := by decide +kernel
theorem dX11_sign_69 : decode cX11_sign 69 = .ok (.sipush 140, 3) := by decide +kernel
theorem dX11_sign_72 : decode cX11_sign 72 = .ok (.iload_n 1, 1) := by decide +kernel
theorem dX11_sign_73 : decode cX11_sign 73 = .ok (.iadd, 1) := by decide +kernel
theorem dX11_sign_74 : decode cX11_sign 74 = .ok (.aload_n 0, 1) := by decide +kernel
theorem dX11_sign_75 : decode cX11_sign 75 = .ok (.getfield 7, 3) := by decide +kernel
theorem dX11_sign_78 : decode cX11_sign 78 = .ok (.iconst 0, 1) := by decide +kernel
theorem dX11_sign_79 : decode cX11_sign 79 = .ok (.iaload, 1) := by decide +kernel
theorem dX11_sign_80 : decode cX11_sign 80 = .ok (.iconst 1, 1) := by decide +kernel
theorem dX11_sign_81 : decode cX11_sign 81 = .ok (.iadd, 1) := by decide +kernel
theorem dX11_sign_82 : decode cX11_sign 82 = .ok (.iastore, 1) := by decide +kernel
theorem dX11_sign_83 : decode cX11_sign 83 = .ok (.aload_n 0, 1) := by decide +kernel
theorem dX11_sign_84 : decode cX11_sign 84 = .ok (.getfield 7, 3) := by decide +kernel
theorem dX11_sign_87 : decode cX11_sign 87 = .ok (.sipush 132, 3) := by decide +kernel
theorem dX11_sign_90 : decode cX11_sign 90 = .ok (.iload_n 1, 1) := by decide +kernel
theorem dX11_sign_91 : decode cX11_sign 91 = .ok (.iadd, 1) := by decide +kernel
theorem dX11_sign_92 : decode cX11_sign 92 = .ok (.iaload, 1) := by decide +kernel
theorem dX11_sign_93 : decode cX11_sign 93 = .ok (.ireturn, 1) := by decide +kernel
theorem dX11_isFrailToday_0 : decode cX11_isFrailToday 0 = .ok (.aload_n 0, 1) := by decide +kernel
theorem dX11_isFrailToday_1 : decode cX11_isFrailToday 1 = .ok (.getfield 116, 3) := by decide +kernel
theorem dX11_isFrailToday_4 : decode cX11_isFrailToday 4 = .ok (.ifCond .ne 32, 3) := by decide +kernel
theorem dX11_isFrailToday_7 : decode cX11_isFrailToday 7 = .ok (.aload_n 0, 1) := by decide +kernel
theorem dX11_isFrailToday_8 : decode cX11_isFrailToday 8 = .ok (.getfield 28, 3) := by decide +kernel
theorem dX11_isFrailToday_11 : decode cX11_isFrailToday 11 = .ok (.iload_n 1, 1) := by decide +kernel
theorem dX11_isFrailToday_12 : decode cX11_isFrailToday 12 = .ok (.iaload, 1) := by decide +kernel
theorem dX11_isFrailToday_13 : decode cX11_isFrailToday 13 = .ok (.ifCond .le 23, 3) := by decide +kernel
theorem dX11_isFrailToday_16 : decode cX11_isFrailToday 16 = .ok (.aload_n 0, 1) := by decide +kernel
theorem dX11_isFrailToday_17 : decode cX11_isFrailToday 17 = .ok (.sipush 10000, 3) := by decide +kernel
theorem dX11_isFrailToday_20 : decode cX11_isFrailToday 20 = .ok (.invokevirtual 366, 3) := by decide +kernel
theorem dX11_isFrailToday_23 : decode cX11_isFrailToday 23 = .ok (.aload_n 0, 1) := by decide +kernel
theorem dX11_isFrailToday_24 : decode cX11_isFrailToday 24 = .ok (.getfield 28, 3) := by decide +kernel
theorem dX11_isFrailToday_27 : decode cX11_isFrailToday 27 = .ok (.iload_n 1, 1) := by decide +kernel
theorem dX11_isFrailToday_28 : decode cX11_isFrailToday 28 = .ok (.iaload, 1) := by decide +kernel
theorem dX11_isFrailToday_29 : decode cX11_isFrailToday 29 = .ok (.if_icmp .ge 7, 3) := by decide +kernel
theorem dX11_isFrailToday_32 : decode cX11_isFrailToday 32 = .ok (.iconst 1, 1) := by decide +kernel
theorem dX11_isFrailToday_33 : decode cX11_isFrailToday 33 = .ok (.goto 4, 3) := by decide +kernel
theorem dX11_isFrailToday_36 : decode cX11_isFrailToday 36 = .ok (.iconst 0, 1) := by decide +kernel
theorem dX11_isFrailToday_37 : decode cX11_isFrailToday 37 = .ok (.ireturn, 1) := by decide +kernel
theorem dX11_endsLoans_0 : decode cX11_endsLoans 0 = .ok (.iconst 0, 1) := by decide +kernel
theorem dX11_endsLoans_1 : decode cX11_endsLoans 1 = .ok (.istore_n 1, 1) := by decide +kernel
theorem dX11_endsLoans_2 : decode cX11_endsLoans 2 = .ok (.iload_n 1, 1) := by decide +kernel
theorem dX11_endsLoans_3 : decode cX11_endsLoans 3 = .ok (.bipush 28, 2) := by decide +kernel
theorem dX11_endsLoans_5 : decode cX11_endsLoans 5 = .ok (.if_icmp .ge 41, 3) := by decide +kernel
theorem dX11_endsLoans_8 : decode cX11_endsLoans 8 = .ok (.aload_n 0, 1) := by decide +kernel
theorem dX11_endsLoans_9 : decode cX11_endsLoans 9 = .ok (.iload_n 1, 1) := by decide +kernel
theorem dX11_endsLoans_10 : decode cX11_endsLoans 10 = .ok (.invokevirtual 315, 3) := by decide +kernel
theorem dX11_endsLoans_13 : decode cX11_endsLoans 13 = .ok (.iconst (-1), 1) := by decide +kernel
theorem dX11_endsLoans_14 : decode cX11_endsLoans 14 = .ok (.if_icmp .eq 26, 3) := by decide +kernel
theorem dX11_endsLoans_17 : decode cX11_endsLoans 17 = .ok (.aload_n 0, 1) := by decide +kernel
theorem dX11_endsLoans_18 : decode cX11_endsLoans 18 = .ok (.getfield 7, 3) := by decide +kernel
theorem dX11_endsLoans_21 : decode cX11_endsLoans 21 = .ok (.bipush 60, 2) := by decide +kernel
theorem dX11_endsLoans_23 : decode cX11_endsLoans 23 = .ok (.iload_n 1, 1) := by decide +kernel
theorem dX11_endsLoans_24 : decode cX11_endsLoans 24 = .ok (.iadd, 1) := by decide +kernel
theorem dX11_endsLoans_25 : decode cX11_endsLoans 25 = .ok (.iaload, 1) := by decide +kernel
theorem dX11_endsLoans_26 : decode cX11_endsLoans 26 = .ok (.aload_n 0, 1) := by decide +kernel
theorem dX11_endsLoans_27 : decode cX11_endsLoans 27 = .ok (.getfield 7, 3) := by decide +kernel
theorem dX11_endsLoans_30 : decode cX11_endsLoans 30 = .ok (.iconst 0, 1) := by decide +kernel
theorem dX11_endsLoans_31 : decode cX11_endsLoans 31 = .ok (.iaload, 1) := by decide +kernel
theorem dX11_endsLoans_32 : decode cX11_endsLoans 32 = .ok (.if_icmp .ge 8, 3) := by decide +kernel
theorem dX11_endsLoans_35 : decode cX11_endsLoans 35 = .ok (.aload_n 0, 1) := by decide +kernel
theorem dX11_endsLoans_36 : decode cX11_endsLoans 36 = .ok (.iload_n 1, 1) := by decide +kernel
theorem dX11_endsLoans_37 : decode cX11_endsLoans 37 = .ok (.invokevirtual 170, 3) := by decide +kernel
theorem dX11_endsLoans_40 : decode cX11_endsLoans 40 = .ok (.iinc 1 1, 3) := by decide +kernel
theorem dX11_endsLoans_43 : decode cX11_endsLoans 43 = .ok (.goto (-41), 3) := by decide +kernel
theorem dX11_endsLoans_46 : decode cX11_endsLoans 46 = .ok (.return_, 1) := by decide +kernel
theorem dX11_ends_0 : decode cX11_ends 0 = .ok (.iconst 0, 1) := by decide +kernel
theorem dX11_ends_1 : decode cX11_ends 1 = .ok (.istore_n 1, 1) := by decide +kernel
theorem dX11_ends_2 : decode cX11_ends 2 = .ok (.aload_n 0, 1) := by decide +kernel
theorem dX11_ends_3 : decode cX11_ends 3 = .ok (.getfield 7, 3) := by decide +kernel
theorem dX11_ends_6 : decode cX11_ends 6 = .ok (.iconst 0, 1) := by decide +kernel
theorem dX11_ends_7 : decode cX11_ends 7 = .ok (.aload_n 0, 1) := by decide +kernel
theorem dX11_ends_8 : decode cX11_ends 8 = .ok (.getfield 7, 3) := by decide +kernel
theorem dX11_ends_11 : decode cX11_ends 11 = .ok (.iconst 0, 1) := by decide +kernel
theorem dX11_ends_12 : decode cX11_ends 12 = .ok (.iaload, 1) := by decide +kernel
theorem dX11_ends_13 : decode cX11_ends 13 = .ok (.iconst 1, 1) := by decide +kernel
theorem dX11_ends_14 : decode cX11_ends 14 = .ok (.iadd, 1) := by decide +kernel
theorem dX11_ends_15 : decode cX11_ends 15 = .ok (.iastore, 1) := by decide +kernel
theorem dX11_ends_16 : decode cX11_ends 16 = .ok (.aload_n 0, 1) := by decide +kernel
theorem dX11_ends_17 : decode cX11_ends 17 = .ok (.invokevirtual 381, 3) := by decide +kernel
theorem dX11_ends_20 : decode cX11_ends 20 = .ok (.iconst 0, 1) := by decide +kernel
theorem dX11_ends_21 : decode cX11_ends 21 = .ok (.istore_n 2, 1) := by decide +kernel
theorem dX11_ends_22 : decode cX11_ends 22 = .ok (.iload_n 2, 1) := by decide +kernel
theorem dX11_ends_23 : decode cX11_ends 23 = .ok (.aload_n 0, 1) := by decide +kernel
theorem dX11_ends_24 : decode cX11_ends 24 = .ok (.getfield 122, 3) := by decide +kernel
theorem dX11_ends_27 : decode cX11_ends 27 = .ok (.if_icmp .ge 87, 3) := by decide +kernel
theorem dX11_ends_30 : decode cX11_ends 30 = .ok (.aload_n 0, 1) := by decide +kernel
theorem dX11_ends_31 : decode cX11_ends 31 = .ok (.iload_n 2, 1) := by decide +kernel
theorem dX11_ends_32 : decode cX11_ends 32 = .ok (.invokevirtual 132, 3) := by decide +kernel
theorem dX11_ends_35 : decode cX11_ends 35 = .ok (.ifCond .ne 6, 3) := by decide +kernel
theorem dX11_ends_38 : decode cX11_ends 38 = .ok (.goto 70, 3) := by decide +kernel
theorem dX11_ends_41 : decode cX11_ends 41 = .ok (.aload_n 0, 1) := by decide +kernel
theorem dX11_ends_42 : decode cX11_ends 42 = .ok (.getfield 7, 3) := by decide +kernel
theorem dX11_ends_45 : decode cX11_ends 45 = .ok (.bipush 88, 2) := by decide +kernel
theorem dX11_ends_47 : decode cX11_ends 47 = .ok (.iload_n 2, 1) := by decide +kernel
theorem dX11_ends_48 : decode cX11_ends 48 = .ok (.iadd, 1) := by decide +kernel
theorem dX11_ends_49 : decode cX11_ends 49 = .ok (.iaload, 1) := by decide +kernel
theorem dX11_ends_50 : decode cX11_ends 50 = .ok (.aload_n 0, 1) := by decide +kernel
theorem dX11_ends_51 : decode cX11_ends 51 = .ok (.getfield 7, 3) := by decide +kernel
theorem dX11_ends_54 : decode cX11_ends 54 = .ok (.iconst 0, 1) := by decide +kernel
theorem dX11_ends_55 : decode cX11_ends 55 = .ok (.iaload, 1) := by decide +kernel
theorem dX11_ends_56 : decode cX11_ends 56 = .ok (.iconst 1, 1) := by decide +kernel
theorem dX11_ends_57 : decode cX11_ends 57 = .ok (.iadd, 1) := by decide +kernel
theorem dX11_ends_58 : decode cX11_ends 58 = .ok (.if_icmp .ne 7, 3) := by decide +kernel
theorem dX11_ends_61 : decode cX11_ends 61 = .ok (.iconst 1, 1) := by decide +kernel
theorem dX11_ends_62 : decode cX11_ends 62 = .ok (.goto 4, 3) := by decide +kernel
theorem dX11_ends_65 : decode cX11_ends 65 = .ok (.iconst 0, 1) := by decide +kernel
theorem dX11_ends_66 : decode cX11_ends 66 = .ok (.istore_n 3, 1) := by decide +kernel
theorem dX11_ends_67 : decode cX11_ends 67 = .ok (.iload_n 3, 1) := by decide +kernel
theorem dX11_ends_68 : decode cX11_ends 68 = .ok (.ifCond .ne 14, 3) := by decide +kernel
theorem dX11_ends_71 : decode cX11_ends 71 = .ok (.aload_n 0, 1) := by decide +kernel
theorem dX11_ends_72 : decode cX11_ends 72 = .ok (.iload_n 2, 1) := by decide +kernel
theorem dX11_ends_73 : decode cX11_ends 73 = .ok (.invokevirtual 384, 3) := by decide +kernel
theorem dX11_ends_76 : decode cX11_ends 76 = .ok (.ifCond .ne 6, 3) := by decide +kernel
theorem dX11_ends_79 : decode cX11_ends 79 = .ok (.goto 29, 3) := by decide +kernel
theorem dX11_ends_82 : decode cX11_ends 82 = .ok (.aload_n 0, 1) := by decide +kernel
theorem dX11_ends_83 : decode cX11_ends 83 = .ok (.getfield 7, 3) := by decide +kernel
theorem dX11_ends_86 : decode cX11_ends 86 = .ok (.bipush 88, 2) := by decide +kernel
theorem dX11_ends_88 : decode cX11_ends 88 = .ok (.iload_n 2, 1) := by decide +kernel
theorem dX11_ends_89 : decode cX11_ends 89 = .ok (.iadd, 1) := by decide +kernel
theorem dX11_ends_90 : decode cX11_ends 90 = .ok (.aload_n 0, 1) := by decide +kernel
theorem dX11_ends_91 : decode cX11_ends 91 = .ok (.getfield 7, 3) := by decide +kernel
theorem dX11_ends_94 : decode cX11_ends 94 = .ok (.iconst 0, 1) := by decide +kernel
theorem dX11_ends_95 : decode cX11_ends 95 = .ok (.iaload, 1) := by decide +kernel
theorem dX11_ends_96 : decode cX11_ends 96 = .ok (.iconst 1, 1) := by decide +kernel
theorem dX11_ends_97 : decode cX11_ends 97 = .ok (.iadd, 1) := by decide +kernel
theorem dX11_ends_98 : decode cX11_ends 98 = .ok (.iastore, 1) := by decide +kernel
theorem dX11_ends_99 : decode cX11_ends 99 = .ok (.aload_n 0, 1) := by decide +kernel
theorem dX11_ends_100 : decode cX11_ends 100 = .ok (.iload_n 2, 1) := by decide +kernel
theorem dX11_ends_101 : decode cX11_ends 101 = .ok (.invokevirtual 387, 3) := by decide +kernel
theorem dX11_ends_104 : decode cX11_ends 104 = .ok (.iload_n 1, 1) := by decide +kernel
theorem dX11_ends_105 : decode cX11_ends 105 = .ok (.iconst 1, 1) := by decide +kernel
theorem dX11_ends_106 : decode cX11_ends 106 = .ok (.iadd, 1) := by decide +kernel
theorem dX11_ends_107 : decode cX11_ends 107 = .ok (.istore_n 1, 1) := by decide +kernel
theorem dX11_ends_108 : decode cX11_ends 108 = .ok (.iinc 2 1, 3) := by decide +kernel
theorem dX11_ends_111 : decode cX11_ends 111 = .ok (.goto (-89), 3) := by decide +kernel
theorem dX11_ends_114 : decode cX11_ends 114 = .ok (.iload_n 1, 1) := by decide +kernel
theorem dX11_ends_115 : decode cX11_ends 115 = .ok (.ireturn, 1) := by decide +kernel
theorem dX11_days_0 : decode cX11_days 0 = .ok (.aload_n 0, 1) := by decide +kernel
theorem dX11_days_1 : decode cX11_days 1 = .ok (.iconst 0, 1) := by decide +kernel
theorem dX11_days_2 : decode cX11_days 2 = .ok (.putfield 107, 3) := by decide +kernel
theorem dX11_days_5 : decode cX11_days 5 = .ok (.aload_n 0, 1) := by decide +kernel
theorem dX11_days_6 : decode cX11_days 6 = .ok (.iload_n 1, 1) := by decide +kernel
theorem dX11_days_7 : decode cX11_days 7 = .ok (.iconst 1, 1) := by decide +kernel
theorem dX11_days_8 : decode cX11_days 8 = .ok (.bipush 100, 2) := by decide +kernel
theorem dX11_days_10 : decode cX11_days 10 = .ok (.invokevirtual 147, 3) := by decide +kernel
theorem dX11_days_13 : decode cX11_days 13 = .ok (.ifCond .eq 17, 3) := by decide +kernel
theorem dX11_days_16 : decode cX11_days 16 = .ok (.aload_n 0, 1) := by decide +kernel
theorem dX11_days_17 : decode cX11_days 17 = .ok (.getfield 7, 3) := by decide +kernel
theorem dX11_days_20 : decode cX11_days 20 = .ok (.iconst 0, 1) := by decide +kernel
theorem dX11_days_21 : decode cX11_days 21 = .ok (.iaload, 1) := by decide +kernel
theorem dX11_days_22 : decode cX11_days 22 = .ok (.iload_n 1, 1) := by decide +kernel
theorem dX11_days_23 : decode cX11_days 23 = .ok (.iadd, 1) := by decide +kernel
theorem dX11_days_24 : decode cX11_days 24 = .ok (.sipush 9999, 3) := by decide +kernel
theorem dX11_days_27 : decode cX11_days 27 = .ok (.if_icmp .le 5, 3) := by decide +kernel
theorem dX11_days_30 : decode cX11_days 30 = .ok (.iconst (-1), 1) := by decide +kernel
theorem dX11_days_31 : decode cX11_days 31 = .ok (.ireturn, 1) := by decide +kernel
theorem dX11_days_32 : decode cX11_days 32 = .ok (.iconst 0, 1) := by decide +kernel
theorem dX11_days_33 : decode cX11_days 33 = .ok (.istore_n 2, 1) := by decide +kernel
theorem dX11_days_34 : decode cX11_days 34 = .ok (.iconst 0, 1) := by decide +kernel
theorem dX11_days_35 : decode cX11_days 35 = .ok (.istore_n 3, 1) := by decide +kernel
theorem dX11_days_36 : decode cX11_days 36 = .ok (.iload_n 3, 1) := by decide +kernel
theorem dX11_days_37 : decode cX11_days 37 = .ok (.iload_n 1, 1) := by decide +kernel
theorem dX11_days_38 : decode cX11_days 38 = .ok (.if_icmp .ge 20, 3) := by decide +kernel
theorem dX11_days_41 : decode cX11_days 41 = .ok (.aload_n 0, 1) := by decide +kernel
theorem dX11_days_42 : decode cX11_days 42 = .ok (.invokevirtual 357, 3) := by decide +kernel
theorem dX11_days_45 : decode cX11_days 45 = .ok (.iload_n 2, 1) := by decide +kernel
theorem dX11_days_46 : decode cX11_days 46 = .ok (.aload_n 0, 1) := by decide +kernel
theorem dX11_days_47 : decode cX11_days 47 = .ok (.invokevirtual 390, 3) := by decide +kernel
theorem dX11_days_50 : decode cX11_days 50 = .ok (.iadd, 1) := by decide +kernel
theorem dX11_days_51 : decode cX11_days 51 = .ok (.istore_n 2, 1) := by decide +kernel
theorem dX11_days_52 : decode cX11_days 52 = .ok (.iinc 3 1, 3) := by decide +kernel
theorem dX11_days_55 : decode cX11_days 55 = .ok (.goto (-19), 3) := by decide +kernel
theorem dX11_days_58 : decode cX11_days 58 = .ok (.iload_n 2, 1) := by decide +kernel
theorem dX11_days_59 : decode cX11_days 59 = .ok (.ireturn, 1) := by decide +kernel
theorem dX11_of_0 : decode cX11_of 0 = .ok (.aload_n 0, 1) := by decide +kernel
theorem dX11_of_1 : decode cX11_of 1 = .ok (.iconst 0, 1) := by decide +kernel
theorem dX11_of_2 : decode cX11_of 2 = .ok (.putfield 107, 3) := by decide +kernel
theorem dX11_of_5 : decode cX11_of 5 = .ok (.aload_n 0, 1) := by decide +kernel
theorem dX11_of_6 : decode cX11_of 6 = .ok (.iload_n 1, 1) := by decide +kernel
theorem dX11_of_7 : decode cX11_of 7 = .ok (.invokevirtual 128, 3) := by decide +kernel
theorem dX11_of_10 : decode cX11_of 10 = .ok (.ifCond .ne 6, 3) := by decide +kernel
theorem dX11_of_13 : decode cX11_of 13 = .ok (.bipush (-2), 2) := by decide +kernel
theorem dX11_of_15 : decode cX11_of 15 = .ok (.ireturn, 1) := by decide +kernel
theorem dX11_of_16 : decode cX11_of 16 = .ok (.iload_n 2, 1) := by decide +kernel
theorem dX11_of_17 : decode cX11_of 17 = .ok (.ifCond .ne 12, 3) := by decide +kernel
theorem dX11_of_20 : decode cX11_of 20 = .ok (.aload_n 0, 1) := by decide +kernel
theorem dX11_of_21 : decode cX11_of 21 = .ok (.getfield 19, 3) := by decide +kernel
theorem dX11_of_24 : decode cX11_of 24 = .ok (.iload_n 1, 1) := by decide +kernel
theorem dX11_of_25 : decode cX11_of 25 = .ok (.iaload, 1) := by decide +kernel
theorem dX11_of_26 : decode cX11_of 26 = .ok (.iconst 1, 1) := by decide +kernel
theorem dX11_of_27 : decode cX11_of 27 = .ok (.isub, 1) := by decide +kernel
theorem dX11_of_28 : decode cX11_of 28 = .ok (.ireturn, 1) := by decide +kernel
theorem dX11_of_29 : decode cX11_of 29 = .ok (.iload_n 2, 1) := by decide +kernel
theorem dX11_of_30 : decode cX11_of 30 = .ok (.iconst 1, 1) := by decide +kernel
theorem dX11_of_31 : decode cX11_of 31 = .ok (.if_icmp .ne 12, 3) := by decide +kernel
theorem dX11_of_34 : decode cX11_of 34 = .ok (.aload_n 0, 1) := by decide +kernel
theorem dX11_of_35 : decode cX11_of 35 = .ok (.getfield 22, 3) := by decide +kernel
theorem dX11_of_38 : decode cX11_of 38 = .ok (.iload_n 1, 1) := by decide +kernel
theorem dX11_of_39 : decode cX11_of 39 = .ok (.iaload, 1) := by decide +kernel
theorem dX11_of_40 : decode cX11_of 40 = .ok (.iconst 1, 1) := by decide +kernel
theorem dX11_of_41 : decode cX11_of 41 = .ok (.isub, 1) := by decide +kernel
theorem dX11_of_42 : decode cX11_of 42 = .ok (.ireturn, 1) := by decide +kernel
theorem dX11_of_43 : decode cX11_of 43 = .ok (.iload_n 2, 1) := by decide +kernel
theorem dX11_of_44 : decode cX11_of 44 = .ok (.iconst 2, 1) := by decide +kernel
theorem dX11_of_45 : decode cX11_of 45 = .ok (.if_icmp .ne 10, 3) := by decide +kernel
theorem dX11_of_48 : decode cX11_of 48 = .ok (.aload_n 0, 1) := by decide +kernel
theorem dX11_of_49 : decode cX11_of 49 = .ok (.getfield 25, 3) := by decide +kernel
theorem dX11_of_52 : decode cX11_of 52 = .ok (.iload_n 1, 1) := by decide +kernel
theorem dX11_of_53 : decode cX11_of 53 = .ok (.iaload, 1) := by decide +kernel
theorem dX11_of_54 : decode cX11_of 54 = .ok (.ireturn, 1) := by decide +kernel
theorem dX11_of_55 : decode cX11_of 55 = .ok (.iload_n 2, 1) := by decide +kernel
theorem dX11_of_56 : decode cX11_of 56 = .ok (.iconst 3, 1) := by decide +kernel
theorem dX11_of_57 : decode cX11_of 57 = .ok (.if_icmp .ne 15, 3) := by decide +kernel
theorem dX11_of_60 : decode cX11_of 60 = .ok (.aload_n 0, 1) := by decide +kernel
theorem dX11_of_61 : decode cX11_of 61 = .ok (.getfield 7, 3) := by decide +kernel
theorem dX11_of_64 : decode cX11_of 64 = .ok (.bipush 88, 2) := by decide +kernel
theorem dX11_of_66 : decode cX11_of 66 = .ok (.iload_n 1, 1) := by decide +kernel
theorem dX11_of_67 : decode cX11_of 67 = .ok (.iadd, 1) := by decide +kernel
theorem dX11_of_68 : decode cX11_of 68 = .ok (.iaload, 1) := by decide +kernel
theorem dX11_of_69 : decode cX11_of 69 = .ok (.iconst 1, 1) := by decide +kernel
theorem dX11_of_70 : decode cX11_of 70 = .ok (.isub, 1) := by decide +kernel
theorem dX11_of_71 : decode cX11_of 71 = .ok (.ireturn, 1) := by decide +kernel
theorem dX11_of_72 : decode cX11_of 72 = .ok (.iload_n 2, 1) := by decide +kernel
theorem dX11_of_73 : decode cX11_of 73 = .ok (.iconst 4, 1) := by decide +kernel
theorem dX11_of_74 : decode cX11_of 74 = .ok (.if_icmp .ne 10, 3) := by decide +kernel
theorem dX11_of_77 : decode cX11_of 77 = .ok (.aload_n 0, 1) := by decide +kernel
theorem dX11_of_78 : decode cX11_of 78 = .ok (.getfield 28, 3) := by decide +kernel
theorem dX11_of_81 : decode cX11_of 81 = .ok (.iload_n 1, 1) := by decide +kernel
theorem dX11_of_82 : decode cX11_of 82 = .ok (.iaload, 1) := by decide +kernel
theorem dX11_of_83 : decode cX11_of 83 = .ok (.ireturn, 1) := by decide +kernel
theorem dX11_of_84 : decode cX11_of 84 = .ok (.iload_n 2, 1) := by decide +kernel
theorem dX11_of_85 : decode cX11_of 85 = .ok (.iconst 5, 1) := by decide +kernel
theorem dX11_of_86 : decode cX11_of 86 = .ok (.if_icmp .ne 10, 3) := by decide +kernel
theorem dX11_of_89 : decode cX11_of 89 = .ok (.aload_n 0, 1) := by decide +kernel
theorem dX11_of_90 : decode cX11_of 90 = .ok (.getfield 31, 3) := by decide +kernel
theorem dX11_of_93 : decode cX11_of 93 = .ok (.iload_n 1, 1) := by decide +kernel
theorem dX11_of_94 : decode cX11_of 94 = .ok (.iaload, 1) := by decide +kernel
theorem dX11_of_95 : decode cX11_of 95 = .ok (.ireturn, 1) := by decide +kernel
theorem dX11_of_96 : decode cX11_of 96 = .ok (.iload_n 2, 1) := by decide +kernel
theorem dX11_of_97 : decode cX11_of 97 = .ok (.bipush 6, 2) := by decide +kernel
theorem dX11_of_99 : decode cX11_of 99 = .ok (.if_icmp .ne 13, 3) := by decide +kernel
theorem dX11_of_102 : decode cX11_of 102 = .ok (.aload_n 0, 1) := by decide +kernel
theorem dX11_of_103 : decode cX11_of 103 = .ok (.getfield 7, 3) := by decide +kernel
theorem dX11_of_106 : decode cX11_of 106 = .ok (.bipush 100, 2) := by decide +kernel
theorem dX11_of_108 : decode cX11_of 108 = .ok (.iload_n 1, 1) := by decide +kernel
theorem dX11_of_109 : decode cX11_of 109 = .ok (.iadd, 1) := by decide +kernel
theorem dX11_of_110 : decode cX11_of 110 = .ok (.iaload, 1) := by decide +kernel
theorem dX11_of_111 : decode cX11_of 111 = .ok (.ireturn, 1) := by decide +kernel
theorem dX11_of_112 : decode cX11_of 112 = .ok (.iload_n 2, 1) := by decide +kernel
theorem dX11_of_113 : decode cX11_of 113 = .ok (.bipush 7, 2) := by decide +kernel
theorem dX11_of_115 : decode cX11_of 115 = .ok (.if_icmp .ne 9, 3) := by decide +kernel
theorem dX11_of_118 : decode cX11_of 118 = .ok (.aload_n 0, 1) := by decide +kernel
theorem dX11_of_119 : decode cX11_of 119 = .ok (.iload_n 1, 1) := by decide +kernel
theorem dX11_of_120 : decode cX11_of 120 = .ok (.invokevirtual 139, 3) := by decide +kernel
theorem dX11_of_123 : decode cX11_of 123 = .ok (.ireturn, 1) := by decide +kernel
theorem dX11_of_124 : decode cX11_of 124 = .ok (.iload_n 2, 1) := by decide +kernel
theorem dX11_of_125 : decode cX11_of 125 = .ok (.bipush 8, 2) := by decide +kernel
theorem dX11_of_127 : decode cX11_of 127 = .ok (.if_icmp .ne 17, 3) := by decide +kernel
theorem dX11_of_130 : decode cX11_of 130 = .ok (.aload_n 0, 1) := by decide +kernel
theorem dX11_of_131 : decode cX11_of 131 = .ok (.iload_n 1, 1) := by decide +kernel
theorem dX11_of_132 : decode cX11_of 132 = .ok (.invokevirtual 132, 3) := by decide +kernel
theorem dX11_of_135 : decode cX11_of 135 = .ok (.ifCond .eq 7, 3) := by decide +kernel
theorem dX11_of_138 : decode cX11_of 138 = .ok (.iconst 1, 1) := by decide +kernel
theorem dX11_of_139 : decode cX11_of 139 = .ok (.goto 4, 3) := by decide +kernel
theorem dX11_of_142 : decode cX11_of 142 = .ok (.iconst 0, 1) := by decide +kernel
theorem dX11_of_143 : decode cX11_of 143 = .ok (.ireturn, 1) := by decide +kernel
theorem dX11_of_144 : decode cX11_of 144 = .ok (.iload_n 2, 1) := by decide +kernel
theorem dX11_of_145 : decode cX11_of 145 = .ok (.bipush 9, 2) := by decide +kernel
theorem dX11_of_147 : decode cX11_of 147 = .ok (.if_icmp .ne 9, 3) := by decide +kernel
theorem dX11_of_150 : decode cX11_of 150 = .ok (.aload_n 0, 1) := by decide +kernel
theorem dX11_of_151 : decode cX11_of 151 = .ok (.iload_n 1, 1) := by decide +kernel
theorem dX11_of_152 : decode cX11_of 152 = .ok (.invokevirtual 330, 3) := by decide +kernel
theorem dX11_of_155 : decode cX11_of 155 = .ok (.ireturn, 1) := by decide +kernel
theorem dX11_of_156 : decode cX11_of 156 = .ok (.iload_n 2, 1) := by decide +kernel
theorem dX11_of_157 : decode cX11_of 157 = .ok (.bipush 10, 2) := by decide +kernel
theorem dX11_of_159 : decode cX11_of 159 = .ok (.if_icmp .ne 11, 3) := by decide +kernel
theorem dX11_of_162 : decode cX11_of 162 = .ok (.aload_n 0, 1) := by decide +kernel
theorem dX11_of_163 : decode cX11_of 163 = .ok (.iload_n 1, 1) := by decide +kernel
theorem dX11_of_164 : decode cX11_of 164 = .ok (.invokevirtual 321, 3) := by decide +kernel
theorem dX11_of_167 : decode cX11_of 167 = .ok (.goto 20, 3) := by decide +kernel
theorem dX11_of_170 : decode cX11_of 170 = .ok (.iload_n 2, 1) := by decide +kernel
theorem dX11_of_171 : decode cX11_of 171 = .ok (.bipush 11, 2) := by decide +kernel
theorem dX11_of_173 : decode cX11_of 173 = .ok (.if_icmp .ne 12, 3) := by decide +kernel
theorem dX11_of_176 : decode cX11_of 176 = .ok (.aload_n 0, 1) := by decide +kernel
theorem dX11_of_177 : decode cX11_of 177 = .ok (.getfield 68, 3) := by decide +kernel
theorem dX11_of_180 : decode cX11_of 180 = .ok (.iload_n 1, 1) := by decide +kernel
theorem dX11_of_181 : decode cX11_of 181 = .ok (.iaload, 1) := by decide +kernel
theorem dX11_of_182 : decode cX11_of 182 = .ok (.goto 5, 3) := by decide +kernel
theorem dX11_of_185 : decode cX11_of 185 = .ok (.bipush (-2), 2) := by decide +kernel
theorem dX11_of_187 : decode cX11_of 187 = .ok (.ireturn, 1) := by decide +kernel
theorem dX11_kin_0 : decode cX11_kin 0 = .ok (.aload_n 0, 1) := by decide +kernel
theorem dX11_kin_1 : decode cX11_kin 1 = .ok (.iconst 0, 1) := by decide +kernel
theorem dX11_kin_2 : decode cX11_kin 2 = .ok (.putfield 107, 3) := by decide +kernel
theorem dX11_kin_5 : decode cX11_kin 5 = .ok (.aload_n 0, 1) := by decide +kernel
theorem dX11_kin_6 : decode cX11_kin 6 = .ok (.iload_n 1, 1) := by decide +kernel
theorem dX11_kin_7 : decode cX11_kin 7 = .ok (.invokevirtual 128, 3) := by decide +kernel
theorem dX11_kin_10 : decode cX11_kin 10 = .ok (.ifCond .eq 25, 3) := by decide +kernel
theorem dX11_kin_13 : decode cX11_kin 13 = .ok (.aload_n 0, 1) := by decide +kernel
theorem dX11_kin_14 : decode cX11_kin 14 = .ok (.iload_n 2, 1) := by decide +kernel
theorem dX11_kin_15 : decode cX11_kin 15 = .ok (.invokevirtual 128, 3) := by decide +kernel
theorem dX11_kin_18 : decode cX11_kin 18 = .ok (.ifCond .eq 17, 3) := by decide +kernel
theorem dX11_kin_21 : decode cX11_kin 21 = .ok (.aload_n 0, 1) := by decide +kernel
theorem dX11_kin_22 : decode cX11_kin 22 = .ok (.getfield 37, 3) := by decide +kernel
theorem dX11_kin_25 : decode cX11_kin 25 = .ok (.bipush 12, 2) := by decide +kernel
theorem dX11_kin_27 : decode cX11_kin 27 = .ok (.iload_n 1, 1) := by decide +kernel
theorem dX11_kin_28 : decode cX11_kin 28 = .ok (.imul, 1) := by decide +kernel
theorem dX11_kin_29 : decode cX11_kin 29 = .ok (.iload_n 2, 1) := by decide +kernel
theorem dX11_kin_30 : decode cX11_kin 30 = .ok (.iadd, 1) := by decide +kernel
theorem dX11_kin_31 : decode cX11_kin 31 = .ok (.iaload, 1) := by decide +kernel
theorem dX11_kin_32 : decode cX11_kin 32 = .ok (.goto 4, 3) := by decide +kernel
theorem dX11_kin_35 : decode cX11_kin 35 = .ok (.iconst (-1), 1) := by decide +kernel
theorem dX11_kin_36 : decode cX11_kin 36 = .ok (.ireturn, 1) := by decide +kernel
theorem dX11_changesOf_0 : decode cX11_changesOf 0 = .ok (.iconst 0, 1) := by decide +kernel
theorem dX11_changesOf_1 : decode cX11_changesOf 1 = .ok (.istore_n 2, 1) := by decide +kernel
theorem dX11_changesOf_2 : decode cX11_changesOf 2 = .ok (.iconst 0, 1) := by decide +kernel
theorem dX11_changesOf_3 : decode cX11_changesOf 3 = .ok (.istore_n 3, 1) := by decide +kernel
theorem dX11_changesOf_4 : decode cX11_changesOf 4 = .ok (.iload_n 3, 1) := by decide +kernel
theorem dX11_changesOf_5 : decode cX11_changesOf 5 = .ok (.aload_n 0, 1) := by decide +kernel
theorem dX11_changesOf_6 : decode cX11_changesOf 6 = .ok (.getfield 7, 3) := by decide +kernel
theorem dX11_changesOf_9 : decode cX11_changesOf 9 = .ok (.iconst 2, 1) := by decide +kernel
theorem dX11_changesOf_10 : decode cX11_changesOf 10 = .ok (.iaload, 1) := by decide +kernel
theorem dX11_changesOf_11 : decode cX11_changesOf 11 = .ok (.if_icmp .ge 25, 3) := by decide +kernel
theorem dX11_changesOf_14 : decode cX11_changesOf 14 = .ok (.aload_n 0, 1) := by decide +kernel
theorem dX11_changesOf_15 : decode cX11_changesOf 15 = .ok (.getfield 34, 3) := by decide +kernel
theorem dX11_changesOf_18 : decode cX11_changesOf 18 = .ok (.iconst 5, 1) := by decide +kernel
theorem dX11_changesOf_19 : decode cX11_changesOf 19 = .ok (.iload_n 3, 1) := by decide +kernel
theorem dX11_changesOf_20 : decode cX11_changesOf 20 = .ok (.imul, 1) := by decide +kernel
theorem dX11_changesOf_21 : decode cX11_changesOf 21 = .ok (.iaload, 1) := by decide +kernel
theorem dX11_changesOf_22 : decode cX11_changesOf 22 = .ok (.iload_n 1, 1) := by decide +kernel
theorem dX11_changesOf_23 : decode cX11_changesOf 23 = .ok (.if_icmp .ne 7, 3) := by decide +kernel
theorem dX11_changesOf_26 : decode cX11_changesOf 26 = .ok (.iload_n 2, 1) := by decide +kernel
theorem dX11_changesOf_27 : decode cX11_changesOf 27 = .ok (.iconst 1, 1) := by decide +kernel
theorem dX11_changesOf_28 : decode cX11_changesOf 28 = .ok (.iadd, 1) := by decide +kernel
theorem dX11_changesOf_29 : decode cX11_changesOf 29 = .ok (.istore_n 2, 1) := by decide +kernel
