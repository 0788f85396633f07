theorem dX11_changesOf_30 : decode cX11_changesOf 30 = .ok (.iinc 3 1, 3) := by decide +kernel
theorem dX11_changesOf_33 : decode cX11_changesOf 33 = .ok (.goto (-29), 3) := by decide +kernel
theorem dX11_changesOf_36 : decode cX11_changesOf 36 = .ok (.iload_n 2, 1) := by decide +kernel
theorem dX11_changesOf_37 : decode cX11_changesOf 37 = .ok (.ireturn, 1) := by decide +kernel
theorem dX11_letter_0 : decode cX11_letter 0 = .ok (.aload_n 0, 1) := by decide +kernel
theorem dX11_letter_1 : decode cX11_letter 1 = .ok (.iconst 0, 1) := by decide +kernel
theorem dX11_letter_2 : decode cX11_letter 2 = .ok (.putfield 107, 3) := by decide +kernel
theorem dX11_letter_5 : decode cX11_letter 5 = .ok (.aload_n 0, 1) := by decide +kernel
theorem dX11_letter_6 : decode cX11_letter 6 = .ok (.iload_n 1, 1) := by decide +kernel
theorem dX11_letter_7 : decode cX11_letter 7 = .ok (.invokevirtual 163, 3) := by decide +kernel
theorem dX11_letter_10 : decode cX11_letter 10 = .ok (.ifCond .ne 6, 3) := by decide +kernel
theorem dX11_letter_13 : decode cX11_letter 13 = .ok (.bipush (-2), 2) := by decide +kernel
theorem dX11_letter_15 : decode cX11_letter 15 = .ok (.ireturn, 1) := by decide +kernel
theorem dX11_letter_16 : decode cX11_letter 16 = .ok (.iload_n 2, 1) := by decide +kernel
theorem dX11_letter_17 : decode cX11_letter 17 = .ok (.ifCond .ne 9, 3) := by decide +kernel
theorem dX11_letter_20 : decode cX11_letter 20 = .ok (.aload_n 0, 1) := by decide +kernel
theorem dX11_letter_21 : decode cX11_letter 21 = .ok (.iload_n 1, 1) := by decide +kernel
theorem dX11_letter_22 : decode cX11_letter 22 = .ok (.invokevirtual 160, 3) := by decide +kernel
theorem dX11_letter_25 : decode cX11_letter 25 = .ok (.ireturn, 1) := by decide +kernel
theorem dX11_letter_26 : decode cX11_letter 26 = .ok (.iload_n 2, 1) := by decide +kernel
theorem dX11_letter_27 : decode cX11_letter 27 = .ok (.iconst 1, 1) := by decide +kernel
theorem dX11_letter_28 : decode cX11_letter 28 = .ok (.if_icmp .ne 9, 3) := by decide +kernel
theorem dX11_letter_31 : decode cX11_letter 31 = .ok (.aload_n 0, 1) := by decide +kernel
theorem dX11_letter_32 : decode cX11_letter 32 = .ok (.iload_n 1, 1) := by decide +kernel
theorem dX11_letter_33 : decode cX11_letter 33 = .ok (.invokevirtual 315, 3) := by decide +kernel
theorem dX11_letter_36 : decode cX11_letter 36 = .ok (.ireturn, 1) := by decide +kernel
theorem dX11_letter_37 : decode cX11_letter 37 = .ok (.iload_n 2, 1) := by decide +kernel
theorem dX11_letter_38 : decode cX11_letter 38 = .ok (.iconst 2, 1) := by decide +kernel
theorem dX11_letter_39 : decode cX11_letter 39 = .ok (.if_icmp .ne 26, 3) := by decide +kernel
theorem dX11_letter_42 : decode cX11_letter 42 = .ok (.aload_n 0, 1) := by decide +kernel
theorem dX11_letter_43 : decode cX11_letter 43 = .ok (.iload_n 1, 1) := by decide +kernel
theorem dX11_letter_44 : decode cX11_letter 44 = .ok (.invokevirtual 315, 3) := by decide +kernel
theorem dX11_letter_47 : decode cX11_letter 47 = .ok (.iconst (-1), 1) := by decide +kernel
theorem dX11_letter_48 : decode cX11_letter 48 = .ok (.if_icmp .ne 7, 3) := by decide +kernel
theorem dX11_letter_51 : decode cX11_letter 51 = .ok (.iconst (-1), 1) := by decide +kernel
theorem dX11_letter_52 : decode cX11_letter 52 = .ok (.goto 12, 3) := by decide +kernel
theorem dX11_letter_55 : decode cX11_letter 55 = .ok (.aload_n 0, 1) := by decide +kernel
theorem dX11_letter_56 : decode cX11_letter 56 = .ok (.getfield 7, 3) := by decide +kernel
theorem dX11_letter_59 : decode cX11_letter 59 = .ok (.bipush 60, 2) := by decide +kernel
theorem dX11_letter_61 : decode cX11_letter 61 = .ok (.iload_n 1, 1) := by decide +kernel
theorem dX11_letter_62 : decode cX11_letter 62 = .ok (.iadd, 1) := by decide +kernel
theorem dX11_letter_63 : decode cX11_letter 63 = .ok (.iaload, 1) := by decide +kernel
theorem dX11_letter_64 : decode cX11_letter 64 = .ok (.ireturn, 1) := by decide +kernel
theorem dX11_letter_65 : decode cX11_letter 65 = .ok (.iload_n 2, 1) := by decide +kernel
theorem dX11_letter_66 : decode cX11_letter 66 = .ok (.iconst 3, 1) := by decide +kernel
theorem dX11_letter_67 : decode cX11_letter 67 = .ok (.if_icmp .ne 9, 3) := by decide +kernel
theorem dX11_letter_70 : decode cX11_letter 70 = .ok (.aload_n 0, 1) := by decide +kernel
theorem dX11_letter_71 : decode cX11_letter 71 = .ok (.iload_n 1, 1) := by decide +kernel
theorem dX11_letter_72 : decode cX11_letter 72 = .ok (.invokevirtual 393, 3) := by decide +kernel
theorem dX11_letter_75 : decode cX11_letter 75 = .ok (.ireturn, 1) := by decide +kernel
theorem dX11_letter_76 : decode cX11_letter 76 = .ok (.iload_n 2, 1) := by decide +kernel
theorem dX11_letter_77 : decode cX11_letter 77 = .ok (.iconst 4, 1) := by decide +kernel
theorem dX11_letter_78 : decode cX11_letter 78 = .ok (.if_icmp .ne 11, 3) := by decide +kernel
theorem dX11_letter_81 : decode cX11_letter 81 = .ok (.aload_n 0, 1) := by decide +kernel
theorem dX11_letter_82 : decode cX11_letter 82 = .ok (.iload_n 1, 1) := by decide +kernel
theorem dX11_letter_83 : decode cX11_letter 83 = .ok (.invokevirtual 396, 3) := by decide +kernel
theorem dX11_letter_86 : decode cX11_letter 86 = .ok (.goto 18, 3) := by decide +kernel
theorem dX11_letter_89 : decode cX11_letter 89 = .ok (.iload_n 2, 1) := by decide +kernel
theorem dX11_letter_90 : decode cX11_letter 90 = .ok (.iconst 5, 1) := by decide +kernel
theorem dX11_letter_91 : decode cX11_letter 91 = .ok (.if_icmp .ne 11, 3) := by decide +kernel
theorem dX11_letter_94 : decode cX11_letter 94 = .ok (.aload_n 0, 1) := by decide +kernel
theorem dX11_letter_95 : decode cX11_letter 95 = .ok (.iload_n 1, 1) := by decide +kernel
theorem dX11_letter_96 : decode cX11_letter 96 = .ok (.invokevirtual 399, 3) := by decide +kernel
theorem dX11_letter_99 : decode cX11_letter 99 = .ok (.goto 5, 3) := by decide +kernel
theorem dX11_letter_102 : decode cX11_letter 102 = .ok (.bipush (-2), 2) := by decide +kernel
theorem dX11_letter_104 : decode cX11_letter 104 = .ok (.ireturn, 1) := by decide +kernel
theorem dX11_deed_0 : decode cX11_deed 0 = .ok (.aload_n 0, 1) := by decide +kernel
theorem dX11_deed_1 : decode cX11_deed 1 = .ok (.iconst 0, 1) := by decide +kernel
theorem dX11_deed_2 : decode cX11_deed 2 = .ok (.putfield 107, 3) := by decide +kernel
theorem dX11_deed_5 : decode cX11_deed 5 = .ok (.aload_n 0, 1) := by decide +kernel
theorem dX11_deed_6 : decode cX11_deed 6 = .ok (.iload_n 1, 1) := by decide +kernel
theorem dX11_deed_7 : decode cX11_deed 7 = .ok (.invokevirtual 369, 3) := by decide +kernel
theorem dX11_deed_10 : decode cX11_deed 10 = .ok (.ifCond .ne 6, 3) := by decide +kernel
theorem dX11_deed_13 : decode cX11_deed 13 = .ok (.bipush (-2), 2) := by decide +kernel
theorem dX11_deed_15 : decode cX11_deed 15 = .ok (.ireturn, 1) := by decide +kernel
theorem dX11_deed_16 : decode cX11_deed 16 = .ok (.iload_n 2, 1) := by decide +kernel
theorem dX11_deed_17 : decode cX11_deed 17 = .ok (.ifCond .ne 10, 3) := by decide +kernel
theorem dX11_deed_20 : decode cX11_deed 20 = .ok (.aload_n 0, 1) := by decide +kernel
theorem dX11_deed_21 : decode cX11_deed 21 = .ok (.getfield 83, 3) := by decide +kernel
theorem dX11_deed_24 : decode cX11_deed 24 = .ok (.iload_n 1, 1) := by decide +kernel
theorem dX11_deed_25 : decode cX11_deed 25 = .ok (.iaload, 1) := by decide +kernel
theorem dX11_deed_26 : decode cX11_deed 26 = .ok (.ireturn, 1) := by decide +kernel
theorem dX11_deed_27 : decode cX11_deed 27 = .ok (.iload_n 2, 1) := by decide +kernel
theorem dX11_deed_28 : decode cX11_deed 28 = .ok (.iconst 1, 1) := by decide +kernel
theorem dX11_deed_29 : decode cX11_deed 29 = .ok (.if_icmp .ne 10, 3) := by decide +kernel
theorem dX11_deed_32 : decode cX11_deed 32 = .ok (.aload_n 0, 1) := by decide +kernel
theorem dX11_deed_33 : decode cX11_deed 33 = .ok (.getfield 80, 3) := by decide +kernel
theorem dX11_deed_36 : decode cX11_deed 36 = .ok (.iload_n 1, 1) := by decide +kernel
theorem dX11_deed_37 : decode cX11_deed 37 = .ok (.iaload, 1) := by decide +kernel
theorem dX11_deed_38 : decode cX11_deed 38 = .ok (.ireturn, 1) := by decide +kernel
theorem dX11_deed_39 : decode cX11_deed 39 = .ok (.iload_n 2, 1) := by decide +kernel
theorem dX11_deed_40 : decode cX11_deed 40 = .ok (.iconst 2, 1) := by decide +kernel
theorem dX11_deed_41 : decode cX11_deed 41 = .ok (.if_icmp .ne 13, 3) := by decide +kernel
theorem dX11_deed_44 : decode cX11_deed 44 = .ok (.aload_n 0, 1) := by decide +kernel
theorem dX11_deed_45 : decode cX11_deed 45 = .ok (.getfield 7, 3) := by decide +kernel
theorem dX11_deed_48 : decode cX11_deed 48 = .ok (.bipush 124, 2) := by decide +kernel
theorem dX11_deed_50 : decode cX11_deed 50 = .ok (.iload_n 1, 1) := by decide +kernel
theorem dX11_deed_51 : decode cX11_deed 51 = .ok (.iadd, 1) := by decide +kernel
theorem dX11_deed_52 : decode cX11_deed 52 = .ok (.iaload, 1) := by decide +kernel
theorem dX11_deed_53 : decode cX11_deed 53 = .ok (.ireturn, 1) := by decide +kernel
theorem dX11_deed_54 : decode cX11_deed 54 = .ok (.iload_n 2, 1) := by decide +kernel
theorem dX11_deed_55 : decode cX11_deed 55 = .ok (.iconst 3, 1) := by decide +kernel
theorem dX11_deed_56 : decode cX11_deed 56 = .ok (.if_icmp .ne 14, 3) := by decide +kernel
theorem dX11_deed_59 : decode cX11_deed 59 = .ok (.aload_n 0, 1) := by decide +kernel
theorem dX11_deed_60 : decode cX11_deed 60 = .ok (.getfield 7, 3) := by decide +kernel
theorem dX11_deed_63 : decode cX11_deed 63 = .ok (.sipush 132, 3) := by decide +kernel
theorem dX11_deed_66 : decode cX11_deed 66 = .ok (.iload_n 1, 1) := by decide +kernel
theorem dX11_deed_67 : decode cX11_deed 67 = .ok (.iadd, 1) := by decide +kernel
theorem dX11_deed_68 : decode cX11_deed 68 = .ok (.iaload, 1) := by decide +kernel
theorem dX11_deed_69 : decode cX11_deed 69 = .ok (.ireturn, 1) := by decide +kernel
theorem dX11_deed_70 : decode cX11_deed 70 = .ok (.iload_n 2, 1) := by decide +kernel
theorem dX11_deed_71 : decode cX11_deed 71 = .ok (.iconst 4, 1) := by decide +kernel
theorem dX11_deed_72 : decode cX11_deed 72 = .ok (.if_icmp .ne 16, 3) := by decide +kernel
theorem dX11_deed_75 : decode cX11_deed 75 = .ok (.aload_n 0, 1) := by decide +kernel
theorem dX11_deed_76 : decode cX11_deed 76 = .ok (.getfield 7, 3) := by decide +kernel
theorem dX11_deed_79 : decode cX11_deed 79 = .ok (.sipush 140, 3) := by decide +kernel
theorem dX11_deed_82 : decode cX11_deed 82 = .ok (.iload_n 1, 1) := by decide +kernel
theorem dX11_deed_83 : decode cX11_deed 83 = .ok (.iadd, 1) := by decide +kernel
theorem dX11_deed_84 : decode cX11_deed 84 = .ok (.iaload, 1) := by decide +kernel
theorem dX11_deed_85 : decode cX11_deed 85 = .ok (.iconst 1, 1) := by decide +kernel
theorem dX11_deed_86 : decode cX11_deed 86 = .ok (.isub, 1) := by decide +kernel
theorem dX11_deed_87 : decode cX11_deed 87 = .ok (.ireturn, 1) := by decide +kernel
theorem dX11_deed_88 : decode cX11_deed 88 = .ok (.aload_n 0, 1) := by decide +kernel
theorem dX11_deed_89 : decode cX11_deed 89 = .ok (.invokevirtual 375, 3) := by decide +kernel
theorem dX11_deed_92 : decode cX11_deed 92 = .ok (.iload_n 2, 1) := by decide +kernel
theorem dX11_deed_93 : decode cX11_deed 93 = .ok (.iconst 5, 1) := by decide +kernel
theorem dX11_deed_94 : decode cX11_deed 94 = .ok (.if_icmp .ne 16, 3) := by decide +kernel
theorem dX11_deed_97 : decode cX11_deed 97 = .ok (.aload_n 0, 1) := by decide +kernel
theorem dX11_deed_98 : decode cX11_deed 98 = .ok (.aload_n 0, 1) := by decide +kernel
theorem dX11_deed_99 : decode cX11_deed 99 = .ok (.getfield 83, 3) := by decide +kernel
theorem dX11_deed_102 : decode cX11_deed 102 = .ok (.iload_n 1, 1) := by decide +kernel
theorem dX11_deed_103 : decode cX11_deed 103 = .ok (.iaload, 1) := by decide +kernel
theorem dX11_deed_104 : decode cX11_deed 104 = .ok (.invokevirtual 402, 3) := by decide +kernel
theorem dX11_deed_107 : decode cX11_deed 107 = .ok (.goto 43, 3) := by decide +kernel
theorem dX11_deed_110 : decode cX11_deed 110 = .ok (.iload_n 2, 1) := by decide +kernel
theorem dX11_deed_111 : decode cX11_deed 111 = .ok (.bipush 6, 2) := by decide +kernel
theorem dX11_deed_113 : decode cX11_deed 113 = .ok (.if_icmp .ne 16, 3) := by decide +kernel
theorem dX11_deed_116 : decode cX11_deed 116 = .ok (.aload_n 0, 1) := by decide +kernel
theorem dX11_deed_117 : decode cX11_deed 117 = .ok (.aload_n 0, 1) := by decide +kernel
theorem dX11_deed_118 : decode cX11_deed 118 = .ok (.getfield 83, 3) := by decide +kernel
theorem dX11_deed_121 : decode cX11_deed 121 = .ok (.iload_n 1, 1) := by decide +kernel
theorem dX11_deed_122 : decode cX11_deed 122 = .ok (.iaload, 1) := by decide +kernel
theorem dX11_deed_123 : decode cX11_deed 123 = .ok (.invokevirtual 405, 3) := by decide +kernel
theorem dX11_deed_126 : decode cX11_deed 126 = .ok (.goto 24, 3) := by decide +kernel
theorem dX11_deed_129 : decode cX11_deed 129 = .ok (.iload_n 2, 1) := by decide +kernel
theorem dX11_deed_130 : decode cX11_deed 130 = .ok (.bipush 7, 2) := by decide +kernel
theorem dX11_deed_132 : decode cX11_deed 132 = .ok (.if_icmp .ne 16, 3) := by decide +kernel
theorem dX11_deed_135 : decode cX11_deed 135 = .ok (.aload_n 0, 1) := by decide +kernel
theorem dX11_deed_136 : decode cX11_deed 136 = .ok (.aload_n 0, 1) := by decide +kernel
theorem dX11_deed_137 : decode cX11_deed 137 = .ok (.getfield 83, 3) := by decide +kernel
theorem dX11_deed_140 : decode cX11_deed 140 = .ok (.iload_n 1, 1) := by decide +kernel
theorem dX11_deed_141 : decode cX11_deed 141 = .ok (.iaload, 1) := by decide +kernel
theorem dX11_deed_142 : decode cX11_deed 142 = .ok (.invokevirtual 408, 3) := by decide +kernel
theorem dX11_deed_145 : decode cX11_deed 145 = .ok (.goto 5, 3) := by decide +kernel
theorem dX11_deed_148 : decode cX11_deed 148 = .ok (.bipush (-2), 2) := by decide +kernel
theorem dX11_deed_150 : decode cX11_deed 150 = .ok (.ireturn, 1) := by decide +kernel
theorem dX11_at_0 : decode cX11_at 0 = .ok (.aload_n 0, 1) := by decide +kernel
theorem dX11_at_1 : decode cX11_at 1 = .ok (.iconst 0, 1) := by decide +kernel
theorem dX11_at_2 : decode cX11_at 2 = .ok (.putfield 107, 3) := by decide +kernel
theorem dX11_at_5 : decode cX11_at 5 = .ok (.aload_n 0, 1) := by decide +kernel
theorem dX11_at_6 : decode cX11_at 6 = .ok (.iload_n 1, 1) := by decide +kernel
theorem dX11_at_7 : decode cX11_at 7 = .ok (.invokevirtual 369, 3) := by decide +kernel
theorem dX11_at_10 : decode cX11_at 10 = .ok (.ifCond .eq 34, 3) := by decide +kernel
theorem dX11_at_13 : decode cX11_at 13 = .ok (.aload_n 0, 1) := by decide +kernel
theorem dX11_at_14 : decode cX11_at 14 = .ok (.iload_n 2, 1) := by decide +kernel
theorem dX11_at_15 : decode cX11_at 15 = .ok (.iconst 0, 1) := by decide +kernel
theorem dX11_at_16 : decode cX11_at 16 = .ok (.aload_n 0, 1) := by decide +kernel
theorem dX11_at_17 : decode cX11_at 17 = .ok (.getfield 80, 3) := by decide +kernel
theorem dX11_at_20 : decode cX11_at 20 = .ok (.iload_n 1, 1) := by decide +kernel
theorem dX11_at_21 : decode cX11_at 21 = .ok (.iaload, 1) := by decide +kernel
theorem dX11_at_22 : decode cX11_at 22 = .ok (.iconst 1, 1) := by decide +kernel
theorem dX11_at_23 : decode cX11_at 23 = .ok (.isub, 1) := by decide +kernel
theorem dX11_at_24 : decode cX11_at 24 = .ok (.invokevirtual 147, 3) := by decide +kernel
theorem dX11_at_27 : decode cX11_at 27 = .ok (.ifCond .eq 17, 3) := by decide +kernel
theorem dX11_at_30 : decode cX11_at 30 = .ok (.aload_n 0, 1) := by decide +kernel
theorem dX11_at_31 : decode cX11_at 31 = .ok (.getfield 86, 3) := by decide +kernel
theorem dX11_at_34 : decode cX11_at 34 = .ok (.bipush 40, 2) := by decide +kernel
theorem dX11_at_36 : decode cX11_at 36 = .ok (.iload_n 1, 1) := by decide +kernel
theorem dX11_at_37 : decode cX11_at 37 = .ok (.imul, 1) := by decide +kernel
theorem dX11_at_38 : decode cX11_at 38 = .ok (.iload_n 2, 1) := by decide +kernel
theorem dX11_at_39 : decode cX11_at 39 = .ok (.iadd, 1) := by decide +kernel
theorem dX11_at_40 : decode cX11_at 40 = .ok (.iaload, 1) := by decide +kernel
theorem dX11_at_41 : decode cX11_at 41 = .ok (.goto 4, 3) := by decide +kernel
theorem dX11_at_44 : decode cX11_at 44 = .ok (.iconst (-1), 1) := by decide +kernel
theorem dX11_at_45 : decode cX11_at 45 = .ok (.ireturn, 1) := by decide +kernel
theorem dX11_book_0 : decode cX11_book 0 = .ok (.aload_n 0, 1) := by decide +kernel
theorem dX11_book_1 : decode cX11_book 1 = .ok (.iconst 0, 1) := by decide +kernel
theorem dX11_book_2 : decode cX11_book 2 = .ok (.putfield 107, 3) := by decide +kernel
theorem dX11_book_5 : decode cX11_book 5 = .ok (.aload_n 0, 1) := by decide +kernel
theorem dX11_book_6 : decode cX11_book 6 = .ok (.iload_n 1, 1) := by decide +kernel
theorem dX11_book_7 : decode cX11_book 7 = .ok (.iconst 0, 1) := by decide +kernel
theorem dX11_book_8 : decode cX11_book 8 = .ok (.aload_n 0, 1) := by decide +kernel
theorem dX11_book_9 : decode cX11_book 9 = .ok (.getfield 7, 3) := by decide +kernel
theorem dX11_book_12 : decode cX11_book 12 = .ok (.iconst 2, 1) := by decide +kernel
theorem dX11_book_13 : decode cX11_book 13 = .ok (.iaload, 1) := by decide +kernel
theorem dX11_book_14 : decode cX11_book 14 = .ok (.iconst 1, 1) := by decide +kernel
theorem dX11_book_15 : decode cX11_book 15 = .ok (.isub, 1) := by decide +kernel
theorem dX11_book_16 : decode cX11_book 16 = .ok (.invokevirtual 147, 3) := by decide +kernel
theorem dX11_book_19 : decode cX11_book 19 = .ok (.ifCond .eq 26, 3) := by decide +kernel
theorem dX11_book_22 : decode cX11_book 22 = .ok (.aload_n 0, 1) := by decide +kernel
theorem dX11_book_23 : decode cX11_book 23 = .ok (.iload_n 2, 1) := by decide +kernel
theorem dX11_book_24 : decode cX11_book 24 = .ok (.iconst 0, 1) := by decide +kernel
theorem dX11_book_25 : decode cX11_book 25 = .ok (.iconst 4, 1) := by decide +kernel
theorem dX11_book_26 : decode cX11_book 26 = .ok (.invokevirtual 147, 3) := by decide +kernel
theorem dX11_book_29 : decode cX11_book 29 = .ok (.ifCond .eq 16, 3) := by decide +kernel
theorem dX11_book_32 : decode cX11_book 32 = .ok (.aload_n 0, 1) := by decide +kernel
theorem dX11_book_33 : decode cX11_book 33 = .ok (.getfield 34, 3) := by decide +kernel
theorem dX11_book_36 : decode cX11_book 36 = .ok (.iconst 5, 1) := by decide +kernel
theorem dX11_book_37 : decode cX11_book 37 = .ok (.iload_n 1, 1) := by decide +kernel
theorem dX11_book_38 : decode cX11_book 38 = .ok (.imul, 1) := by decide +kernel
theorem dX11_book_39 : decode cX11_book 39 = .ok (.iload_n 2, 1) := by decide +kernel
theorem dX11_book_40 : decode cX11_book 40 = .ok (.iadd, 1) := by decide +kernel
theorem dX11_book_41 : decode cX11_book 41 = .ok (.iaload, 1) := by decide +kernel
theorem dX11_book_42 : decode cX11_book 42 = .ok (.goto 5, 3) := by decide +kernel
theorem dX11_book_45 : decode cX11_book 45 = .ok (.bipush (-2), 2) := by decide +kernel
theorem dX11_book_47 : decode cX11_book 47 = .ok (.ireturn, 1) := by decide +kernel
theorem dX11_signersOf_0 : decode cX11_signersOf 0 = .ok (.iconst (-1), 1) := by decide +kernel
theorem dX11_signersOf_1 : decode cX11_signersOf 1 = .ok (.istore_n 2, 1) := by decide +kernel
theorem dX11_signersOf_2 : decode cX11_signersOf 2 = .ok (.iconst 1, 1) := by decide +kernel
theorem dX11_signersOf_3 : decode cX11_signersOf 3 = .ok (.istore_n 3, 1) := by decide +kernel
theorem dX11_signersOf_4 : decode cX11_signersOf 4 = .ok (.iload_n 3, 1) := by decide +kernel
theorem dX11_signersOf_5 : decode cX11_signersOf 5 = .ok (.iconst 1, 1) := by decide +kernel
theorem dX11_signersOf_6 : decode cX11_signersOf 6 = .ok (.aload_n 0, 1) := by decide +kernel
theorem dX11_signersOf_7 : decode cX11_signersOf 7 = .ok (.getfield 122, 3) := by decide +kernel
theorem dX11_signersOf_10 : decode cX11_signersOf 10 = .ok (.ishl, 1) := by decide +kernel
theorem dX11_signersOf_11 : decode cX11_signersOf 11 = .ok (.if_icmp .ge 55, 3) := by decide +kernel
theorem dX11_signersOf_14 : decode cX11_signersOf 14 = .ok (.iload_n 3, 1) := by decide +kernel
theorem dX11_signersOf_15 : decode cX11_signersOf 15 = .ok (.aload_n 0, 1) := by decide +kernel
theorem dX11_signersOf_16 : decode cX11_signersOf 16 = .ok (.getfield 7, 3) := by decide +kernel
theorem dX11_signersOf_19 : decode cX11_signersOf 19 = .ok (.iconst 3, 1) := by decide +kernel
theorem dX11_signersOf_20 : decode cX11_signersOf 20 = .ok (.iaload, 1) := by decide +kernel
theorem dX11_signersOf_21 : decode cX11_signersOf 21 = .ok (.iand, 1) := by decide +kernel
theorem dX11_signersOf_22 : decode cX11_signersOf 22 = .ok (.ifCond .ne 38, 3) := by decide +kernel
theorem dX11_signersOf_25 : decode cX11_signersOf 25 = .ok (.iload_n 2, 1) := by decide +kernel
theorem dX11_signersOf_26 : decode cX11_signersOf 26 = .ok (.iconst (-1), 1) := by decide +kernel
theorem dX11_signersOf_27 : decode cX11_signersOf 27 = .ok (.if_icmp .eq 19, 3) := by decide +kernel
theorem dX11_signersOf_30 : decode cX11_signersOf 30 = .ok (.aload_n 0, 1) := by decide +kernel
theorem dX11_signersOf_31 : decode cX11_signersOf 31 = .ok (.iload_n 3, 1) := by decide +kernel
theorem dX11_signersOf_32 : decode cX11_signersOf 32 = .ok (.invokevirtual 333, 3) := by decide +kernel
theorem dX11_signersOf_35 : decode cX11_signersOf 35 = .ok (.aload_n 0, 1) := by decide +kernel
theorem dX11_signersOf_36 : decode cX11_signersOf 36 = .ok (.iload_n 2, 1) := by decide +kernel
theorem dX11_signersOf_37 : decode cX11_signersOf 37 = .ok (.invokevirtual 333, 3) := by decide +kernel
theorem dX11_signersOf_40 : decode cX11_signersOf 40 = .ok (.if_icmp .lt 6, 3) := by decide +kernel
theorem dX11_signersOf_43 : decode cX11_signersOf 43 = .ok (.goto 17, 3) := by decide +kernel
theorem dX11_signersOf_46 : decode cX11_signersOf 46 = .ok (.iload_n 1, 1) := by decide +kernel
theorem dX11_signersOf_47 : decode cX11_signersOf 47 = .ok (.aload_n 0, 1) := by decide +kernel
theorem dX11_signersOf_48 : decode cX11_signersOf 48 = .ok (.iload_n 3, 1) := by decide +kernel
theorem dX11_signersOf_49 : decode cX11_signersOf 49 = .ok (.invokevirtual 378, 3) := by decide +kernel
theorem dX11_signersOf_52 : decode cX11_signersOf 52 = .ok (.iconst (-1), 1) := by decide +kernel
theorem dX11_signersOf_53 : decode cX11_signersOf 53 = .ok (.ixor, 1) := by decide +kernel
theorem dX11_signersOf_54 : decode cX11_signersOf 54 = .ok (.iand, 1) := by decide +kernel
theorem dX11_signersOf_55 : decode cX11_signersOf 55 = .ok (.ifCond .ne 5, 3) := by decide +kernel
theorem dX11_signersOf_58 : decode cX11_signersOf 58 = .ok (.iload_n 3, 1) := by decide +kernel
theorem dX11_signersOf_59 : decode cX11_signersOf 59 = .ok (.istore_n 2, 1) := by decide +kernel
theorem dX11_signersOf_60 : decode cX11_signersOf 60 = .ok (.iinc 3 1, 3) := by decide +kernel
theorem dX11_signersOf_63 : decode cX11_signersOf 63 = .ok (.goto (-59), 3) := by decide +kernel
theorem dX11_signersOf_66 : decode cX11_signersOf 66 = .ok (.iload_n 2, 1) := by decide +kernel
theorem dX11_signersOf_67 : decode cX11_signersOf 67 = .ok (.ireturn, 1) := by decide +kernel
theorem dX11_neededFor_0 : decode cX11_neededFor 0 = .ok (.aload_n 0, 1) := by decide +kernel
theorem dX11_neededFor_1 : decode cX11_neededFor 1 = .ok (.invokevirtual 411, 3) := by decide +kernel
theorem dX11_neededFor_4 : decode cX11_neededFor 4 = .ok (.istore_n 2, 1) := by decide +kernel
theorem dX11_neededFor_5 : decode cX11_neededFor 5 = .ok (.iconst 0, 1) := by decide +kernel
theorem dX11_neededFor_6 : decode cX11_neededFor 6 = .ok (.istore_n 3, 1) := by decide +kernel
theorem dX11_neededFor_7 : decode cX11_neededFor 7 = .ok (.iload_n 1, 1) := by decide +kernel
theorem dX11_neededFor_8 : decode cX11_neededFor 8 = .ok (.aload_n 0, 1) := by decide +kernel
theorem dX11_neededFor_9 : decode cX11_neededFor 9 = .ok (.iload_n 2, 1) := by decide +kernel
theorem dX11_neededFor_10 : decode cX11_neededFor 10 = .ok (.invokevirtual 378, 3) := by decide +kernel
theorem dX11_neededFor_13 : decode cX11_neededFor 13 = .ok (.iconst (-1), 1) := by decide +kernel
theorem dX11_neededFor_14 : decode cX11_neededFor 14 = .ok (.ixor, 1) := by decide +kernel
theorem dX11_neededFor_15 : decode cX11_neededFor 15 = .ok (.iand, 1) := by decide +kernel
theorem dX11_neededFor_16 : decode cX11_neededFor 16 = .ok (.ifCond .eq 5, 3) := by decide +kernel
theorem dX11_neededFor_19 : decode cX11_neededFor 19 = .ok (.iconst 0, 1) := by decide +kernel
theorem dX11_neededFor_20 : decode cX11_neededFor 20 = .ok (.ireturn, 1) := by decide +kernel
theorem dX11_neededFor_21 : decode cX11_neededFor 21 = .ok (.iconst 0, 1) := by decide +kernel
theorem dX11_neededFor_22 : decode cX11_neededFor 22 = .ok (.istore 4, 2) := by decide +kernel
theorem dX11_neededFor_24 : decode cX11_neededFor 24 = .ok (.iload 4, 2) := by decide +kernel
theorem dX11_neededFor_26 : decode cX11_neededFor 26 = .ok (.aload_n 0, 1) := by decide +kernel
theorem dX11_neededFor_27 : decode cX11_neededFor 27 = .ok (.getfield 122, 3) := by decide +kernel
theorem dX11_neededFor_30 : decode cX11_neededFor 30 = .ok (.if_icmp .ge 45, 3) := by decide +kernel
theorem dX11_neededFor_33 : decode cX11_neededFor 33 = .ok (.iload_n 2, 1) := by decide +kernel
theorem dX11_neededFor_34 : decode cX11_neededFor 34 = .ok (.iload 4, 2) := by decide +kernel
theorem dX11_neededFor_36 : decode cX11_neededFor 36 = .ok (.ishr, 1) := by decide +kernel
theorem dX11_neededFor_37 : decode cX11_neededFor 37 = .ok (.iconst 1, 1) := by decide +kernel
theorem dX11_neededFor_38 : decode cX11_neededFor 38 = .ok (.iand, 1) := by decide +kernel
theorem dX11_neededFor_39 : decode cX11_neededFor 39 = .ok (.iconst 1, 1) := by decide +kernel
theorem dX11_neededFor_40 : decode cX11_neededFor 40 = .ok (.if_icmp .ne 29, 3) := by decide +kernel
theorem dX11_neededFor_43 : decode cX11_neededFor 43 = .ok (.iload_n 1, 1) := by decide +kernel
theorem dX11_neededFor_44 : decode cX11_neededFor 44 = .ok (.aload_n 0, 1) := by decide +kernel
theorem dX11_neededFor_45 : decode cX11_neededFor 45 = .ok (.iload_n 2, 1) := by decide +kernel
theorem dX11_neededFor_46 : decode cX11_neededFor 46 = .ok (.iconst 1, 1) := by decide +kernel
theorem dX11_neededFor_47 : decode cX11_neededFor 47 = .ok (.iload 4, 2) := by decide +kernel
theorem dX11_neededFor_49 : decode cX11_neededFor 49 = .ok (.ishl, 1) := by decide +kernel
theorem dX11_neededFor_50 : decode cX11_neededFor 50 = .ok (.iconst (-1), 1) := by decide +kernel
theorem dX11_neededFor_51 : decode cX11_neededFor 51 = .ok (.ixor, 1) := by decide +kernel
theorem dX11_neededFor_52 : decode cX11_neededFor 52 = .ok (.iand, 1) := by decide +kernel
theorem dX11_neededFor_53 : decode cX11_neededFor 53 = .ok (.invokevirtual 378, 3) := by decide +kernel
theorem dX11_neededFor_56 : decode cX11_neededFor 56 = .ok (.iconst (-1), 1) := by decide +kernel
theorem dX11_neededFor_57 : decode cX11_neededFor 57 = .ok (.ixor, 1) := by decide +kernel
theorem dX11_neededFor_58 : decode cX11_neededFor 58 = .ok (.iand, 1) := by decide +kernel
theorem dX11_neededFor_59 : decode cX11_neededFor 59 = .ok (.ifCond .eq 10, 3) := by decide +kernel
theorem dX11_neededFor_62 : decode cX11_neededFor 62 = .ok (.iload_n 3, 1) := by decide +kernel
theorem dX11_neededFor_63 : decode cX11_neededFor 63 = .ok (.iconst 1, 1) := by decide +kernel
theorem dX11_neededFor_64 : decode cX11_neededFor 64 = .ok (.iload 4, 2) := by decide +kernel
theorem dX11_neededFor_66 : decode cX11_neededFor 66 = .ok (.ishl, 1) := by decide +kernel
theorem dX11_neededFor_67 : decode cX11_neededFor 67 = .ok (.ior, 1) := by decide +kernel
theorem dX11_neededFor_68 : decode cX11_neededFor 68 = .ok (.istore_n 3, 1) := by decide +kernel
theorem dX11_neededFor_69 : decode cX11_neededFor 69 = .ok (.iinc 4 1, 3) := by decide +kernel
theorem dX11_neededFor_72 : decode cX11_neededFor 72 = .ok (.goto (-48), 3) := by decide +kernel
theorem dX11_neededFor_75 : decode cX11_neededFor 75 = .ok (.iload_n 3, 1) := by decide +kernel
theorem dX11_neededFor_76 : decode cX11_neededFor 76 = .ok (.ireturn, 1) := by decide +kernel
theorem dX11_aloneCount_0 : decode cX11_aloneCount 0 = .ok (.aload_n 0, 1) := by decide +kernel
theorem dX11_aloneCount_1 : decode cX11_aloneCount 1 = .ok (.invokevirtual 375, 3) := by decide +kernel
theorem dX11_aloneCount_4 : decode cX11_aloneCount 4 = .ok (.iconst 0, 1) := by decide +kernel
theorem dX11_aloneCount_5 : decode cX11_aloneCount 5 = .ok (.istore_n 1, 1) := by decide +kernel
theorem dX11_aloneCount_6 : decode cX11_aloneCount 6 = .ok (.iconst 0, 1) := by decide +kernel
theorem dX11_aloneCount_7 : decode cX11_aloneCount 7 = .ok (.istore_n 2, 1) := by decide +kernel
theorem dX11_aloneCount_8 : decode cX11_aloneCount 8 = .ok (.iload_n 2, 1) := by decide +kernel
theorem dX11_aloneCount_9 : decode cX11_aloneCount 9 = .ok (.aload_n 0, 1) := by decide +kernel
theorem dX11_aloneCount_10 : decode cX11_aloneCount 10 = .ok (.getfield 125, 3) := by decide +kernel
theorem dX11_aloneCount_13 : decode cX11_aloneCount 13 = .ok (.if_icmp .ge 26, 3) := by decide +kernel
theorem dX11_aloneCount_16 : decode cX11_aloneCount 16 = .ok (.iload_n 1, 1) := by decide +kernel
theorem dX11_aloneCount_17 : decode cX11_aloneCount 17 = .ok (.aload_n 0, 1) := by decide +kernel
theorem dX11_aloneCount_18 : decode cX11_aloneCount 18 = .ok (.aload_n 0, 1) := by decide +kernel
theorem dX11_aloneCount_19 : decode cX11_aloneCount 19 = .ok (.aload_n 0, 1) := by decide +kernel
theorem dX11_aloneCount_20 : decode cX11_aloneCount 20 = .ok (.getfield 83, 3) := by decide +kernel
theorem dX11_aloneCount_23 : decode cX11_aloneCount 23 = .ok (.iload_n 2, 1) := by decide +kernel
theorem dX11_aloneCount_24 : decode cX11_aloneCount 24 = .ok (.iaload, 1) := by decide +kernel
theorem dX11_aloneCount_25 : decode cX11_aloneCount 25 = .ok (.invokevirtual 405, 3) := by decide +kernel
theorem dX11_aloneCount_28 : decode cX11_aloneCount 28 = .ok (.invokevirtual 333, 3) := by decide +kernel
theorem dX11_aloneCount_31 : decode cX11_aloneCount 31 = .ok (.iadd, 1) := by decide +kernel
theorem dX11_aloneCount_32 : decode cX11_aloneCount 32 = .ok (.istore_n 1, 1) := by decide +kernel
theorem dX11_aloneCount_33 : decode cX11_aloneCount 33 = .ok (.iinc 2 1, 3) := by decide +kernel
theorem dX11_aloneCount_36 : decode cX11_aloneCount 36 = .ok (.goto (-28), 3) := by decide +kernel
theorem dX11_aloneCount_39 : decode cX11_aloneCount 39 = .ok (.iload_n 1, 1) := by decide +kernel
theorem dX11_aloneCount_40 : decode cX11_aloneCount 40 = .ok (.ireturn, 1) := by decide +kernel
theorem dX11_valueOf_0 : decode cX11_valueOf 0 = .ok (.aload_n 0, 1) := by decide +kernel
theorem dX11_valueOf_1 : decode cX11_valueOf 1 = .ok (.invokevirtual 414, 3) := by decide +kernel
theorem dX11_valueOf_4 : decode cX11_valueOf 4 = .ok (.istore_n 2, 1) := by decide +kernel
theorem dX11_valueOf_5 : decode cX11_valueOf 5 = .ok (.iconst 0, 1) := by decide +kernel
theorem dX11_valueOf_6 : decode cX11_valueOf 6 = .ok (.istore_n 3, 1) := by decide +kernel
theorem dX11_valueOf_7 : decode cX11_valueOf 7 = .ok (.iload_n 3, 1) := by decide +kernel
theorem dX11_valueOf_8 : decode cX11_valueOf 8 = .ok (.aload_n 0, 1) := by decide +kernel
theorem dX11_valueOf_9 : decode cX11_valueOf 9 = .ok (.getfield 122, 3) := by decide +kernel
theorem dX11_valueOf_12 : decode cX11_valueOf 12 = .ok (.if_icmp .ge 42, 3) := by decide +kernel
theorem dX11_valueOf_15 : decode cX11_valueOf 15 = .ok (.aload_n 0, 1) := by decide +kernel
theorem dX11_valueOf_16 : decode cX11_valueOf 16 = .ok (.getfield 95, 3) := by decide +kernel
theorem dX11_valueOf_19 : decode cX11_valueOf 19 = .ok (.iload_n 3, 1) := by decide +kernel
theorem dX11_valueOf_20 : decode cX11_valueOf 20 = .ok (.aload_n 0, 1) := by decide +kernel
theorem dX11_valueOf_21 : decode cX11_valueOf 21 = .ok (.iload_n 3, 1) := by decide +kernel
theorem dX11_valueOf_22 : decode cX11_valueOf 22 = .ok (.invokevirtual 132, 3) := by decide +kernel
theorem dX11_valueOf_25 : decode cX11_valueOf 25 = .ok (.ifCond .eq 16, 3) := by decide +kernel
theorem dX11_valueOf_28 : decode cX11_valueOf 28 = .ok (.aload_n 0, 1) := by decide +kernel
theorem dX11_valueOf_29 : decode cX11_valueOf 29 = .ok (.getfield 95, 3) := by decide +kernel
theorem dX11_valueOf_32 : decode cX11_valueOf 32 = .ok (.iload_n 3, 1) := by decide +kernel
theorem dX11_valueOf_33 : decode cX11_valueOf 33 = .ok (.iaload, 1) := by decide +kernel
theorem dX11_valueOf_34 : decode cX11_valueOf 34 = .ok (.iconst 1, 1) := by decide +kernel
theorem dX11_valueOf_35 : decode cX11_valueOf 35 = .ok (.iload_n 1, 1) := by decide +kernel
theorem dX11_valueOf_36 : decode cX11_valueOf 36 = .ok (.ishl, 1) := by decide +kernel
theorem dX11_valueOf_37 : decode cX11_valueOf 37 = .ok (.ior, 1) := by decide +kernel
theorem dX11_valueOf_38 : decode cX11_valueOf 38 = .ok (.goto 9, 3) := by decide +kernel
theorem dX11_valueOf_41 : decode cX11_valueOf 41 = .ok (.aload_n 0, 1) := by decide +kernel
theorem dX11_valueOf_42 : decode cX11_valueOf 42 = .ok (.getfield 95, 3) := by decide +kernel
theorem dX11_valueOf_45 : decode cX11_valueOf 45 = .ok (.iload_n 3, 1) := by decide +kernel
theorem dX11_valueOf_46 : decode cX11_valueOf 46 = .ok (.iaload, 1) := by decide +kernel
theorem dX11_valueOf_47 : decode cX11_valueOf 47 = .ok (.iastore, 1) := by decide +kernel
theorem dX11_valueOf_48 : decode cX11_valueOf 48 = .ok (.iinc 3 1, 3) := by decide +kernel
theorem dX11_valueOf_51 : decode cX11_valueOf 51 = .ok (.goto (-44), 3) := by decide +kernel
theorem dX11_valueOf_54 : decode cX11_valueOf 54 = .ok (.iconst 0, 1) := by decide +kernel
theorem dX11_valueOf_55 : decode cX11_valueOf 55 = .ok (.istore_n 3, 1) := by decide +kernel
theorem dX11_valueOf_56 : decode cX11_valueOf 56 = .ok (.iconst 0, 1) := by decide +kernel
theorem dX11_valueOf_57 : decode cX11_valueOf 57 = .ok (.istore 4, 2) := by decide +kernel
theorem dX11_valueOf_59 : decode cX11_valueOf 59 = .ok (.iload 4, 2) := by decide +kernel
theorem dX11_valueOf_61 : decode cX11_valueOf 61 = .ok (.aload_n 0, 1) := by decide +kernel
theorem dX11_valueOf_62 : decode cX11_valueOf 62 = .ok (.getfield 125, 3) := by decide +kernel
theorem dX11_valueOf_65 : decode cX11_valueOf 65 = .ok (.if_icmp .ge 27, 3) := by decide +kernel
theorem dX11_valueOf_68 : decode cX11_valueOf 68 = .ok (.iload_n 3, 1) := by decide +kernel
theorem dX11_valueOf_69 : decode cX11_valueOf 69 = .ok (.aload_n 0, 1) := by decide +kernel
theorem dX11_valueOf_70 : decode cX11_valueOf 70 = .ok (.aload_n 0, 1) := by decide +kernel
theorem dX11_valueOf_71 : decode cX11_valueOf 71 = .ok (.aload_n 0, 1) := by decide +kernel
theorem dX11_valueOf_72 : decode cX11_valueOf 72 = .ok (.getfield 83, 3) := by decide +kernel
theorem dX11_valueOf_75 : decode cX11_valueOf 75 = .ok (.iload 4, 2) := by decide +kernel
theorem dX11_valueOf_77 : decode cX11_valueOf 77 = .ok (.iaload, 1) := by decide +kernel
theorem dX11_valueOf_78 : decode cX11_valueOf 78 = .ok (.invokevirtual 405, 3) := by decide +kernel
theorem dX11_valueOf_81 : decode cX11_valueOf 81 = .ok (.invokevirtual 333, 3) := by decide +kernel
theorem dX11_valueOf_84 : decode cX11_valueOf 84 = .ok (.iadd, 1) := by decide +kernel
theorem dX11_valueOf_85 : decode cX11_valueOf 85 = .ok (.istore_n 3, 1) := by decide +kernel
theorem dX11_valueOf_86 : decode cX11_valueOf 86 = .ok (.iinc 4 1, 3) := by decide +kernel
theorem dX11_valueOf_89 : decode cX11_valueOf 89 = .ok (.goto (-30), 3) := by decide +kernel
theorem dX11_valueOf_92 : decode cX11_valueOf 92 = .ok (.iload_n 3, 1) := by decide +kernel
theorem dX11_valueOf_93 : decode cX11_valueOf 93 = .ok (.iload_n 2, 1) := by decide +kernel
theorem dX11_valueOf_94 : decode cX11_valueOf 94 = .ok (.isub, 1) := by decide +kernel
theorem dX11_valueOf_95 : decode cX11_valueOf 95 = .ok (.ireturn, 1) := by decide +kernel
theorem dX11_hand_0 : decode cX11_hand 0 = .ok (.aload_n 0, 1) := by decide +kernel
theorem dX11_hand_1 : decode cX11_hand 1 = .ok (.iconst 0, 1) := by decide +kernel
theorem dX11_hand_2 : decode cX11_hand 2 = .ok (.putfield 107, 3) := by decide +kernel
theorem dX11_hand_5 : decode cX11_hand 5 = .ok (.iload_n 1, 1) := by decide +kernel
theorem dX11_hand_6 : decode cX11_hand 6 = .ok (.iconst 1, 1) := by decide +kernel
theorem dX11_hand_7 : decode cX11_hand 7 = .ok (.if_icmp .lt 10, 3) := by decide +kernel
theorem dX11_hand_10 : decode cX11_hand 10 = .ok (.iload_n 1, 1) := by decide +kernel
theorem dX11_hand_11 : decode cX11_hand 11 = .ok (.ldc_w 269, 3) := by decide +kernel
theorem dX11_hand_14 : decode cX11_hand 14 = .ok (.if_icmp .le 5, 3) := by decide +kernel
theorem dX11_hand_17 : decode cX11_hand 17 = .ok (.iconst (-1), 1) := by decide +kernel
theorem dX11_hand_18 : decode cX11_hand 18 = .ok (.ireturn, 1) := by decide +kernel
theorem dX11_hand_19 : decode cX11_hand 19 = .ok (.aload_n 0, 1) := by decide +kernel
theorem dX11_hand_20 : decode cX11_hand 20 = .ok (.invokevirtual 375, 3) := by decide +kernel
theorem dX11_hand_23 : decode cX11_hand 23 = .ok (.aload_n 0, 1) := by decide +kernel
theorem dX11_hand_24 : decode cX11_hand 24 = .ok (.iload_n 1, 1) := by decide +kernel
theorem dX11_hand_25 : decode cX11_hand 25 = .ok (.invokevirtual 405, 3) := by decide +kernel
theorem dX11_hand_28 : decode cX11_hand 28 = .ok (.ireturn, 1) := by decide +kernel
theorem dX11_dumb_0 : decode cX11_dumb 0 = .ok (.aload_n 0, 1) := by decide +kernel
theorem dX11_dumb_1 : decode cX11_dumb 1 = .ok (.iconst 0, 1) := by decide +kernel
theorem dX11_dumb_2 : decode cX11_dumb 2 = .ok (.putfield 107, 3) := by decide +kernel
theorem dX11_dumb_5 : decode cX11_dumb 5 = .ok (.aload_n 0, 1) := by decide +kernel
theorem dX11_dumb_6 : decode cX11_dumb 6 = .ok (.invokevirtual 375, 3) := by decide +kernel
theorem dX11_dumb_9 : decode cX11_dumb 9 = .ok (.iconst 0, 1) := by decide +kernel
theorem dX11_dumb_10 : decode cX11_dumb 10 = .ok (.istore_n 1, 1) := by decide +kernel
theorem dX11_dumb_11 : decode cX11_dumb 11 = .ok (.iconst 0, 1) := by decide +kernel
theorem dX11_dumb_12 : decode cX11_dumb 12 = .ok (.istore_n 2, 1) := by decide +kernel
theorem dX11_dumb_13 : decode cX11_dumb 13 = .ok (.iload_n 2, 1) := by decide +kernel
theorem dX11_dumb_14 : decode cX11_dumb 14 = .ok (.aload_n 0, 1) := by decide +kernel
theorem dX11_dumb_15 : decode cX11_dumb 15 = .ok (.getfield 122, 3) := by decide +kernel
theorem dX11_dumb_18 : decode cX11_dumb 18 = .ok (.if_icmp .ge 32, 3) := by decide +kernel
theorem dX11_dumb_21 : decode cX11_dumb 21 = .ok (.aload_n 0, 1) := by decide +kernel
theorem dX11_dumb_22 : decode cX11_dumb 22 = .ok (.iload_n 2, 1) := by decide +kernel
theorem dX11_dumb_23 : decode cX11_dumb 23 = .ok (.invokevirtual 132, 3) := by decide +kernel
theorem dX11_dumb_26 : decode cX11_dumb 26 = .ok (.ifCond .eq 18, 3) := by decide +kernel
theorem dX11_dumb_29 : decode cX11_dumb 29 = .ok (.aload_n 0, 1) := by decide +kernel
theorem dX11_dumb_30 : decode cX11_dumb 30 = .ok (.getfield 95, 3) := by decide +kernel
theorem dX11_dumb_33 : decode cX11_dumb 33 = .ok (.iload_n 2, 1) := by decide +kernel
theorem dX11_dumb_34 : decode cX11_dumb 34 = .ok (.iaload, 1) := by decide +kernel
theorem dX11_dumb_35 : decode cX11_dumb 35 = .ok (.ifCond .ne 9, 3) := by decide +kernel
theorem dX11_dumb_38 : decode cX11_dumb 38 = .ok (.iload_n 1, 1) := by decide +kernel
theorem dX11_dumb_39 : decode cX11_dumb 39 = .ok (.iconst 1, 1) := by decide +kernel
theorem dX11_dumb_40 : decode cX11_dumb 40 = .ok (.iload_n 2, 1) := by decide +kernel
theorem dX11_dumb_41 : decode cX11_dumb 41 = .ok (.ishl, 1) := by decide +kernel
theorem dX11_dumb_42 : decode cX11_dumb 42 = .ok (.ior, 1) := by decide +kernel
theorem dX11_dumb_43 : decode cX11_dumb 43 = .ok (.istore_n 1, 1) := by decide +kernel
theorem dX11_dumb_44 : decode cX11_dumb 44 = .ok (.iinc 2 1, 3) := by decide +kernel
theorem dX11_dumb_47 : decode cX11_dumb 47 = .ok (.goto (-34), 3) := by decide +kernel
theorem dX11_dumb_50 : decode cX11_dumb 50 = .ok (.iload_n 1, 1) := by decide +kernel
theorem dX11_dumb_51 : decode cX11_dumb 51 = .ok (.ireturn, 1) := by decide +kernel
theorem dX11_canWriteDeed_0 : decode cX11_canWriteDeed 0 = .ok (.iload_n 2, 1) := by decide +kernel
theorem dX11_canWriteDeed_1 : decode cX11_canWriteDeed 1 = .ok (.aload_n 0, 1) := by decide +kernel
theorem dX11_canWriteDeed_2 : decode cX11_canWriteDeed 2 = .ok (.iload_n 1, 1) := by decide +kernel
theorem dX11_canWriteDeed_3 : decode cX11_canWriteDeed 3 = .ok (.invokevirtual 321, 3) := by decide +kernel
theorem dX11_canWriteDeed_6 : decode cX11_canWriteDeed 6 = .ok (.iconst (-1), 1) := by decide +kernel
theorem dX11_canWriteDeed_7 : decode cX11_canWriteDeed 7 = .ok (.ixor, 1) := by decide +kernel
theorem dX11_canWriteDeed_8 : decode cX11_canWriteDeed 8 = .ok (.iand, 1) := by decide +kernel
theorem dX11_canWriteDeed_9 : decode cX11_canWriteDeed 9 = .ok (.ifCond .ne 7, 3) := by decide +kernel
theorem dX11_canWriteDeed_12 : decode cX11_canWriteDeed 12 = .ok (.iconst 1, 1) := by decide +kernel
theorem dX11_canWriteDeed_13 : decode cX11_canWriteDeed 13 = .ok (.goto 4, 3) := by decide +kernel
theorem dX11_canWriteDeed_16 : decode cX11_canWriteDeed 16 = .ok (.iconst 0, 1) := by decide +kernel
theorem dX11_canWriteDeed_17 : decode cX11_canWriteDeed 17 = .ok (.ireturn, 1) := by decide +kernel
theorem dX11_canBySecond_0 : decode cX11_canBySecond 0 = .ok (.iload_n 3, 1) := by decide +kernel
theorem dX11_canBySecond_1 : decode cX11_canBySecond 1 = .ok (.iconst 1, 1) := by decide +kernel
theorem dX11_canBySecond_2 : decode cX11_canBySecond 2 = .ok (.iadd, 1) := by decide +kernel
theorem dX11_canBySecond_3 : decode cX11_canBySecond 3 = .ok (.istore 4, 2) := by decide +kernel
theorem dX11_canBySecond_5 : decode cX11_canBySecond 5 = .ok (.iload 4, 2) := by decide +kernel
theorem dX11_canBySecond_7 : decode cX11_canBySecond 7 = .ok (.aload_n 0, 1) := by decide +kernel
theorem dX11_canBySecond_8 : decode cX11_canBySecond 8 = .ok (.getfield 122, 3) := by decide +kernel
theorem dX11_canBySecond_11 : decode cX11_canBySecond 11 = .ok (.if_icmp .ge 112, 3) := by decide +kernel
theorem dX11_canBySecond_14 : decode cX11_canBySecond 14 = .ok (.iload 4, 2) := by decide +kernel
theorem dX11_canBySecond_16 : decode cX11_canBySecond 16 = .ok (.iconst 1, 1) := by decide +kernel
theorem dX11_canBySecond_17 : decode cX11_canBySecond 17 = .ok (.iadd, 1) := by decide +kernel
theorem dX11_canBySecond_18 : decode cX11_canBySecond 18 = .ok (.istore 5, 2) := by decide +kernel
theorem dX11_canBySecond_20 : decode cX11_canBySecond 20 = .ok (.iload 5, 2) := by decide +kernel
theorem dX11_canBySecond_22 : decode cX11_canBySecond 22 = .ok (.aload_n 0, 1) := by decide +kernel
theorem dX11_canBySecond_23 : decode cX11_canBySecond 23 = .ok (.getfield 122, 3) := by decide +kernel
theorem dX11_canBySecond_26 : decode cX11_canBySecond 26 = .ok (.if_icmp .ge 91, 3) := by decide +kernel
theorem dX11_canBySecond_29 : decode cX11_canBySecond 29 = .ok (.aload_n 0, 1) := by decide +kernel
theorem dX11_canBySecond_30 : decode cX11_canBySecond 30 = .ok (.iload 4, 2) := by decide +kernel
theorem dX11_canBySecond_32 : decode cX11_canBySecond 32 = .ok (.iload 5, 2) := by decide +kernel
theorem dX11_canBySecond_34 : decode cX11_canBySecond 34 = .ok (.invokevirtual 354, 3) := by decide +kernel
theorem dX11_canBySecond_37 : decode cX11_canBySecond 37 = .ok (.ifCond .ne 6, 3) := by decide +kernel
theorem dX11_canBySecond_40 : decode cX11_canBySecond 40 = .ok (.goto 71, 3) := by decide +kernel
theorem dX11_canBySecond_43 : decode cX11_canBySecond 43 = .ok (.aload_n 0, 1) := by decide +kernel
theorem dX11_canBySecond_44 : decode cX11_canBySecond 44 = .ok (.iload 4, 2) := by decide +kernel
theorem dX11_canBySecond_46 : decode cX11_canBySecond 46 = .ok (.iload 5, 2) := by decide +kernel
theorem dX11_canBySecond_48 : decode cX11_canBySecond 48 = .ok (.invokevirtual 360, 3) := by decide +kernel
theorem dX11_canBySecond_51 : decode cX11_canBySecond 51 = .ok (.aload_n 0, 1) := by decide +kernel
theorem dX11_canBySecond_52 : decode cX11_canBySecond 52 = .ok (.iload_n 1, 1) := by decide +kernel
theorem dX11_canBySecond_53 : decode cX11_canBySecond 53 = .ok (.iload_n 2, 1) := by decide +kernel
theorem dX11_canBySecond_54 : decode cX11_canBySecond 54 = .ok (.invokevirtual 417, 3) := by decide +kernel
theorem dX11_canBySecond_57 : decode cX11_canBySecond 57 = .ok (.istore 6, 2) := by decide +kernel
theorem dX11_canBySecond_59 : decode cX11_canBySecond 59 = .ok (.aload_n 0, 1) := by decide +kernel
theorem dX11_canBySecond_60 : decode cX11_canBySecond 60 = .ok (.getfield 7, 3) := by decide +kernel
theorem dX11_canBySecond_63 : decode cX11_canBySecond 63 = .ok (.bipush 112, 2) := by decide +kernel
theorem dX11_canBySecond_65 : decode cX11_canBySecond 65 = .ok (.iload 4, 2) := by decide +kernel
theorem dX11_canBySecond_67 : decode cX11_canBySecond 67 = .ok (.iadd, 1) := by decide +kernel
theorem dX11_canBySecond_68 : decode cX11_canBySecond 68 = .ok (.iconst 0, 1) := by decide +kernel
theorem dX11_canBySecond_69 : decode cX11_canBySecond 69 = .ok (.iastore, 1) := by decide +kernel
theorem dX11_canBySecond_70 : decode cX11_canBySecond 70 = .ok (.aload_n 0, 1) := by decide +kernel
theorem dX11_canBySecond_71 : decode cX11_canBySecond 71 = .ok (.getfield 7, 3) := by decide +kernel
theorem dX11_canBySecond_74 : decode cX11_canBySecond 74 = .ok (.bipush 112, 2) := by decide +kernel
theorem dX11_canBySecond_76 : decode cX11_canBySecond 76 = .ok (.iload 5, 2) := by decide +kernel
theorem dX11_canBySecond_78 : decode cX11_canBySecond 78 = .ok (.iadd, 1) := by decide +kernel
theorem dX11_canBySecond_79 : decode cX11_canBySecond 79 = .ok (.iconst 0, 1) := by decide +kernel
theorem dX11_canBySecond_80 : decode cX11_canBySecond 80 = .ok (.iastore, 1) := by decide +kernel
theorem dX11_canBySecond_81 : decode cX11_canBySecond 81 = .ok (.aload_n 0, 1) := by decide +kernel
theorem dX11_canBySecond_82 : decode cX11_canBySecond 82 = .ok (.invokevirtual 113, 3) := by decide +kernel
theorem dX11_canBySecond_85 : decode cX11_canBySecond 85 = .ok (.iload 6, 2) := by decide +kernel
theorem dX11_canBySecond_87 : decode cX11_canBySecond 87 = .ok (.ifCond .ne 6, 3) := by decide +kernel
theorem dX11_canBySecond_90 : decode cX11_canBySecond 90 = .ok (.goto 21, 3) := by decide +kernel
theorem dX11_canBySecond_93 : decode cX11_canBySecond 93 = .ok (.aload_n 0, 1) := by decide +kernel
theorem dX11_canBySecond_94 : decode cX11_canBySecond 94 = .ok (.getfield 101, 3) := by decide +kernel
theorem dX11_canBySecond_97 : decode cX11_canBySecond 97 = .ok (.iconst 2, 1) := by decide +kernel
theorem dX11_canBySecond_98 : decode cX11_canBySecond 98 = .ok (.iload 4, 2) := by decide +kernel
theorem dX11_canBySecond_100 : decode cX11_canBySecond 100 = .ok (.iastore, 1) := by decide +kernel
theorem dX11_canBySecond_101 : decode cX11_canBySecond 101 = .ok (.aload_n 0, 1) := by decide +kernel
theorem dX11_canBySecond_102 : decode cX11_canBySecond 102 = .ok (.getfield 101, 3) := by decide +kernel
theorem dX11_canBySecond_105 : decode cX11_canBySecond 105 = .ok (.iconst 3, 1) := by decide +kernel
theorem dX11_canBySecond_106 : decode cX11_canBySecond 106 = .ok (.iload 5, 2) := by decide +kernel
theorem dX11_canBySecond_108 : decode cX11_canBySecond 108 = .ok (.iastore, 1) := by decide +kernel
theorem dX11_canBySecond_109 : decode cX11_canBySecond 109 = .ok (.iconst 1, 1) := by decide +kernel
theorem dX11_canBySecond_110 : decode cX11_canBySecond 110 = .ok (.ireturn, 1) := by decide +kernel
theorem dX11_canBySecond_111 : decode cX11_canBySecond 111 = .ok (.iinc 5 1, 3) := by decide +kernel
theorem dX11_canBySecond_114 : decode cX11_canBySecond 114 = .ok (.goto (-94), 3) := by decide +kernel
theorem dX11_canBySecond_117 : decode cX11_canBySecond 117 = .ok (.iinc 4 1, 3) := by decide +kernel
theorem dX11_canBySecond_120 : decode cX11_canBySecond 120 = .ok (.goto (-115), 3) := by decide +kernel
theorem dX11_canBySecond_123 : decode cX11_canBySecond 123 = .ok (.iconst 0, 1) := by decide +kernel
theorem dX11_canBySecond_124 : decode cX11_canBySecond 124 = .ok (.ireturn, 1) := by decide +kernel
theorem dX11_canByWeddings_0 : decode cX11_canByWeddings 0 = .ok (.iconst 0, 1) := by decide +kernel
theorem dX11_canByWeddings_1 : decode cX11_canByWeddings 1 = .ok (.istore 4, 2) := by decide +kernel
theorem dX11_canByWeddings_3 : decode cX11_canByWeddings 3 = .ok (.iload 4, 2) := by decide +kernel
theorem dX11_canByWeddings_5 : decode cX11_canByWeddings 5 = .ok (.aload_n 0, 1) := by decide +kernel
theorem dX11_canByWeddings_6 : decode cX11_canByWeddings 6 = .ok (.getfield 122, 3) := by decide +kernel
theorem dX11_canByWeddings_9 : decode cX11_canByWeddings 9 = .ok (.if_icmp .ge 128, 3) := by decide +kernel
theorem dX11_canByWeddings_12 : decode cX11_canByWeddings 12 = .ok (.iload 4, 2) := by decide +kernel
theorem dX11_canByWeddings_14 : decode cX11_canByWeddings 14 = .ok (.iconst 1, 1) := by decide +kernel
theorem dX11_canByWeddings_15 : decode cX11_canByWeddings 15 = .ok (.iadd, 1) := by decide +kernel
theorem dX11_canByWeddings_16 : decode cX11_canByWeddings 16 = .ok (.istore 5, 2) := by decide +kernel
theorem dX11_canByWeddings_18 : decode cX11_canByWeddings 18 = .ok (.iload 5, 2) := by decide +kernel
theorem dX11_canByWeddings_20 : decode cX11_canByWeddings 20 = .ok (.aload_n 0, 1) := by decide +kernel
theorem dX11_canByWeddings_21 : decode cX11_canByWeddings 21 = .ok (.getfield 122, 3) := by decide +kernel
theorem dX11_canByWeddings_24 : decode cX11_canByWeddings 24 = .ok (.if_icmp .ge 107, 3) := by decide +kernel
theorem dX11_canByWeddings_27 : decode cX11_canByWeddings 27 = .ok (.aload_n 0, 1) := by decide +kernel
theorem dX11_canByWeddings_28 : decode cX11_canByWeddings 28 = .ok (.iload 4, 2) := by decide +kernel
theorem dX11_canByWeddings_30 : decode cX11_canByWeddings 30 = .ok (.iload 5, 2) := by decide +kernel
theorem dX11_canByWeddings_32 : decode cX11_canByWeddings 32 = .ok (.invokevirtual 354, 3) := by decide +kernel
theorem dX11_canByWeddings_35 : decode cX11_canByWeddings 35 = .ok (.ifCond .ne 6, 3) := by decide +kernel
theorem dX11_canByWeddings_38 : decode cX11_canByWeddings 38 = .ok (.goto 87, 3) := by decide +kernel
theorem dX11_canByWeddings_41 : decode cX11_canByWeddings 41 = .ok (.aload_n 0, 1) := by decide +kernel
theorem dX11_canByWeddings_42 : decode cX11_canByWeddings 42 = .ok (.iload 4, 2) := by decide +kernel
theorem dX11_canByWeddings_44 : decode cX11_canByWeddings 44 = .ok (.iload 5, 2) := by decide +kernel
theorem dX11_canByWeddings_46 : decode cX11_canByWeddings 46 = .ok (.invokevirtual 360, 3) := by decide +kernel
theorem dX11_canByWeddings_49 : decode cX11_canByWeddings 49 = .ok (.iload_n 3, 1) := by decide +kernel
theorem dX11_canByWeddings_50 : decode cX11_canByWeddings 50 = .ok (.iconst 1, 1) := by decide +kernel
theorem dX11_canByWeddings_51 : decode cX11_canByWeddings 51 = .ok (.if_icmp .ne 12, 3) := by decide +kernel
theorem dX11_canByWeddings_54 : decode cX11_canByWeddings 54 = .ok (.aload_n 0, 1) := by decide +kernel
theorem dX11_canByWeddings_55 : decode cX11_canByWeddings 55 = .ok (.iload_n 1, 1) := by decide +kernel
theorem dX11_canByWeddings_56 : decode cX11_canByWeddings 56 = .ok (.iload_n 2, 1) := by decide +kernel
theorem dX11_canByWeddings_57 : decode cX11_canByWeddings 57 = .ok (.invokevirtual 417, 3) := by decide +kernel
theorem dX11_canByWeddings_60 : decode cX11_canByWeddings 60 = .ok (.goto 11, 3) := by decide +kernel
theorem dX11_canByWeddings_63 : decode cX11_canByWeddings 63 = .ok (.aload_n 0, 1) := by decide +kernel
theorem dX11_canByWeddings_64 : decode cX11_canByWeddings 64 = .ok (.iload_n 1, 1) := by decide +kernel
theorem dX11_canByWeddings_65 : decode cX11_canByWeddings 65 = .ok (.iload_n 2, 1) := by decide +kernel
theorem dX11_canByWeddings_66 : decode cX11_canByWeddings 66 = .ok (.iload 4, 2) := by decide +kernel
theorem dX11_canByWeddings_68 : decode cX11_canByWeddings 68 = .ok (.invokevirtual 420, 3) := by decide +kernel
theorem dX11_canByWeddings_71 : decode cX11_canByWeddings 71 = .ok (.istore 6, 2) := by decide +kernel
theorem dX11_canByWeddings_73 : decode cX11_canByWeddings 73 = .ok (.aload_n 0, 1) := by decide +kernel
theorem dX11_canByWeddings_74 : decode cX11_canByWeddings 74 = .ok (.getfield 7, 3) := by decide +kernel
theorem dX11_canByWeddings_77 : decode cX11_canByWeddings 77 = .ok (.bipush 112, 2) := by decide +kernel
theorem dX11_canByWeddings_79 : decode cX11_canByWeddings 79 = .ok (.iload 4, 2) := by decide +kernel
theorem dX11_canByWeddings_81 : decode cX11_canByWeddings 81 = .ok (.iadd, 1) := by decide +kernel
theorem dX11_canByWeddings_82 : decode cX11_canByWeddings 82 = .ok (.iconst 0, 1) := by decide +kernel
theorem dX11_canByWeddings_83 : decode cX11_canByWeddings 83 = .ok (.iastore, 1) := by decide +kernel
theorem dX11_canByWeddings_84 : decode cX11_canByWeddings 84 = .ok (.aload_n 0, 1) := by decide +kernel
theorem dX11_canByWeddings_85 : decode cX11_canByWeddings 85 = .ok (.getfield 7, 3) := by decide +kernel
theorem dX11_canByWeddings_88 : decode cX11_canByWeddings 88 = .ok (.bipush 112, 2) := by decide +kernel
theorem dX11_canByWeddings_90 : decode cX11_canByWeddings 90 = .ok (.iload 5, 2) := by decide +kernel
theorem dX11_canByWeddings_92 : decode cX11_canByWeddings 92 = .ok (.iadd, 1) := by decide +kernel
theorem dX11_canByWeddings_93 : decode cX11_canByWeddings 93 = .ok (.iconst 0, 1) := by decide +kernel
theorem dX11_canByWeddings_94 : decode cX11_canByWeddings 94 = .ok (.iastore, 1) := by decide +kernel
theorem dX11_canByWeddings_95 : decode cX11_canByWeddings 95 = .ok (.aload_n 0, 1) := by decide +kernel
theorem dX11_canByWeddings_96 : decode cX11_canByWeddings 96 = .ok (.invokevirtual 113, 3) := by decide +kernel
theorem dX11_canByWeddings_99 : decode cX11_canByWeddings 99 = .ok (.iload 6, 2) := by decide +kernel
theorem dX11_canByWeddings_101 : decode cX11_canByWeddings 101 = .ok (.ifCond .ne 6, 3) := by decide +kernel
theorem dX11_canByWeddings_104 : decode cX11_canByWeddings 104 = .ok (.goto 21, 3) := by decide +kernel
theorem dX11_canByWeddings_107 : decode cX11_canByWeddings 107 = .ok (.aload_n 0, 1) := by decide +kernel
theorem dX11_canByWeddings_108 : decode cX11_canByWeddings 108 = .ok (.getfield 101, 3) := by decide +kernel
theorem dX11_canByWeddings_111 : decode cX11_canByWeddings 111 = .ok (.iconst 0, 1) := by decide +kernel
theorem dX11_canByWeddings_112 : decode cX11_canByWeddings 112 = .ok (.iload 4, 2) := by decide +kernel
theorem dX11_canByWeddings_114 : decode cX11_canByWeddings 114 = .ok (.iastore, 1) := by decide +kernel
theorem dX11_canByWeddings_115 : decode cX11_canByWeddings 115 = .ok (.aload_n 0, 1) := by decide +kernel
theorem dX11_canByWeddings_116 : decode cX11_canByWeddings 116 = .ok (.getfield 101, 3) := by decide +kernel
theorem dX11_canByWeddings_119 : decode cX11_canByWeddings 119 = .ok (.iconst 1, 1) := by decide +kernel
theorem dX11_canByWeddings_120 : decode cX11_canByWeddings 120 = .ok (.iload 5, 2) := by decide +kernel
theorem dX11_canByWeddings_122 : decode cX11_canByWeddings 122 = .ok (.iastore, 1) := by decide +kernel
theorem dX11_canByWeddings_123 : decode cX11_canByWeddings 123 = .ok (.iconst 1, 1) := by decide +kernel
theorem dX11_canByWeddings_124 : decode cX11_canByWeddings 124 = .ok (.ireturn, 1) := by decide +kernel
theorem dX11_canByWeddings_125 : decode cX11_canByWeddings 125 = .ok (.iinc 5 1, 3) := by decide +kernel
theorem dX11_canByWeddings_128 : decode cX11_canByWeddings 128 = .ok (.goto (-110), 3) := by decide +kernel
theorem dX11_canByWeddings_131 : decode cX11_canByWeddings 131 = .ok (.iinc 4 1, 3) := by decide +kernel
theorem dX11_canByWeddings_134 : decode cX11_canByWeddings 134 = .ok (.goto (-131), 3) := by decide +kernel
theorem dX11_canByWeddings_137 : decode cX11_canByWeddings 137 = .ok (.iconst 0, 1) := by decide +kernel
theorem dX11_canByWeddings_138 : decode cX11_canByWeddings 138 = .ok (.ireturn, 1) := by decide +kernel
theorem dX11_fewestWeddings_0 : decode cX11_fewestWeddings 0 = .ok (.iconst 0, 1) := by decide +kernel
theorem dX11_fewestWeddings_1 : decode cX11_fewestWeddings 1 = .ok (.istore_n 3, 1) := by decide +kernel
theorem dX11_fewestWeddings_2 : decode cX11_fewestWeddings 2 = .ok (.iload_n 3, 1) := by decide +kernel
theorem dX11_fewestWeddings_3 : decode cX11_fewestWeddings 3 = .ok (.iconst 4, 1) := by decide +kernel
theorem dX11_fewestWeddings_4 : decode cX11_fewestWeddings 4 = .ok (.if_icmp .ge 16, 3) := by decide +kernel
theorem dX11_fewestWeddings_7 : decode cX11_fewestWeddings 7 = .ok (.aload_n 0, 1) := by decide +kernel
theorem dX11_fewestWeddings_8 : decode cX11_fewestWeddings 8 = .ok (.getfield 101, 3) := by decide +kernel
theorem dX11_fewestWeddings_11 : decode cX11_fewestWeddings 11 = .ok (.iload_n 3, 1) := by decide +kernel
theorem dX11_fewestWeddings_12 : decode cX11_fewestWeddings 12 = .ok (.iconst (-1), 1) := by decide +kernel
theorem dX11_fewestWeddings_13 : decode cX11_fewestWeddings 13 = .ok (.iastore, 1) := by decide +kernel
theorem dX11_fewestWeddings_14 : decode cX11_fewestWeddings 14 = .ok (.iinc 3 1, 3) := by decide +kernel
theorem dX11_fewestWeddings_17 : decode cX11_fewestWeddings 17 = .ok (.goto (-15), 3) := by decide +kernel
theorem dX11_fewestWeddings_20 : decode cX11_fewestWeddings 20 = .ok (.aload_n 0, 1) := by decide +kernel
theorem dX11_fewestWeddings_21 : decode cX11_fewestWeddings 21 = .ok (.iload_n 1, 1) := by decide +kernel
theorem dX11_fewestWeddings_22 : decode cX11_fewestWeddings 22 = .ok (.iload_n 2, 1) := by decide +kernel
theorem dX11_fewestWeddings_23 : decode cX11_fewestWeddings 23 = .ok (.invokevirtual 417, 3) := by decide +kernel
theorem dX11_fewestWeddings_26 : decode cX11_fewestWeddings 26 = .ok (.ifCond .eq 5, 3) := by decide +kernel
theorem dX11_fewestWeddings_29 : decode cX11_fewestWeddings 29 = .ok (.iconst 0, 1) := by decide +kernel
theorem dX11_fewestWeddings_30 : decode cX11_fewestWeddings 30 = .ok (.ireturn, 1) := by decide +kernel
theorem dX11_fewestWeddings_31 : decode cX11_fewestWeddings 31 = .ok (.aload_n 0, 1) := by decide +kernel
theorem dX11_fewestWeddings_32 : decode cX11_fewestWeddings 32 = .ok (.iload_n 1, 1) := by decide +kernel
theorem dX11_fewestWeddings_33 : decode cX11_fewestWeddings 33 = .ok (.iload_n 2, 1) := by decide +kernel
theorem dX11_fewestWeddings_34 : decode cX11_fewestWeddings 34 = .ok (.iconst 1, 1) := by decide +kernel
theorem dX11_fewestWeddings_35 : decode cX11_fewestWeddings 35 = .ok (.invokevirtual 423, 3) := by decide +kernel
theorem dX11_fewestWeddings_38 : decode cX11_fewestWeddings 38 = .ok (.ifCond .eq 5, 3) := by decide +kernel
theorem dX11_fewestWeddings_41 : decode cX11_fewestWeddings 41 = .ok (.iconst 1, 1) := by decide +kernel
theorem dX11_fewestWeddings_42 : decode cX11_fewestWeddings 42 = .ok (.ireturn, 1) := by decide +kernel
theorem dX11_fewestWeddings_43 : decode cX11_fewestWeddings 43 = .ok (.aload_n 0, 1) := by decide +kernel
theorem dX11_fewestWeddings_44 : decode cX11_fewestWeddings 44 = .ok (.iload_n 1, 1) := by decide +kernel
theorem dX11_fewestWeddings_45 : decode cX11_fewestWeddings 45 = .ok (.iload_n 2, 1) := by decide +kernel
theorem dX11_fewestWeddings_46 : decode cX11_fewestWeddings 46 = .ok (.iconst 2, 1) := by decide +kernel
theorem dX11_fewestWeddings_47 : decode cX11_fewestWeddings 47 = .ok (.invokevirtual 423, 3) := by decide +kernel
theorem dX11_fewestWeddings_50 : decode cX11_fewestWeddings 50 = .ok (.ifCond .eq 7, 3) := by decide +kernel
theorem dX11_fewestWeddings_53 : decode cX11_fewestWeddings 53 = .ok (.iconst 2, 1) := by decide +kernel
theorem dX11_fewestWeddings_54 : decode cX11_fewestWeddings 54 = .ok (.goto 4, 3) := by decide +kernel
theorem dX11_fewestWeddings_57 : decode cX11_fewestWeddings 57 = .ok (.iconst (-1), 1) := by decide +kernel
theorem dX11_fewestWeddings_58 : decode cX11_fewestWeddings 58 = .ok (.ireturn, 1) := by decide +kernel
theorem dX11_weddings_0 : decode cX11_weddings 0 = .ok (.aload_n 0, 1) := by decide +kernel
theorem dX11_weddings_1 : decode cX11_weddings 1 = .ok (.iconst 0, 1) := by decide +kernel
theorem dX11_weddings_2 : decode cX11_weddings 2 = .ok (.putfield 107, 3) := by decide +kernel
theorem dX11_weddings_5 : decode cX11_weddings 5 = .ok (.aload_n 0, 1) := by decide +kernel
theorem dX11_weddings_6 : decode cX11_weddings 6 = .ok (.iload_n 1, 1) := by decide +kernel
theorem dX11_weddings_7 : decode cX11_weddings 7 = .ok (.invokevirtual 151, 3) := by decide +kernel
theorem dX11_weddings_10 : decode cX11_weddings 10 = .ok (.ifCond .eq 21, 3) := by decide +kernel
theorem dX11_weddings_13 : decode cX11_weddings 13 = .ok (.aload_n 0, 1) := by decide +kernel
theorem dX11_weddings_14 : decode cX11_weddings 14 = .ok (.iload_n 2, 1) := by decide +kernel
theorem dX11_weddings_15 : decode cX11_weddings 15 = .ok (.invokevirtual 369, 3) := by decide +kernel
theorem dX11_weddings_18 : decode cX11_weddings 18 = .ok (.ifCond .eq 13, 3) := by decide +kernel
theorem dX11_weddings_21 : decode cX11_weddings 21 = .ok (.aload_n 0, 1) := by decide +kernel
theorem dX11_weddings_22 : decode cX11_weddings 22 = .ok (.iload_n 3, 1) := by decide +kernel
theorem dX11_weddings_23 : decode cX11_weddings 23 = .ok (.iconst 0, 1) := by decide +kernel
theorem dX11_weddings_24 : decode cX11_weddings 24 = .ok (.iconst 4, 1) := by decide +kernel
theorem dX11_weddings_25 : decode cX11_weddings 25 = .ok (.invokevirtual 147, 3) := by decide +kernel
theorem dX11_weddings_28 : decode cX11_weddings 28 = .ok (.ifCond .ne 5, 3) := by decide +kernel
theorem dX11_weddings_31 : decode cX11_weddings 31 = .ok (.iconst (-1), 1) := by decide +kernel
theorem dX11_weddings_32 : decode cX11_weddings 32 = .ok (.ireturn, 1) := by decide +kernel
theorem dX11_weddings_33 : decode cX11_weddings 33 = .ok (.aload_n 0, 1) := by decide +kernel
theorem dX11_weddings_34 : decode cX11_weddings 34 = .ok (.iload_n 1, 1) := by decide +kernel
theorem dX11_weddings_35 : decode cX11_weddings 35 = .ok (.aload_n 0, 1) := by decide +kernel
theorem dX11_weddings_36 : decode cX11_weddings 36 = .ok (.getfield 83, 3) := by decide +kernel
theorem dX11_weddings_39 : decode cX11_weddings 39 = .ok (.iload_n 2, 1) := by decide +kernel
theorem dX11_weddings_40 : decode cX11_weddings 40 = .ok (.iaload, 1) := by decide +kernel
theorem dX11_weddings_41 : decode cX11_weddings 41 = .ok (.invokevirtual 426, 3) := by decide +kernel
theorem dX11_weddings_44 : decode cX11_weddings 44 = .ok (.istore 4, 2) := by decide +kernel
theorem dX11_weddings_46 : decode cX11_weddings 46 = .ok (.iload_n 3, 1) := by decide +kernel
theorem dX11_weddings_47 : decode cX11_weddings 47 = .ok (.ifCond .ne 8, 3) := by decide +kernel
theorem dX11_weddings_50 : decode cX11_weddings 50 = .ok (.iload 4, 2) := by decide +kernel
theorem dX11_weddings_52 : decode cX11_weddings 52 = .ok (.goto 11, 3) := by decide +kernel
theorem dX11_weddings_55 : decode cX11_weddings 55 = .ok (.aload_n 0, 1) := by decide +kernel
theorem dX11_weddings_56 : decode cX11_weddings 56 = .ok (.getfield 101, 3) := by decide +kernel
theorem dX11_weddings_59 : decode cX11_weddings 59 = .ok (.iload_n 3, 1) := by decide +kernel
theorem dX11_weddings_60 : decode cX11_weddings 60 = .ok (.iconst 1, 1) := by decide +kernel
theorem dX11_weddings_61 : decode cX11_weddings 61 = .ok (.isub, 1) := by decide +kernel
theorem dX11_weddings_62 : decode cX11_weddings 62 = .ok (.iaload, 1) := by decide +kernel
theorem dX11_weddings_63 : decode cX11_weddings 63 = .ok (.ireturn, 1) := by decide +kernel
theorem dX11_whenCan_0 : decode cX11_whenCan 0 = .ok (.aload_n 0, 1) := by decide +kernel
theorem dX11_whenCan_1 : decode cX11_whenCan 1 = .ok (.iconst 0, 1) := by decide +kernel
theorem dX11_whenCan_2 : decode cX11_whenCan 2 = .ok (.putfield 107, 3) := by decide +kernel
theorem dX11_whenCan_5 : decode cX11_whenCan 5 = .ok (.aload_n 0, 1) := by decide +kernel
theorem dX11_whenCan_6 : decode cX11_whenCan 6 = .ok (.iload_n 1, 1) := by decide +kernel
theorem dX11_whenCan_7 : decode cX11_whenCan 7 = .ok (.invokevirtual 128, 3) := by decide +kernel
theorem dX11_whenCan_10 : decode cX11_whenCan 10 = .ok (.ifCond .eq 11, 3) := by decide +kernel
theorem dX11_whenCan_13 : decode cX11_whenCan 13 = .ok (.aload_n 0, 1) := by decide +kernel
theorem dX11_whenCan_14 : decode cX11_whenCan 14 = .ok (.iload_n 2, 1) := by decide +kernel
theorem dX11_whenCan_15 : decode cX11_whenCan 15 = .ok (.invokevirtual 369, 3) := by decide +kernel
theorem dX11_whenCan_18 : decode cX11_whenCan 18 = .ok (.ifCond .ne 5, 3) := by decide +kernel
theorem dX11_whenCan_21 : decode cX11_whenCan 21 = .ok (.iconst (-1), 1) := by decide +kernel
theorem dX11_whenCan_22 : decode cX11_whenCan 22 = .ok (.ireturn, 1) := by decide +kernel
theorem dX11_whenCan_23 : decode cX11_whenCan 23 = .ok (.aload_n 0, 1) := by decide +kernel
theorem dX11_whenCan_24 : decode cX11_whenCan 24 = .ok (.invokevirtual 429, 3) := by decide +kernel
theorem dX11_whenCan_27 : decode cX11_whenCan 27 = .ok (.iconst (-1), 1) := by decide +kernel
theorem dX11_whenCan_28 : decode cX11_whenCan 28 = .ok (.istore_n 3, 1) := by decide +kernel
theorem dX11_whenCan_29 : decode cX11_whenCan 29 = .ok (.iconst 0, 1) := by decide +kernel
theorem dX11_whenCan_30 : decode cX11_whenCan 30 = .ok (.istore 4, 2) := by decide +kernel
theorem dX11_whenCan_32 : decode cX11_whenCan 32 = .ok (.iload 4, 2) := by decide +kernel
theorem dX11_whenCan_34 : decode cX11_whenCan 34 = .ok (.sipush 400, 3) := by decide +kernel
theorem dX11_whenCan_37 : decode cX11_whenCan 37 = .ok (.if_icmp .gt 53, 3) := by decide +kernel
theorem dX11_whenCan_40 : decode cX11_whenCan 40 = .ok (.iload_n 3, 1) := by decide +kernel
theorem dX11_whenCan_41 : decode cX11_whenCan 41 = .ok (.iconst (-1), 1) := by decide +kernel
theorem dX11_whenCan_42 : decode cX11_whenCan 42 = .ok (.if_icmp .ne 48, 3) := by decide +kernel
theorem dX11_whenCan_45 : decode cX11_whenCan 45 = .ok (.iload 4, 2) := by decide +kernel
theorem dX11_whenCan_47 : decode cX11_whenCan 47 = .ok (.ifCond .le 8, 3) := by decide +kernel
theorem dX11_whenCan_50 : decode cX11_whenCan 50 = .ok (.aload_n 0, 1) := by decide +kernel
theorem dX11_whenCan_51 : decode cX11_whenCan 51 = .ok (.invokevirtual 390, 3) := by decide +kernel
theorem dX11_whenCan_54 : decode cX11_whenCan 54 = .ok (.pop, 1) := by decide +kernel
theorem dX11_whenCan_55 : decode cX11_whenCan 55 = .ok (.aload_n 0, 1) := by decide +kernel
theorem dX11_whenCan_56 : decode cX11_whenCan 56 = .ok (.iload_n 1, 1) := by decide +kernel
theorem dX11_whenCan_57 : decode cX11_whenCan 57 = .ok (.invokevirtual 132, 3) := by decide +kernel
theorem dX11_whenCan_60 : decode cX11_whenCan 60 = .ok (.ifCond .eq 24, 3) := by decide +kernel
theorem dX11_whenCan_63 : decode cX11_whenCan 63 = .ok (.aload_n 0, 1) := by decide +kernel
theorem dX11_whenCan_64 : decode cX11_whenCan 64 = .ok (.iload_n 1, 1) := by decide +kernel
theorem dX11_whenCan_65 : decode cX11_whenCan 65 = .ok (.aload_n 0, 1) := by decide +kernel
theorem dX11_whenCan_66 : decode cX11_whenCan 66 = .ok (.getfield 83, 3) := by decide +kernel
theorem dX11_whenCan_69 : decode cX11_whenCan 69 = .ok (.iload_n 2, 1) := by decide +kernel
theorem dX11_whenCan_70 : decode cX11_whenCan 70 = .ok (.iaload, 1) := by decide +kernel
theorem dX11_whenCan_71 : decode cX11_whenCan 71 = .ok (.invokevirtual 417, 3) := by decide +kernel
theorem dX11_whenCan_74 : decode cX11_whenCan 74 = .ok (.ifCond .eq 10, 3) := by decide +kernel
theorem dX11_whenCan_77 : decode cX11_whenCan 77 = .ok (.aload_n 0, 1) := by decide +kernel
theorem dX11_whenCan_78 : decode cX11_whenCan 78 = .ok (.getfield 7, 3) := by decide +kernel
theorem dX11_whenCan_81 : decode cX11_whenCan 81 = .ok (.iconst 0, 1) := by decide +kernel
theorem dX11_whenCan_82 : decode cX11_whenCan 82 = .ok (.iaload, 1) := by decide +kernel
theorem dX11_whenCan_83 : decode cX11_whenCan 83 = .ok (.istore_n 3, 1) := by decide +kernel
theorem dX11_whenCan_84 : decode cX11_whenCan 84 = .ok (.iinc 4 1, 3) := by decide +kernel
theorem dX11_whenCan_87 : decode cX11_whenCan 87 = .ok (.goto (-55), 3) := by decide +kernel
theorem dX11_whenCan_90 : decode cX11_whenCan 90 = .ok (.aload_n 0, 1) := by decide +kernel
theorem dX11_whenCan_91 : decode cX11_whenCan 91 = .ok (.invokevirtual 432, 3) := by decide +kernel
theorem dX11_whenCan_94 : decode cX11_whenCan 94 = .ok (.iload_n 3, 1) := by decide +kernel
theorem dX11_whenCan_95 : decode cX11_whenCan 95 = .ok (.ireturn, 1) := by decide +kernel
theorem dX11_inherit_0 : decode cX11_inherit 0 = .ok (.aload_n 0, 1) := by decide +kernel
theorem dX11_inherit_1 : decode cX11_inherit 1 = .ok (.iconst 0, 1) := by decide +kernel
theorem dX11_inherit_2 : decode cX11_inherit 2 = .ok (.putfield 107, 3) := by decide +kernel
theorem dX11_inherit_5 : decode cX11_inherit 5 = .ok (.aload_n 0, 1) := by decide +kernel
theorem dX11_inherit_6 : decode cX11_inherit 6 = .ok (.iload_n 1, 1) := by decide +kernel
theorem dX11_inherit_7 : decode cX11_inherit 7 = .ok (.invokevirtual 151, 3) := by decide +kernel
theorem dX11_inherit_10 : decode cX11_inherit 10 = .ok (.ifCond .eq 30, 3) := by decide +kernel
theorem dX11_inherit_13 : decode cX11_inherit 13 = .ok (.aload_n 0, 1) := by decide +kernel
theorem dX11_inherit_14 : decode cX11_inherit 14 = .ok (.iload_n 2, 1) := by decide +kernel
theorem dX11_inherit_15 : decode cX11_inherit 15 = .ok (.invokevirtual 163, 3) := by decide +kernel
theorem dX11_inherit_18 : decode cX11_inherit 18 = .ok (.ifCond .eq 22, 3) := by decide +kernel
theorem dX11_inherit_21 : decode cX11_inherit 21 = .ok (.aload_n 0, 1) := by decide +kernel
theorem dX11_inherit_22 : decode cX11_inherit 22 = .ok (.iload_n 2, 1) := by decide +kernel
theorem dX11_inherit_23 : decode cX11_inherit 23 = .ok (.invokevirtual 160, 3) := by decide +kernel
theorem dX11_inherit_26 : decode cX11_inherit 26 = .ok (.iload_n 1, 1) := by decide +kernel
theorem dX11_inherit_27 : decode cX11_inherit 27 = .ok (.if_icmp .ne 13, 3) := by decide +kernel
theorem dX11_inherit_30 : decode cX11_inherit 30 = .ok (.aload_n 0, 1) := by decide +kernel
theorem dX11_inherit_31 : decode cX11_inherit 31 = .ok (.iload_n 3, 1) := by decide +kernel
theorem dX11_inherit_32 : decode cX11_inherit 32 = .ok (.iconst 0, 1) := by decide +kernel
theorem dX11_inherit_33 : decode cX11_inherit 33 = .ok (.iconst 1, 1) := by decide +kernel
theorem dX11_inherit_34 : decode cX11_inherit 34 = .ok (.invokevirtual 147, 3) := by decide +kernel
theorem dX11_inherit_37 : decode cX11_inherit 37 = .ok (.ifCond .ne 6, 3) := by decide +kernel
theorem dX11_inherit_40 : decode cX11_inherit 40 = .ok (.bipush (-2), 2) := by decide +kernel
theorem dX11_inherit_42 : decode cX11_inherit 42 = .ok (.ireturn, 1) := by decide +kernel
theorem dX11_inherit_43 : decode cX11_inherit 43 = .ok (.aload_n 0, 1) := by decide +kernel
theorem dX11_inherit_44 : decode cX11_inherit 44 = .ok (.invokevirtual 429, 3) := by decide +kernel
theorem dX11_inherit_47 : decode cX11_inherit 47 = .ok (.aload_n 0, 1) := by decide +kernel
theorem dX11_inherit_48 : decode cX11_inherit 48 = .ok (.iload_n 2, 1) := by decide +kernel
theorem dX11_inherit_49 : decode cX11_inherit 49 = .ok (.putfield 98, 3) := by decide +kernel
theorem dX11_inherit_52 : decode cX11_inherit 52 = .ok (.aload_n 0, 1) := by decide +kernel
theorem dX11_inherit_53 : decode cX11_inherit 53 = .ok (.iconst 0, 1) := by decide +kernel
theorem dX11_inherit_54 : decode cX11_inherit 54 = .ok (.putfield 345, 3) := by decide +kernel
theorem dX11_inherit_57 : decode cX11_inherit 57 = .ok (.aload_n 0, 1) := by decide +kernel
theorem dX11_inherit_58 : decode cX11_inherit 58 = .ok (.iload_n 1, 1) := by decide +kernel
theorem dX11_inherit_59 : decode cX11_inherit 59 = .ok (.invokevirtual 387, 3) := by decide +kernel
theorem dX11_inherit_62 : decode cX11_inherit 62 = .ok (.aload_n 0, 1) := by decide +kernel
theorem dX11_inherit_63 : decode cX11_inherit 63 = .ok (.iconst (-1), 1) := by decide +kernel
theorem dX11_inherit_64 : decode cX11_inherit 64 = .ok (.putfield 98, 3) := by decide +kernel
theorem dX11_inherit_67 : decode cX11_inherit 67 = .ok (.aload_n 0, 1) := by decide +kernel
theorem dX11_inherit_68 : decode cX11_inherit 68 = .ok (.iload_n 2, 1) := by decide +kernel
theorem dX11_inherit_69 : decode cX11_inherit 69 = .ok (.invokevirtual 160, 3) := by decide +kernel
theorem dX11_inherit_72 : decode cX11_inherit 72 = .ok (.istore 4, 2) := by decide +kernel
theorem dX11_inherit_74 : decode cX11_inherit 74 = .ok (.aload_n 0, 1) := by decide +kernel
theorem dX11_inherit_75 : decode cX11_inherit 75 = .ok (.invokevirtual 432, 3) := by decide +kernel
theorem dX11_inherit_78 : decode cX11_inherit 78 = .ok (.iload_n 3, 1) := by decide +kernel
theorem dX11_inherit_79 : decode cX11_inherit 79 = .ok (.ifCond .ne 8, 3) := by decide +kernel
theorem dX11_inherit_82 : decode cX11_inherit 82 = .ok (.iload 4, 2) := by decide +kernel
theorem dX11_inherit_84 : decode cX11_inherit 84 = .ok (.goto 15, 3) := by decide +kernel
theorem dX11_inherit_87 : decode cX11_inherit 87 = .ok (.aload_n 0, 1) := by decide +kernel
theorem dX11_inherit_88 : decode cX11_inherit 88 = .ok (.getfield 345, 3) := by decide +kernel
theorem dX11_inherit_91 : decode cX11_inherit 91 = .ok (.ifCond .eq 7, 3) := by decide +kernel
theorem dX11_inherit_94 : decode cX11_inherit 94 = .ok (.iconst 1, 1) := by decide +kernel
theorem dX11_inherit_95 : decode cX11_inherit 95 = .ok (.goto 4, 3) := by decide +kernel
theorem dX11_inherit_98 : decode cX11_inherit 98 = .ok (.iconst 0, 1) := by decide +kernel
theorem dX11_inherit_99 : decode cX11_inherit 99 = .ok (.ireturn, 1) := by decide +kernel
theorem dX11_worth_0 : decode cX11_worth 0 = .ok (.aload_n 0, 1) := by decide +kernel
theorem dX11_worth_1 : decode cX11_worth 1 = .ok (.iconst 0, 1) := by decide +kernel
theorem dX11_worth_2 : decode cX11_worth 2 = .ok (.putfield 107, 3) := by decide +kernel
theorem dX11_worth_5 : decode cX11_worth 5 = .ok (.aload_n 0, 1) := by decide +kernel
theorem dX11_worth_6 : decode cX11_worth 6 = .ok (.iload_n 1, 1) := by decide +kernel
theorem dX11_worth_7 : decode cX11_worth 7 = .ok (.invokevirtual 151, 3) := by decide +kernel
theorem dX11_worth_10 : decode cX11_worth 10 = .ok (.ifCond .eq 24, 3) := by decide +kernel
theorem dX11_worth_13 : decode cX11_worth 13 = .ok (.aload_n 0, 1) := by decide +kernel
theorem dX11_worth_14 : decode cX11_worth 14 = .ok (.iload_n 2, 1) := by decide +kernel
theorem dX11_worth_15 : decode cX11_worth 15 = .ok (.invokevirtual 151, 3) := by decide +kernel
theorem dX11_worth_18 : decode cX11_worth 18 = .ok (.ifCond .eq 16, 3) := by decide +kernel
theorem dX11_worth_21 : decode cX11_worth 21 = .ok (.iload_n 1, 1) := by decide +kernel
theorem dX11_worth_22 : decode cX11_worth 22 = .ok (.iload_n 2, 1) := by decide +kernel
theorem dX11_worth_23 : decode cX11_worth 23 = .ok (.if_icmp .eq 11, 3) := by decide +kernel
theorem dX11_worth_26 : decode cX11_worth 26 = .ok (.aload_n 0, 1) := by decide +kernel
theorem dX11_worth_27 : decode cX11_worth 27 = .ok (.iload_n 3, 1) := by decide +kernel
theorem dX11_worth_28 : decode cX11_worth 28 = .ok (.invokevirtual 163, 3) := by decide +kernel
theorem dX11_worth_31 : decode cX11_worth 31 = .ok (.ifCond .ne 5, 3) := by decide +kernel
theorem dX11_worth_34 : decode cX11_worth 34 = .ok (.iconst 0, 1) := by decide +kernel
theorem dX11_worth_35 : decode cX11_worth 35 = .ok (.ireturn, 1) := by decide +kernel
theorem dX11_worth_36 : decode cX11_worth 36 = .ok (.aload_n 0, 1) := by decide +kernel
theorem dX11_worth_37 : decode cX11_worth 37 = .ok (.iload_n 1, 1) := by decide +kernel
theorem dX11_worth_38 : decode cX11_worth 38 = .ok (.iload_n 2, 1) := by decide +kernel
theorem dX11_worth_39 : decode cX11_worth 39 = .ok (.iload_n 3, 1) := by decide +kernel
theorem dX11_worth_40 : decode cX11_worth 40 = .ok (.invokevirtual 339, 3) := by decide +kernel
theorem dX11_worth_43 : decode cX11_worth 43 = .ok (.ireturn, 1) := by decide +kernel
theorem dX11_spokenDeeds_0 : decode cX11_spokenDeeds 0 = .ok (.aload_n 0, 1) := by decide +kernel
theorem dX11_spokenDeeds_1 : decode cX11_spokenDeeds 1 = .ok (.invokevirtual 375, 3) := by decide +kernel
theorem dX11_spokenDeeds_4 : decode cX11_spokenDeeds 4 = .ok (.iconst 0, 1) := by decide +kernel
theorem dX11_spokenDeeds_5 : decode cX11_spokenDeeds 5 = .ok (.istore_n 1, 1) := by decide +kernel
theorem dX11_spokenDeeds_6 : decode cX11_spokenDeeds 6 = .ok (.iconst 0, 1) := by decide +kernel
theorem dX11_spokenDeeds_7 : decode cX11_spokenDeeds 7 = .ok (.istore_n 2, 1) := by decide +kernel
theorem dX11_spokenDeeds_8 : decode cX11_spokenDeeds 8 = .ok (.iload_n 2, 1) := by decide +kernel
theorem dX11_spokenDeeds_9 : decode cX11_spokenDeeds 9 = .ok (.aload_n 0, 1) := by decide +kernel
theorem dX11_spokenDeeds_10 : decode cX11_spokenDeeds 10 = .ok (.getfield 125, 3) := by decide +kernel
theorem dX11_spokenDeeds_13 : decode cX11_spokenDeeds 13 = .ok (.if_icmp .ge 28, 3) := by decide +kernel
theorem dX11_spokenDeeds_16 : decode cX11_spokenDeeds 16 = .ok (.aload_n 0, 1) := by decide +kernel
theorem dX11_spokenDeeds_17 : decode cX11_spokenDeeds 17 = .ok (.aload_n 0, 1) := by decide +kernel
theorem dX11_spokenDeeds_18 : decode cX11_spokenDeeds 18 = .ok (.getfield 83, 3) := by decide +kernel
theorem dX11_spokenDeeds_21 : decode cX11_spokenDeeds 21 = .ok (.iload_n 2, 1) := by decide +kernel
theorem dX11_spokenDeeds_22 : decode cX11_spokenDeeds 22 = .ok (.iaload, 1) := by decide +kernel
theorem dX11_spokenDeeds_23 : decode cX11_spokenDeeds 23 = .ok (.invokevirtual 405, 3) := by decide +kernel
theorem dX11_spokenDeeds_26 : decode cX11_spokenDeeds 26 = .ok (.ifCond .eq 9, 3) := by decide +kernel
theorem dX11_spokenDeeds_29 : decode cX11_spokenDeeds 29 = .ok (.iload_n 1, 1) := by decide +kernel
theorem dX11_spokenDeeds_30 : decode cX11_spokenDeeds 30 = .ok (.iconst 1, 1) := by decide +kernel
theorem dX11_spokenDeeds_31 : decode cX11_spokenDeeds 31 = .ok (.iload_n 2, 1) := by decide +kernel
theorem dX11_spokenDeeds_32 : decode cX11_spokenDeeds 32 = .ok (.ishl, 1) := by decide +kernel
theorem dX11_spokenDeeds_33 : decode cX11_spokenDeeds 33 = .ok (.ior, 1) := by decide +kernel
theorem dX11_spokenDeeds_34 : decode cX11_spokenDeeds 34 = .ok (.istore_n 1, 1) := by decide +kernel
theorem dX11_spokenDeeds_35 : decode cX11_spokenDeeds 35 = .ok (.iinc 2 1, 3) := by decide +kernel
theorem dX11_spokenDeeds_38 : decode cX11_spokenDeeds 38 = .ok (.goto (-30), 3) := by decide +kernel
theorem dX11_spokenDeeds_41 : decode cX11_spokenDeeds 41 = .ok (.iload_n 1, 1) := by decide +kernel
theorem dX11_spokenDeeds_42 : decode cX11_spokenDeeds 42 = .ok (.ireturn, 1) := by decide +kernel
theorem dX11_silent_0 : decode cX11_silent 0 = .ok (.aload_n 0, 1) := by decide +kernel
theorem dX11_silent_1 : decode cX11_silent 1 = .ok (.iconst 0, 1) := by decide +kernel
theorem dX11_silent_2 : decode cX11_silent 2 = .ok (.putfield 107, 3) := by decide +kernel
theorem dX11_silent_5 : decode cX11_silent 5 = .ok (.aload_n 0, 1) := by decide +kernel
theorem dX11_silent_6 : decode cX11_silent 6 = .ok (.iload_n 1, 1) := by decide +kernel
theorem dX11_silent_7 : decode cX11_silent 7 = .ok (.invokevirtual 151, 3) := by decide +kernel
theorem dX11_silent_10 : decode cX11_silent 10 = .ok (.ifCond .ne 5, 3) := by decide +kernel
theorem dX11_silent_13 : decode cX11_silent 13 = .ok (.iconst (-1), 1) := by decide +kernel
theorem dX11_silent_14 : decode cX11_silent 14 = .ok (.ireturn, 1) := by decide +kernel
theorem dX11_silent_15 : decode cX11_silent 15 = .ok (.aload_n 0, 1) := by decide +kernel
theorem dX11_silent_16 : decode cX11_silent 16 = .ok (.invokevirtual 435, 3) := by decide +kernel
theorem dX11_silent_19 : decode cX11_silent 19 = .ok (.istore_n 2, 1) := by decide +kernel
theorem dX11_silent_20 : decode cX11_silent 20 = .ok (.aload_n 0, 1) := by decide +kernel
theorem dX11_silent_21 : decode cX11_silent 21 = .ok (.invokevirtual 429, 3) := by decide +kernel
theorem dX11_silent_24 : decode cX11_silent 24 = .ok (.aload_n 0, 1) := by decide +kernel
theorem dX11_silent_25 : decode cX11_silent 25 = .ok (.iload_n 1, 1) := by decide +kernel
theorem dX11_silent_26 : decode cX11_silent 26 = .ok (.invokevirtual 387, 3) := by decide +kernel
theorem dX11_silent_29 : decode cX11_silent 29 = .ok (.aload_n 0, 1) := by decide +kernel
theorem dX11_silent_30 : decode cX11_silent 30 = .ok (.invokevirtual 435, 3) := by decide +kernel
theorem dX11_silent_33 : decode cX11_silent 33 = .ok (.istore_n 3, 1) := by decide +kernel
theorem dX11_silent_34 : decode cX11_silent 34 = .ok (.aload_n 0, 1) := by decide +kernel
theorem dX11_silent_35 : decode cX11_silent 35 = .ok (.invokevirtual 432, 3) := by decide +kernel
theorem dX11_silent_38 : decode cX11_silent 38 = .ok (.iload_n 2, 1) := by decide +kernel
theorem dX11_silent_39 : decode cX11_silent 39 = .ok (.iload_n 3, 1) := by decide +kernel
theorem dX11_silent_40 : decode cX11_silent 40 = .ok (.iconst (-1), 1) := by decide +kernel
theorem dX11_silent_41 : decode cX11_silent 41 = .ok (.ixor, 1) := by decide +kernel
theorem dX11_silent_42 : decode cX11_silent 42 = .ok (.iand, 1) := by decide +kernel
theorem dX11_silent_43 : decode cX11_silent 43 = .ok (.ireturn, 1) := by decide +kernel
theorem dX11_trace_0 : decode cX11_trace 0 = .ok (.aload_n 0, 1) := by decide +kernel
theorem dX11_trace_1 : decode cX11_trace 1 = .ok (.iconst 0, 1) := by decide +kernel
theorem dX11_trace_2 : decode cX11_trace 2 = .ok (.putfield 107, 3) := by decide +kernel
theorem dX11_trace_5 : decode cX11_trace 5 = .ok (.aload_n 0, 1) := by decide +kernel
theorem dX11_trace_6 : decode cX11_trace 6 = .ok (.iload_n 1, 1) := by decide +kernel
theorem dX11_trace_7 : decode cX11_trace 7 = .ok (.invokevirtual 163, 3) := by decide +kernel
theorem dX11_trace_10 : decode cX11_trace 10 = .ok (.ifCond .eq 7, 3) := by decide +kernel
theorem dX11_trace_13 : decode cX11_trace 13 = .ok (.iload_n 2, 1) := by decide +kernel
theorem dX11_trace_14 : decode cX11_trace 14 = .ok (.ifCond .ge 5, 3) := by decide +kernel
theorem dX11_trace_17 : decode cX11_trace 17 = .ok (.iconst (-1), 1) := by decide +kernel
theorem dX11_trace_18 : decode cX11_trace 18 = .ok (.ireturn, 1) := by decide +kernel
theorem dX11_trace_19 : decode cX11_trace 19 = .ok (.iconst 0, 1) := by decide +kernel
theorem dX11_trace_20 : decode cX11_trace 20 = .ok (.istore_n 3, 1) := by decide +kernel
theorem dX11_trace_21 : decode cX11_trace 21 = .ok (.iconst 0, 1) := by decide +kernel
theorem dX11_trace_22 : decode cX11_trace 22 = .ok (.istore 4, 2) := by decide +kernel
theorem dX11_trace_24 : decode cX11_trace 24 = .ok (.iload 4, 2) := by decide +kernel
theorem dX11_trace_26 : decode cX11_trace 26 = .ok (.aload_n 0, 1) := by decide +kernel
theorem dX11_trace_27 : decode cX11_trace 27 = .ok (.getfield 7, 3) := by decide +kernel
theorem dX11_trace_30 : decode cX11_trace 30 = .ok (.iconst 2, 1) := by decide +kernel
theorem dX11_trace_31 : decode cX11_trace 31 = .ok (.iaload, 1) := by decide +kernel
theorem dX11_trace_32 : decode cX11_trace 32 = .ok (.if_icmp .ge 37, 3) := by decide +kernel
theorem dX11_trace_35 : decode cX11_trace 35 = .ok (.aload_n 0, 1) := by decide +kernel
theorem dX11_trace_36 : decode cX11_trace 36 = .ok (.getfield 34, 3) := by decide +kernel
theorem dX11_trace_39 : decode cX11_trace 39 = .ok (.iconst 5, 1) := by decide +kernel
theorem dX11_trace_40 : decode cX11_trace 40 = .ok (.iload 4, 2) := by decide +kernel
theorem dX11_trace_42 : decode cX11_trace 42 = .ok (.imul, 1) := by decide +kernel
theorem dX11_trace_43 : decode cX11_trace 43 = .ok (.iaload, 1) := by decide +kernel
theorem dX11_trace_44 : decode cX11_trace 44 = .ok (.iload_n 1, 1) := by decide +kernel
theorem dX11_trace_45 : decode cX11_trace 45 = .ok (.if_icmp .eq 6, 3) := by decide +kernel
theorem dX11_trace_48 : decode cX11_trace 48 = .ok (.goto 15, 3) := by decide +kernel
theorem dX11_trace_51 : decode cX11_trace 51 = .ok (.iload_n 3, 1) := by decide +kernel
theorem dX11_trace_52 : decode cX11_trace 52 = .ok (.iload_n 2, 1) := by decide +kernel
theorem dX11_trace_53 : decode cX11_trace 53 = .ok (.if_icmp .ne 6, 3) := by decide +kernel
theorem dX11_trace_56 : decode cX11_trace 56 = .ok (.iload 4, 2) := by decide +kernel
theorem dX11_trace_58 : decode cX11_trace 58 = .ok (.ireturn, 1) := by decide +kernel
theorem dX11_trace_59 : decode cX11_trace 59 = .ok (.iload_n 3, 1) := by decide +kernel
theorem dX11_trace_60 : decode cX11_trace 60 = .ok (.iconst 1, 1) := by decide +kernel
theorem dX11_trace_61 : decode cX11_trace 61 = .ok (.iadd, 1) := by decide +kernel
theorem dX11_trace_62 : decode cX11_trace 62 = .ok (.istore_n 3, 1) := by decide +kernel
theorem dX11_trace_63 : decode cX11_trace 63 = .ok (.iinc 4 1, 3) := by decide +kernel
theorem dX11_trace_66 : decode cX11_trace 66 = .ok (.goto (-42), 3) := by decide +kernel
theorem dX11_trace_69 : decode cX11_trace 69 = .ok (.iconst (-1), 1) := by decide +kernel
theorem dX11_trace_70 : decode cX11_trace 70 = .ok (.ireturn, 1) := by decide +kernel
theorem dX11_deedsBy_0 : decode cX11_deedsBy 0 = .ok (.aload_n 0, 1) := by decide +kernel
theorem dX11_deedsBy_1 : decode cX11_deedsBy 1 = .ok (.invokevirtual 429, 3) := by decide +kernel
theorem dX11_deedsBy_4 : decode cX11_deedsBy 4 = .ok (.iconst 0, 1) := by decide +kernel
theorem dX11_deedsBy_5 : decode cX11_deedsBy 5 = .ok (.istore_n 3, 1) := by decide +kernel
theorem dX11_deedsBy_6 : decode cX11_deedsBy 6 = .ok (.iload_n 3, 1) := by decide +kernel
theorem dX11_deedsBy_7 : decode cX11_deedsBy 7 = .ok (.bipush 28, 2) := by decide +kernel
theorem dX11_deedsBy_9 : decode cX11_deedsBy 9 = .ok (.if_icmp .ge 29, 3) := by decide +kernel
theorem dX11_deedsBy_12 : decode cX11_deedsBy 12 = .ok (.aload_n 0, 1) := by decide +kernel
theorem dX11_deedsBy_13 : decode cX11_deedsBy 13 = .ok (.iload_n 3, 1) := by decide +kernel
theorem dX11_deedsBy_14 : decode cX11_deedsBy 14 = .ok (.invokevirtual 160, 3) := by decide +kernel
theorem dX11_deedsBy_17 : decode cX11_deedsBy 17 = .ok (.iload_n 1, 1) := by decide +kernel
theorem dX11_deedsBy_18 : decode cX11_deedsBy 18 = .ok (.if_icmp .ne 14, 3) := by decide +kernel
theorem dX11_deedsBy_21 : decode cX11_deedsBy 21 = .ok (.aload_n 0, 1) := by decide +kernel
theorem dX11_deedsBy_22 : decode cX11_deedsBy 22 = .ok (.getfield 7, 3) := by decide +kernel
theorem dX11_deedsBy_25 : decode cX11_deedsBy 25 = .ok (.iconst 4, 1) := by decide +kernel
theorem dX11_deedsBy_26 : decode cX11_deedsBy 26 = .ok (.iload_n 3, 1) := by decide +kernel
theorem dX11_deedsBy_27 : decode cX11_deedsBy 27 = .ok (.iadd, 1) := by decide +kernel
theorem dX11_deedsBy_28 : decode cX11_deedsBy 28 = .ok (.iload_n 2, 1) := by decide +kernel
theorem dX11_deedsBy_29 : decode cX11_deedsBy 29 = .ok (.iconst 1, 1) := by decide +kernel
theorem dX11_deedsBy_30 : decode cX11_deedsBy 30 = .ok (.iadd, 1) := by decide +kernel
theorem dX11_deedsBy_31 : decode cX11_deedsBy 31 = .ok (.iastore, 1) := by decide +kernel
theorem dX11_deedsBy_32 : decode cX11_deedsBy 32 = .ok (.iinc 3 1, 3) := by decide +kernel
theorem dX11_deedsBy_35 : decode cX11_deedsBy 35 = .ok (.goto (-29), 3) := by decide +kernel
theorem dX11_deedsBy_38 : decode cX11_deedsBy 38 = .ok (.aload_n 0, 1) := by decide +kernel
theorem dX11_deedsBy_39 : decode cX11_deedsBy 39 = .ok (.aload_n 0, 1) := by decide +kernel
theorem dX11_deedsBy_40 : decode cX11_deedsBy 40 = .ok (.invokevirtual 435, 3) := by decide +kernel
theorem dX11_deedsBy_43 : decode cX11_deedsBy 43 = .ok (.invokevirtual 333, 3) := by decide +kernel
theorem dX11_deedsBy_46 : decode cX11_deedsBy 46 = .ok (.istore_n 3, 1) := by decide +kernel
theorem dX11_deedsBy_47 : decode cX11_deedsBy 47 = .ok (.aload_n 0, 1) := by decide +kernel
theorem dX11_deedsBy_48 : decode cX11_deedsBy 48 = .ok (.invokevirtual 432, 3) := by decide +kernel
theorem dX11_deedsBy_51 : decode cX11_deedsBy 51 = .ok (.iload_n 3, 1) := by decide +kernel
theorem dX11_deedsBy_52 : decode cX11_deedsBy 52 = .ok (.ireturn, 1) := by decide +kernel
theorem dX11_best_0 : decode cX11_best 0 = .ok (.aload_n 0, 1) := by decide +kernel
theorem dX11_best_1 : decode cX11_best 1 = .ok (.iconst 0, 1) := by decide +kernel
theorem dX11_best_2 : decode cX11_best 2 = .ok (.putfield 107, 3) := by decide +kernel
theorem dX11_best_5 : decode cX11_best 5 = .ok (.aload_n 0, 1) := by decide +kernel
theorem dX11_best_6 : decode cX11_best 6 = .ok (.iload_n 1, 1) := by decide +kernel
theorem dX11_best_7 : decode cX11_best 7 = .ok (.invokevirtual 151, 3) := by decide +kernel
theorem dX11_best_10 : decode cX11_best 10 = .ok (.ifCond .eq 13, 3) := by decide +kernel
theorem dX11_best_13 : decode cX11_best 13 = .ok (.aload_n 0, 1) := by decide +kernel
theorem dX11_best_14 : decode cX11_best 14 = .ok (.iload_n 2, 1) := by decide +kernel
theorem dX11_best_15 : decode cX11_best 15 = .ok (.iconst 0, 1) := by decide +kernel
theorem dX11_best_16 : decode cX11_best 16 = .ok (.iconst 1, 1) := by decide +kernel
theorem dX11_best_17 : decode cX11_best 17 = .ok (.invokevirtual 147, 3) := by decide +kernel
theorem dX11_best_20 : decode cX11_best 20 = .ok (.ifCond .ne 5, 3) := by decide +kernel
theorem dX11_best_23 : decode cX11_best 23 = .ok (.iconst (-1), 1) := by decide +kernel
theorem dX11_best_24 : decode cX11_best 24 = .ok (.ireturn, 1) := by decide +kernel
theorem dX11_best_25 : decode cX11_best 25 = .ok (.iconst (-1), 1) := by decide +kernel
theorem dX11_best_26 : decode cX11_best 26 = .ok (.istore_n 3, 1) := by decide +kernel
theorem dX11_best_27 : decode cX11_best 27 = .ok (.iconst (-1), 1) := by decide +kernel
theorem dX11_best_28 : decode cX11_best 28 = .ok (.istore 4, 2) := by decide +kernel
theorem dX11_best_30 : decode cX11_best 30 = .ok (.iconst 0, 1) := by decide +kernel
theorem dX11_best_31 : decode cX11_best 31 = .ok (.istore 5, 2) := by decide +kernel
theorem dX11_best_33 : decode cX11_best 33 = .ok (.iload 5, 2) := by decide +kernel
theorem dX11_best_35 : decode cX11_best 35 = .ok (.aload_n 0, 1) := by decide +kernel
theorem dX11_best_36 : decode cX11_best 36 = .ok (.getfield 122, 3) := by decide +kernel
theorem dX11_best_39 : decode cX11_best 39 = .ok (.if_icmp .ge 66, 3) := by decide +kernel
theorem dX11_best_42 : decode cX11_best 42 = .ok (.iload 5, 2) := by decide +kernel
theorem dX11_best_44 : decode cX11_best 44 = .ok (.iload_n 1, 1) := by decide +kernel
theorem dX11_best_45 : decode cX11_best 45 = .ok (.if_icmp .eq 54, 3) := by decide +kernel
theorem dX11_best_48 : decode cX11_best 48 = .ok (.aload_n 0, 1) := by decide +kernel
theorem dX11_best_49 : decode cX11_best 49 = .ok (.iload 5, 2) := by decide +kernel
theorem dX11_best_51 : decode cX11_best 51 = .ok (.invokevirtual 132, 3) := by decide +kernel
theorem dX11_best_54 : decode cX11_best 54 = .ok (.ifCond .ne 6, 3) := by decide +kernel
theorem dX11_best_57 : decode cX11_best 57 = .ok (.goto 42, 3) := by decide +kernel
theorem dX11_best_60 : decode cX11_best 60 = .ok (.aload_n 0, 1) := by decide +kernel
theorem dX11_best_61 : decode cX11_best 61 = .ok (.iload_n 1, 1) := by decide +kernel
theorem dX11_best_62 : decode cX11_best 62 = .ok (.iload 5, 2) := by decide +kernel
theorem dX11_best_64 : decode cX11_best 64 = .ok (.invokevirtual 438, 3) := by decide +kernel
theorem dX11_best_67 : decode cX11_best 67 = .ok (.istore 6, 2) := by decide +kernel
theorem dX11_best_69 : decode cX11_best 69 = .ok (.iload 6, 2) := by decide +kernel
theorem dX11_best_71 : decode cX11_best 71 = .ok (.iload 4, 2) := by decide +kernel
theorem dX11_best_73 : decode cX11_best 73 = .ok (.if_icmp .le 8, 3) := by decide +kernel
theorem dX11_best_76 : decode cX11_best 76 = .ok (.iload 5, 2) := by decide +kernel
theorem dX11_best_78 : decode cX11_best 78 = .ok (.goto 4, 3) := by decide +kernel
theorem dX11_best_81 : decode cX11_best 81 = .ok (.iload_n 3, 1) := by decide +kernel
theorem dX11_best_82 : decode cX11_best 82 = .ok (.istore_n 3, 1) := by decide +kernel
theorem dX11_best_83 : decode cX11_best 83 = .ok (.iload 6, 2) := by decide +kernel
theorem dX11_best_85 : decode cX11_best 85 = .ok (.iload 4, 2) := by decide +kernel
theorem dX11_best_87 : decode cX11_best 87 = .ok (.if_icmp .le 8, 3) := by decide +kernel
theorem dX11_best_90 : decode cX11_best 90 = .ok (.iload 6, 2) := by decide +kernel
theorem dX11_best_92 : decode cX11_best 92 = .ok (.goto 5, 3) := by decide +kernel
theorem dX11_best_95 : decode cX11_best 95 = .ok (.iload 4, 2) := by decide +kernel
theorem dX11_best_97 : decode cX11_best 97 = .ok (.istore 4, 2) := by decide +kernel
theorem dX11_best_99 : decode cX11_best 99 = .ok (.iinc 5 1, 3) := by decide +kernel
theorem dX11_best_102 : decode cX11_best 102 = .ok (.goto (-69), 3) := by decide +kernel
theorem dX11_best_105 : decode cX11_best 105 = .ok (.iload_n 2, 1) := by decide +kernel
theorem dX11_best_106 : decode cX11_best 106 = .ok (.ifCond .ne 7, 3) := by decide +kernel
theorem dX11_best_109 : decode cX11_best 109 = .ok (.iload_n 3, 1) := by decide +kernel
theorem dX11_best_110 : decode cX11_best 110 = .ok (.goto 5, 3) := by decide +kernel
theorem dX11_best_113 : decode cX11_best 113 = .ok (.iload 4, 2) := by decide +kernel
theorem dX11_best_115 : decode cX11_best 115 = .ok (.ireturn, 1) := by decide +kernel
theorem dX11_kept_0 : decode cX11_kept 0 = .ok (.aload_n 0, 1) := by decide +kernel
theorem dX11_kept_1 : decode cX11_kept 1 = .ok (.aload_n 0, 1) := by decide +kernel
theorem dX11_kept_2 : decode cX11_kept 2 = .ok (.getfield 441, 3) := by decide +kernel
theorem dX11_kept_5 : decode cX11_kept 5 = .ok (.iconst 1, 1) := by decide +kernel
theorem dX11_kept_6 : decode cX11_kept 6 = .ok (.iadd, 1) := by decide +kernel
theorem dX11_kept_7 : decode cX11_kept 7 = .ok (.putfield 441, 3) := by decide +kernel
theorem dX11_kept_10 : decode cX11_kept 10 = .ok (.aload_n 0, 1) := by decide +kernel
theorem dX11_kept_11 : decode cX11_kept 11 = .ok (.getfield 444, 3) := by decide +kernel
theorem dX11_kept_14 : decode cX11_kept 14 = .ok (.ifCond .ne 15, 3) := by decide +kernel
theorem dX11_kept_17 : decode cX11_kept 17 = .ok (.aload_n 0, 1) := by decide +kernel
theorem dX11_kept_18 : decode cX11_kept 18 = .ok (.getfield 104, 3) := by decide +kernel
theorem dX11_kept_21 : decode cX11_kept 21 = .ok (.aload_n 0, 1) := by decide +kernel
theorem dX11_kept_22 : decode cX11_kept 22 = .ok (.getfield 441, 3) := by decide +kernel
theorem dX11_kept_25 : decode cX11_kept 25 = .ok (.iconst 1, 1) := by decide +kernel
theorem dX11_kept_26 : decode cX11_kept 26 = .ok (.isub, 1) := by decide +kernel
theorem dX11_kept_27 : decode cX11_kept 27 = .ok (.iaload, 1) := by decide +kernel
theorem dX11_kept_28 : decode cX11_kept 28 = .ok (.ireturn, 1) := by decide +kernel
theorem dX11_kept_29 : decode cX11_kept 29 = .ok (.aload_n 0, 1) := by decide +kernel
theorem dX11_kept_30 : decode cX11_kept 30 = .ok (.getfield 104, 3) := by decide +kernel
theorem dX11_kept_33 : decode cX11_kept 33 = .ok (.aload_n 0, 1) := by decide +kernel
theorem dX11_kept_34 : decode cX11_kept 34 = .ok (.getfield 441, 3) := by decide +kernel
theorem dX11_kept_37 : decode cX11_kept 37 = .ok (.iconst 1, 1) := by decide +kernel
theorem dX11_kept_38 : decode cX11_kept 38 = .ok (.isub, 1) := by decide +kernel
theorem dX11_kept_39 : decode cX11_kept 39 = .ok (.iload_n 1, 1) := by decide +kernel
theorem dX11_kept_40 : decode cX11_kept 40 = .ok (.iastore, 1) := by decide +kernel
theorem dX11_kept_41 : decode cX11_kept 41 = .ok (.iload_n 1, 1) := by decide +kernel
theorem dX11_kept_42 : decode cX11_kept 42 = .ok (.ireturn, 1) := by decide +kernel
theorem dX11_keepsLaw_0 : decode cX11_keepsLaw 0 = .ok (.aload_n 0, 1) := by decide +kernel
theorem dX11_keepsLaw_1 : decode cX11_keepsLaw 1 = .ok (.aload_n 0, 1) := by decide +kernel
theorem dX11_keepsLaw_2 : decode cX11_keepsLaw 2 = .ok (.aload_n 0, 1) := by decide +kernel
theorem dX11_keepsLaw_3 : decode cX11_keepsLaw 3 = .ok (.getfield 260, 3) := by decide +kernel
theorem dX11_keepsLaw_6 : decode cX11_keepsLaw 6 = .ok (.invokevirtual 447, 3) := by decide +kernel
theorem dX11_keepsLaw_9 : decode cX11_keepsLaw 9 = .ok (.putfield 260, 3) := by decide +kernel
theorem dX11_keepsLaw_12 : decode cX11_keepsLaw 12 = .ok (.iconst 0, 1) := by decide +kernel
theorem dX11_keepsLaw_13 : decode cX11_keepsLaw 13 = .ok (.istore_n 1, 1) := by decide +kernel
theorem dX11_keepsLaw_14 : decode cX11_keepsLaw 14 = .ok (.iload_n 1, 1) := by decide +kernel
theorem dX11_keepsLaw_15 : decode cX11_keepsLaw 15 = .ok (.bipush 16, 2) := by decide +kernel
theorem dX11_keepsLaw_17 : decode cX11_keepsLaw 17 = .ok (.if_icmp .ge 57, 3) := by decide +kernel
theorem dX11_keepsLaw_20 : decode cX11_keepsLaw 20 = .ok (.aload_n 0, 1) := by decide +kernel
theorem dX11_keepsLaw_21 : decode cX11_keepsLaw 21 = .ok (.getfield 46, 3) := by decide +kernel
theorem dX11_keepsLaw_24 : decode cX11_keepsLaw 24 = .ok (.iload_n 1, 1) := by decide +kernel
theorem dX11_keepsLaw_25 : decode cX11_keepsLaw 25 = .ok (.aload_n 0, 1) := by decide +kernel
theorem dX11_keepsLaw_26 : decode cX11_keepsLaw 26 = .ok (.aload_n 0, 1) := by decide +kernel
theorem dX11_keepsLaw_27 : decode cX11_keepsLaw 27 = .ok (.getfield 46, 3) := by decide +kernel
theorem dX11_keepsLaw_30 : decode cX11_keepsLaw 30 = .ok (.iload_n 1, 1) := by decide +kernel
theorem dX11_keepsLaw_31 : decode cX11_keepsLaw 31 = .ok (.iaload, 1) := by decide +kernel
theorem dX11_keepsLaw_32 : decode cX11_keepsLaw 32 = .ok (.invokevirtual 447, 3) := by decide +kernel
theorem dX11_keepsLaw_35 : decode cX11_keepsLaw 35 = .ok (.iastore, 1) := by decide +kernel
theorem dX11_keepsLaw_36 : decode cX11_keepsLaw 36 = .ok (.aload_n 0, 1) := by decide +kernel
theorem dX11_keepsLaw_37 : decode cX11_keepsLaw 37 = .ok (.getfield 49, 3) := by decide +kernel
theorem dX11_keepsLaw_40 : decode cX11_keepsLaw 40 = .ok (.iload_n 1, 1) := by decide +kernel
theorem dX11_keepsLaw_41 : decode cX11_keepsLaw 41 = .ok (.aload_n 0, 1) := by decide +kernel
theorem dX11_keepsLaw_42 : decode cX11_keepsLaw 42 = .ok (.aload_n 0, 1) := by decide +kernel
theorem dX11_keepsLaw_43 : decode cX11_keepsLaw 43 = .ok (.getfield 49, 3) := by decide +kernel
theorem dX11_keepsLaw_46 : decode cX11_keepsLaw 46 = .ok (.iload_n 1, 1) := by decide +kernel
theorem dX11_keepsLaw_47 : decode cX11_keepsLaw 47 = .ok (.iaload, 1) := by decide +kernel
theorem dX11_keepsLaw_48 : decode cX11_keepsLaw 48 = .ok (.invokevirtual 447, 3) := by decide +kernel
theorem dX11_keepsLaw_51 : decode cX11_keepsLaw 51 = .ok (.iastore, 1) := by decide +kernel
theorem dX11_keepsLaw_52 : decode cX11_keepsLaw 52 = .ok (.aload_n 0, 1) := by decide +kernel
theorem dX11_keepsLaw_53 : decode cX11_keepsLaw 53 = .ok (.getfield 52, 3) := by decide +kernel
theorem dX11_keepsLaw_56 : decode cX11_keepsLaw 56 = .ok (.iload_n 1, 1) := by decide +kernel
theorem dX11_keepsLaw_57 : decode cX11_keepsLaw 57 = .ok (.aload_n 0, 1) := by decide +kernel
theorem dX11_keepsLaw_58 : decode cX11_keepsLaw 58 = .ok (.aload_n 0, 1) := by decide +kernel
theorem dX11_keepsLaw_59 : decode cX11_keepsLaw 59 = .ok (.getfield 52, 3) := by decide +kernel
theorem dX11_keepsLaw_62 : decode cX11_keepsLaw 62 = .ok (.iload_n 1, 1) := by decide +kernel
theorem dX11_keepsLaw_63 : decode cX11_keepsLaw 63 = .ok (.iaload, 1) := by decide +kernel
theorem dX11_keepsLaw_64 : decode cX11_keepsLaw 64 = .ok (.invokevirtual 447, 3) := by decide +kernel
theorem dX11_keepsLaw_67 : decode cX11_keepsLaw 67 = .ok (.iastore, 1) := by decide +kernel
theorem dX11_keepsLaw_68 : decode cX11_keepsLaw 68 = .ok (.iinc 1 1, 3) := by decide +kernel
theorem dX11_keepsLaw_71 : decode cX11_keepsLaw 71 = .ok (.goto (-57), 3) := by decide +kernel
theorem dX11_keepsLaw_74 : decode cX11_keepsLaw 74 = .ok (.iconst 0, 1) := by decide +kernel
theorem dX11_keepsLaw_75 : decode cX11_keepsLaw 75 = .ok (.istore_n 1, 1) := by decide +kernel
theorem dX11_keepsLaw_76 : decode cX11_keepsLaw 76 = .ok (.iload_n 1, 1) := by decide +kernel
theorem dX11_keepsLaw_77 : decode cX11_keepsLaw 77 = .ok (.sipush 400, 3) := by decide +kernel
theorem dX11_keepsLaw_80 : decode cX11_keepsLaw 80 = .ok (.if_icmp .ge 41, 3) := by decide +kernel
theorem dX11_keepsLaw_83 : decode cX11_keepsLaw 83 = .ok (.aload_n 0, 1) := by decide +kernel
theorem dX11_keepsLaw_84 : decode cX11_keepsLaw 84 = .ok (.getfield 55, 3) := by decide +kernel
theorem dX11_keepsLaw_87 : decode cX11_keepsLaw 87 = .ok (.iload_n 1, 1) := by decide +kernel
theorem dX11_keepsLaw_88 : decode cX11_keepsLaw 88 = .ok (.aload_n 0, 1) := by decide +kernel
theorem dX11_keepsLaw_89 : decode cX11_keepsLaw 89 = .ok (.aload_n 0, 1) := by decide +kernel
theorem dX11_keepsLaw_90 : decode cX11_keepsLaw 90 = .ok (.getfield 55, 3) := by decide +kernel
theorem dX11_keepsLaw_93 : decode cX11_keepsLaw 93 = .ok (.iload_n 1, 1) := by decide +kernel
theorem dX11_keepsLaw_94 : decode cX11_keepsLaw 94 = .ok (.iaload, 1) := by decide +kernel
theorem dX11_keepsLaw_95 : decode cX11_keepsLaw 95 = .ok (.invokevirtual 447, 3) := by decide +kernel
theorem dX11_keepsLaw_98 : decode cX11_keepsLaw 98 = .ok (.iastore, 1) := by decide +kernel
theorem dX11_keepsLaw_99 : decode cX11_keepsLaw 99 = .ok (.aload_n 0, 1) := by decide +kernel
theorem dX11_keepsLaw_100 : decode cX11_keepsLaw 100 = .ok (.getfield 58, 3) := by decide +kernel
theorem dX11_keepsLaw_103 : decode cX11_keepsLaw 103 = .ok (.iload_n 1, 1) := by decide +kernel
theorem dX11_keepsLaw_104 : decode cX11_keepsLaw 104 = .ok (.aload_n 0, 1) := by decide +kernel
theorem dX11_keepsLaw_105 : decode cX11_keepsLaw 105 = .ok (.aload_n 0, 1) := by decide +kernel
theorem dX11_keepsLaw_106 : decode cX11_keepsLaw 106 = .ok (.getfield 58, 3) := by decide +kernel
theorem dX11_keepsLaw_109 : decode cX11_keepsLaw 109 = .ok (.iload_n 1, 1) := by decide +kernel
theorem dX11_keepsLaw_110 : decode cX11_keepsLaw 110 = .ok (.iaload, 1) := by decide +kernel
theorem dX11_keepsLaw_111 : decode cX11_keepsLaw 111 = .ok (.invokevirtual 447, 3) := by decide +kernel
theorem dX11_keepsLaw_114 : decode cX11_keepsLaw 114 = .ok (.iastore, 1) := by decide +kernel
theorem dX11_keepsLaw_115 : decode cX11_keepsLaw 115 = .ok (.iinc 1 1, 3) := by decide +kernel
theorem dX11_keepsLaw_118 : decode cX11_keepsLaw 118 = .ok (.goto (-42), 3) := by decide +kernel
theorem dX11_keepsLaw_121 : decode cX11_keepsLaw 121 = .ok (.return_, 1) := by decide +kernel
theorem dX11_keepsPeople_0 : decode cX11_keepsPeople 0 = .ok (.aload_n 0, 1) := by decide +kernel
theorem dX11_keepsPeople_1 : decode cX11_keepsPeople 1 = .ok (.aload_n 0, 1) := by decide +kernel
theorem dX11_keepsPeople_2 : decode cX11_keepsPeople 2 = .ok (.aload_n 0, 1) := by decide +kernel
theorem dX11_keepsPeople_3 : decode cX11_keepsPeople 3 = .ok (.getfield 122, 3) := by decide +kernel
theorem dX11_keepsPeople_6 : decode cX11_keepsPeople 6 = .ok (.invokevirtual 447, 3) := by decide +kernel
theorem dX11_keepsPeople_9 : decode cX11_keepsPeople 9 = .ok (.putfield 122, 3) := by decide +kernel
theorem dX11_keepsPeople_12 : decode cX11_keepsPeople 12 = .ok (.aload_n 0, 1) := by decide +kernel
theorem dX11_keepsPeople_13 : decode cX11_keepsPeople 13 = .ok (.aload_n 0, 1) := by decide +kernel
theorem dX11_keepsPeople_14 : decode cX11_keepsPeople 14 = .ok (.aload_n 0, 1) := by decide +kernel
theorem dX11_keepsPeople_15 : decode cX11_keepsPeople 15 = .ok (.getfield 157, 3) := by decide +kernel
theorem dX11_keepsPeople_18 : decode cX11_keepsPeople 18 = .ok (.invokevirtual 447, 3) := by decide +kernel
theorem dX11_keepsPeople_21 : decode cX11_keepsPeople 21 = .ok (.putfield 157, 3) := by decide +kernel
theorem dX11_keepsPeople_24 : decode cX11_keepsPeople 24 = .ok (.iconst 0, 1) := by decide +kernel
theorem dX11_keepsPeople_25 : decode cX11_keepsPeople 25 = .ok (.istore_n 1, 1) := by decide +kernel
theorem dX11_keepsPeople_26 : decode cX11_keepsPeople 26 = .ok (.iload_n 1, 1) := by decide +kernel
theorem dX11_keepsPeople_27 : decode cX11_keepsPeople 27 = .ok (.bipush 12, 2) := by decide +kernel
theorem dX11_keepsPeople_29 : decode cX11_keepsPeople 29 = .ok (.if_icmp .ge 105, 3) := by decide +kernel
theorem dX11_keepsPeople_32 : decode cX11_keepsPeople 32 = .ok (.aload_n 0, 1) := by decide +kernel
theorem dX11_keepsPeople_33 : decode cX11_keepsPeople 33 = .ok (.getfield 19, 3) := by decide +kernel
theorem dX11_keepsPeople_36 : decode cX11_keepsPeople 36 = .ok (.iload_n 1, 1) := by decide +kernel
theorem dX11_keepsPeople_37 : decode cX11_keepsPeople 37 = .ok (.aload_n 0, 1) := by decide +kernel
theorem dX11_keepsPeople_38 : decode cX11_keepsPeople 38 = .ok (.aload_n 0, 1) := by decide +kernel
theorem dX11_keepsPeople_39 : decode cX11_keepsPeople 39 = .ok (.getfield 19, 3) := by decide +kernel
theorem dX11_keepsPeople_42 : decode cX11_keepsPeople 42 = .ok (.iload_n 1, 1) := by decide +kernel
theorem dX11_keepsPeople_43 : decode cX11_keepsPeople 43 = .ok (.iaload, 1) := by decide +kernel
theorem dX11_keepsPeople_44 : decode cX11_keepsPeople 44 = .ok (.invokevirtual 447, 3) := by decide +kernel
theorem dX11_keepsPeople_47 : decode cX11_keepsPeople 47 = .ok (.iastore, 1) := by decide +kernel
theorem dX11_keepsPeople_48 : decode cX11_keepsPeople 48 = .ok (.aload_n 0, 1) := by decide +kernel
theorem dX11_keepsPeople_49 : decode cX11_keepsPeople 49 = .ok (.getfield 22, 3) := by decide +kernel
theorem dX11_keepsPeople_52 : decode cX11_keepsPeople 52 = .ok (.iload_n 1, 1) := by decide +kernel
theorem dX11_keepsPeople_53 : decode cX11_keepsPeople 53 = .ok (.aload_n 0, 1) := by decide +kernel
theorem dX11_keepsPeople_54 : decode cX11_keepsPeople 54 = .ok (.aload_n 0, 1) := by decide +kernel
theorem dX11_keepsPeople_55 : decode cX11_keepsPeople 55 = .ok (.getfield 22, 3) := by decide +kernel
theorem dX11_keepsPeople_58 : decode cX11_keepsPeople 58 = .ok (.iload_n 1, 1) := by decide +kernel
theorem dX11_keepsPeople_59 : decode cX11_keepsPeople 59 = .ok (.iaload, 1) := by decide +kernel
theorem dX11_keepsPeople_60 : decode cX11_keepsPeople 60 = .ok (.invokevirtual 447, 3) := by decide +kernel
theorem dX11_keepsPeople_63 : decode cX11_keepsPeople 63 = .ok (.iastore, 1) := by decide +kernel
theorem dX11_keepsPeople_64 : decode cX11_keepsPeople 64 = .ok (.aload_n 0, 1) := by decide +kernel
theorem dX11_keepsPeople_65 : decode cX11_keepsPeople 65 = .ok (.getfield 25, 3) := by decide +kernel
theorem dX11_keepsPeople_68 : decode cX11_keepsPeople 68 = .ok (.iload_n 1, 1) := by decide +kernel
theorem dX11_keepsPeople_69 : decode cX11_keepsPeople 69 = .ok (.aload_n 0, 1) := by decide +kernel
theorem dX11_keepsPeople_70 : decode cX11_keepsPeople 70 = .ok (.aload_n 0, 1) := by decide +kernel
theorem dX11_keepsPeople_71 : decode cX11_keepsPeople 71 = .ok (.getfield 25, 3) := by decide +kernel
theorem dX11_keepsPeople_74 : decode cX11_keepsPeople 74 = .ok (.iload_n 1, 1) := by decide +kernel
theorem dX11_keepsPeople_75 : decode cX11_keepsPeople 75 = .ok (.iaload, 1) := by decide +kernel
theorem dX11_keepsPeople_76 : decode cX11_keepsPeople 76 = .ok (.invokevirtual 447, 3) := by decide +kernel
theorem dX11_keepsPeople_79 : decode cX11_keepsPeople 79 = .ok (.iastore, 1) := by decide +kernel
theorem dX11_keepsPeople_80 : decode cX11_keepsPeople 80 = .ok (.aload_n 0, 1) := by decide +kernel
theorem dX11_keepsPeople_81 : decode cX11_keepsPeople 81 = .ok (.getfield 28, 3) := by decide +kernel
theorem dX11_keepsPeople_84 : decode cX11_keepsPeople 84 = .ok (.iload_n 1, 1) := by decide +kernel
theorem dX11_keepsPeople_85 : decode cX11_keepsPeople 85 = .ok (.aload_n 0, 1) := by decide +kernel
theorem dX11_keepsPeople_86 : decode cX11_keepsPeople 86 = .ok (.aload_n 0, 1) := by decide +kernel
theorem dX11_keepsPeople_87 : decode cX11_keepsPeople 87 = .ok (.getfield 28, 3) := by decide +kernel
theorem dX11_keepsPeople_90 : decode cX11_keepsPeople 90 = .ok (.iload_n 1, 1) := by decide +kernel
theorem dX11_keepsPeople_91 : decode cX11_keepsPeople 91 = .ok (.iaload, 1) := by decide +kernel
theorem dX11_keepsPeople_92 : decode cX11_keepsPeople 92 = .ok (.invokevirtual 447, 3) := by decide +kernel
theorem dX11_keepsPeople_95 : decode cX11_keepsPeople 95 = .ok (.iastore, 1) := by decide +kernel
theorem dX11_keepsPeople_96 : decode cX11_keepsPeople 96 = .ok (.aload_n 0, 1) := by decide +kernel
theorem dX11_keepsPeople_97 : decode cX11_keepsPeople 97 = .ok (.getfield 31, 3) := by decide +kernel
theorem dX11_keepsPeople_100 : decode cX11_keepsPeople 100 = .ok (.iload_n 1, 1) := by decide +kernel
theorem dX11_keepsPeople_101 : decode cX11_keepsPeople 101 = .ok (.aload_n 0, 1) := by decide +kernel
theorem dX11_keepsPeople_102 : decode cX11_keepsPeople 102 = .ok (.aload_n 0, 1) := by decide +kernel
theorem dX11_keepsPeople_103 : decode cX11_keepsPeople 103 = .ok (.getfield 31, 3) := by decide +kernel
theorem dX11_keepsPeople_106 : decode cX11_keepsPeople 106 = .ok (.iload_n 1, 1) := by decide +kernel
theorem dX11_keepsPeople_107 : decode cX11_keepsPeople 107 = .ok (.iaload, 1) := by decide +kernel
theorem dX11_keepsPeople_108 : decode cX11_keepsPeople 108 = .ok (.invokevirtual 447, 3) := by decide +kernel
theorem dX11_keepsPeople_111 : decode cX11_keepsPeople 111 = .ok (.iastore, 1) := by decide +kernel
theorem dX11_keepsPeople_112 : decode cX11_keepsPeople 112 = .ok (.aload_n 0, 1) := by decide +kernel
theorem dX11_keepsPeople_113 : decode cX11_keepsPeople 113 = .ok (.getfield 68, 3) := by decide +kernel
theorem dX11_keepsPeople_116 : decode cX11_keepsPeople 116 = .ok (.iload_n 1, 1) := by decide +kernel
theorem dX11_keepsPeople_117 : decode cX11_keepsPeople 117 = .ok (.aload_n 0, 1) := by decide +kernel
theorem dX11_keepsPeople_118 : decode cX11_keepsPeople 118 = .ok (.aload_n 0, 1) := by decide +kernel
theorem dX11_keepsPeople_119 : decode cX11_keepsPeople 119 = .ok (.getfield 68, 3) := by decide +kernel
theorem dX11_keepsPeople_122 : decode cX11_keepsPeople 122 = .ok (.iload_n 1, 1) := by decide +kernel
theorem dX11_keepsPeople_123 : decode cX11_keepsPeople 123 = .ok (.iaload, 1) := by decide +kernel
theorem dX11_keepsPeople_124 : decode cX11_keepsPeople 124 = .ok (.invokevirtual 447, 3) := by decide +kernel
theorem dX11_keepsPeople_127 : decode cX11_keepsPeople 127 = .ok (.iastore, 1) := by decide +kernel
theorem dX11_keepsPeople_128 : decode cX11_keepsPeople 128 = .ok (.iinc 1 1, 3) := by decide +kernel
theorem dX11_keepsPeople_131 : decode cX11_keepsPeople 131 = .ok (.goto (-105), 3) := by decide +kernel
theorem dX11_keepsPeople_134 : decode cX11_keepsPeople 134 = .ok (.iconst 0, 1) := by decide +kernel
theorem dX11_keepsPeople_135 : decode cX11_keepsPeople 135 = .ok (.istore_n 1, 1) := by decide +kernel
theorem dX11_keepsPeople_136 : decode cX11_keepsPeople 136 = .ok (.iload_n 1, 1) := by decide +kernel
theorem dX11_keepsPeople_137 : decode cX11_keepsPeople 137 = .ok (.sipush 144, 3) := by decide +kernel
theorem dX11_keepsPeople_140 : decode cX11_keepsPeople 140 = .ok (.if_icmp .ge 57, 3) := by decide +kernel
theorem dX11_keepsPeople_143 : decode cX11_keepsPeople 143 = .ok (.aload_n 0, 1) := by decide +kernel
theorem dX11_keepsPeople_144 : decode cX11_keepsPeople 144 = .ok (.getfield 71, 3) := by decide +kernel
theorem dX11_keepsPeople_147 : decode cX11_keepsPeople 147 = .ok (.iload_n 1, 1) := by decide +kernel
theorem dX11_keepsPeople_148 : decode cX11_keepsPeople 148 = .ok (.aload_n 0, 1) := by decide +kernel
theorem dX11_keepsPeople_149 : decode cX11_keepsPeople 149 = .ok (.aload_n 0, 1) := by decide +kernel
theorem dX11_keepsPeople_150 : decode cX11_keepsPeople 150 = .ok (.getfield 71, 3) := by decide +kernel
theorem dX11_keepsPeople_153 : decode cX11_keepsPeople 153 = .ok (.iload_n 1, 1) := by decide +kernel
theorem dX11_keepsPeople_154 : decode cX11_keepsPeople 154 = .ok (.iaload, 1) := by decide +kernel
theorem dX11_keepsPeople_155 : decode cX11_keepsPeople 155 = .ok (.invokevirtual 447, 3) := by decide +kernel
theorem dX11_keepsPeople_158 : decode cX11_keepsPeople 158 = .ok (.iastore, 1) := by decide +kernel
theorem dX11_keepsPeople_159 : decode cX11_keepsPeople 159 = .ok (.aload_n 0, 1) := by decide +kernel
theorem dX11_keepsPeople_160 : decode cX11_keepsPeople 160 = .ok (.getfield 74, 3) := by decide +kernel
theorem dX11_keepsPeople_163 : decode cX11_keepsPeople 163 = .ok (.iload_n 1, 1) := by decide +kernel
theorem dX11_keepsPeople_164 : decode cX11_keepsPeople 164 = .ok (.aload_n 0, 1) := by decide +kernel
theorem dX11_keepsPeople_165 : decode cX11_keepsPeople 165 = .ok (.aload_n 0, 1) := by decide +kernel
theorem dX11_keepsPeople_166 : decode cX11_keepsPeople 166 = .ok (.getfield 74, 3) := by decide +kernel
theorem dX11_keepsPeople_169 : decode cX11_keepsPeople 169 = .ok (.iload_n 1, 1) := by decide +kernel
theorem dX11_keepsPeople_170 : decode cX11_keepsPeople 170 = .ok (.iaload, 1) := by decide +kernel
theorem dX11_keepsPeople_171 : decode cX11_keepsPeople 171 = .ok (.invokevirtual 447, 3) := by decide +kernel
theorem dX11_keepsPeople_174 : decode cX11_keepsPeople 174 = .ok (.iastore, 1) := by decide +kernel
theorem dX11_keepsPeople_175 : decode cX11_keepsPeople 175 = .ok (.aload_n 0, 1) := by decide +kernel
theorem dX11_keepsPeople_176 : decode cX11_keepsPeople 176 = .ok (.getfield 77, 3) := by decide +kernel
theorem dX11_keepsPeople_179 : decode cX11_keepsPeople 179 = .ok (.iload_n 1, 1) := by decide +kernel
theorem dX11_keepsPeople_180 : decode cX11_keepsPeople 180 = .ok (.aload_n 0, 1) := by decide +kernel
theorem dX11_keepsPeople_181 : decode cX11_keepsPeople 181 = .ok (.aload_n 0, 1) := by decide +kernel
theorem dX11_keepsPeople_182 : decode cX11_keepsPeople 182 = .ok (.getfield 77, 3) := by decide +kernel
theorem dX11_keepsPeople_185 : decode cX11_keepsPeople 185 = .ok (.iload_n 1, 1) := by decide +kernel
theorem dX11_keepsPeople_186 : decode cX11_keepsPeople 186 = .ok (.iaload, 1) := by decide +kernel
theorem dX11_keepsPeople_187 : decode cX11_keepsPeople 187 = .ok (.invokevirtual 447, 3) := by decide +kernel
theorem dX11_keepsPeople_190 : decode cX11_keepsPeople 190 = .ok (.iastore, 1) := by decide +kernel
theorem dX11_keepsPeople_191 : decode cX11_keepsPeople 191 = .ok (.iinc 1 1, 3) := by decide +kernel
theorem dX11_keepsPeople_194 : decode cX11_keepsPeople 194 = .ok (.goto (-58), 3) := by decide +kernel
theorem dX11_keepsPeople_197 : decode cX11_keepsPeople 197 = .ok (.return_, 1) := by decide +kernel
theorem dX11_keepsDeeds_0 : decode cX11_keepsDeeds 0 = .ok (.aload_n 0, 1) := by decide +kernel
theorem dX11_keepsDeeds_1 : decode cX11_keepsDeeds 1 = .ok (.aload_n 0, 1) := by decide +kernel
theorem dX11_keepsDeeds_2 : decode cX11_keepsDeeds 2 = .ok (.aload_n 0, 1) := by decide +kernel
theorem dX11_keepsDeeds_3 : decode cX11_keepsDeeds 3 = .ok (.getfield 125, 3) := by decide +kernel
theorem dX11_keepsDeeds_6 : decode cX11_keepsDeeds 6 = .ok (.invokevirtual 447, 3) := by decide +kernel
theorem dX11_keepsDeeds_9 : decode cX11_keepsDeeds 9 = .ok (.putfield 125, 3) := by decide +kernel
theorem dX11_keepsDeeds_12 : decode cX11_keepsDeeds 12 = .ok (.iconst 0, 1) := by decide +kernel
theorem dX11_keepsDeeds_13 : decode cX11_keepsDeeds 13 = .ok (.istore_n 1, 1) := by decide +kernel
theorem dX11_keepsDeeds_14 : decode cX11_keepsDeeds 14 = .ok (.iload_n 1, 1) := by decide +kernel
theorem dX11_keepsDeeds_15 : decode cX11_keepsDeeds 15 = .ok (.bipush 8, 2) := by decide +kernel
theorem dX11_keepsDeeds_17 : decode cX11_keepsDeeds 17 = .ok (.if_icmp .ge 41, 3) := by decide +kernel
theorem dX11_keepsDeeds_20 : decode cX11_keepsDeeds 20 = .ok (.aload_n 0, 1) := by decide +kernel
theorem dX11_keepsDeeds_21 : decode cX11_keepsDeeds 21 = .ok (.getfield 80, 3) := by decide +kernel
theorem dX11_keepsDeeds_24 : decode cX11_keepsDeeds 24 = .ok (.iload_n 1, 1) := by decide +kernel
theorem dX11_keepsDeeds_25 : decode cX11_keepsDeeds 25 = .ok (.aload_n 0, 1) := by decide +kernel
theorem dX11_keepsDeeds_26 : decode cX11_keepsDeeds 26 = .ok (.aload_n 0, 1) := by decide +kernel
theorem dX11_keepsDeeds_27 : decode cX11_keepsDeeds 27 = .ok (.getfield 80, 3) := by decide +kernel
theorem dX11_keepsDeeds_30 : decode cX11_keepsDeeds 30 = .ok (.iload_n 1, 1) := by decide +kernel
theorem dX11_keepsDeeds_31 : decode cX11_keepsDeeds 31 = .ok (.iaload, 1) := by decide +kernel
theorem dX11_keepsDeeds_32 : decode cX11_keepsDeeds 32 = .ok (.invokevirtual 447, 3) := by decide +kernel
theorem dX11_keepsDeeds_35 : decode cX11_keepsDeeds 35 = .ok (.iastore, 1) := by decide +kernel
theorem dX11_keepsDeeds_36 : decode cX11_keepsDeeds 36 = .ok (.aload_n 0, 1) := by decide +kernel
theorem dX11_keepsDeeds_37 : decode cX11_keepsDeeds 37 = .ok (.getfield 83, 3) := by decide +kernel
theorem dX11_keepsDeeds_40 : decode cX11_keepsDeeds 40 = .ok (.iload_n 1, 1) := by decide +kernel
theorem dX11_keepsDeeds_41 : decode cX11_keepsDeeds 41 = .ok (.aload_n 0, 1) := by decide +kernel
theorem dX11_keepsDeeds_42 : decode cX11_keepsDeeds 42 = .ok (.aload_n 0, 1) := by decide +kernel
theorem dX11_keepsDeeds_43 : decode cX11_keepsDeeds 43 = .ok (.getfield 83, 3) := by decide +kernel
theorem dX11_keepsDeeds_46 : decode cX11_keepsDeeds 46 = .ok (.iload_n 1, 1) := by decide +kernel
theorem dX11_keepsDeeds_47 : decode cX11_keepsDeeds 47 = .ok (.iaload, 1) := by decide +kernel
theorem dX11_keepsDeeds_48 : decode cX11_keepsDeeds 48 = .ok (.invokevirtual 447, 3) := by decide +kernel
theorem dX11_keepsDeeds_51 : decode cX11_keepsDeeds 51 = .ok (.iastore, 1) := by decide +kernel
theorem dX11_keepsDeeds_52 : decode cX11_keepsDeeds 52 = .ok (.iinc 1 1, 3) := by decide +kernel
theorem dX11_keepsDeeds_55 : decode cX11_keepsDeeds 55 = .ok (.goto (-41), 3) := by decide +kernel
theorem dX11_keepsDeeds_58 : decode cX11_keepsDeeds 58 = .ok (.iconst 0, 1) := by decide +kernel
theorem dX11_keepsDeeds_59 : decode cX11_keepsDeeds 59 = .ok (.istore_n 1, 1) := by decide +kernel
theorem dX11_keepsDeeds_60 : decode cX11_keepsDeeds 60 = .ok (.iload_n 1, 1) := by decide +kernel
theorem dX11_keepsDeeds_61 : decode cX11_keepsDeeds 61 = .ok (.sipush 320, 3) := by decide +kernel
theorem dX11_keepsDeeds_64 : decode cX11_keepsDeeds 64 = .ok (.if_icmp .ge 25, 3) := by decide +kernel
theorem dX11_keepsDeeds_67 : decode cX11_keepsDeeds 67 = .ok (.aload_n 0, 1) := by decide +kernel
theorem dX11_keepsDeeds_68 : decode cX11_keepsDeeds 68 = .ok (.getfield 86, 3) := by decide +kernel
theorem dX11_keepsDeeds_71 : decode cX11_keepsDeeds 71 = .ok (.iload_n 1, 1) := by decide +kernel
theorem dX11_keepsDeeds_72 : decode cX11_keepsDeeds 72 = .ok (.aload_n 0, 1) := by decide +kernel
theorem dX11_keepsDeeds_73 : decode cX11_keepsDeeds 73 = .ok (.aload_n 0, 1) := by decide +kernel
theorem dX11_keepsDeeds_74 : decode cX11_keepsDeeds 74 = .ok (.getfield 86, 3) := by decide +kernel
theorem dX11_keepsDeeds_77 : decode cX11_keepsDeeds 77 = .ok (.iload_n 1, 1) := by decide +kernel
theorem dX11_keepsDeeds_78 : decode cX11_keepsDeeds 78 = .ok (.iaload, 1) := by decide +kernel
theorem dX11_keepsDeeds_79 : decode cX11_keepsDeeds 79 = .ok (.invokevirtual 447, 3) := by decide +kernel
theorem dX11_keepsDeeds_82 : decode cX11_keepsDeeds 82 = .ok (.iastore, 1) := by decide +kernel
theorem dX11_keepsDeeds_83 : decode cX11_keepsDeeds 83 = .ok (.iinc 1 1, 3) := by decide +kernel
theorem dX11_keepsDeeds_86 : decode cX11_keepsDeeds 86 = .ok (.goto (-26), 3) := by decide +kernel
theorem dX11_keepsDeeds_89 : decode cX11_keepsDeeds 89 = .ok (.return_, 1) := by decide +kernel
theorem dX11_image_0 : decode cX11_image 0 = .ok (.aload_n 0, 1) := by decide +kernel
theorem dX11_image_1 : decode cX11_image 1 = .ok (.iconst 0, 1) := by decide +kernel
theorem dX11_image_2 : decode cX11_image 2 = .ok (.putfield 107, 3) := by decide +kernel
theorem dX11_image_5 : decode cX11_image 5 = .ok (.iload_n 1, 1) := by decide +kernel
theorem dX11_image_6 : decode cX11_image 6 = .ok (.ifCond .ne 12, 3) := by decide +kernel
theorem dX11_image_9 : decode cX11_image 9 = .ok (.aload_n 0, 1) := by decide +kernel
theorem dX11_image_10 : decode cX11_image 10 = .ok (.getfield 450, 3) := by decide +kernel
theorem dX11_image_13 : decode cX11_image 13 = .ok (.ifCond .ne 5, 3) := by decide +kernel
theorem dX11_image_16 : decode cX11_image 16 = .ok (.iconst 0, 1) := by decide +kernel
theorem dX11_image_17 : decode cX11_image 17 = .ok (.ireturn, 1) := by decide +kernel
theorem dX11_image_18 : decode cX11_image 18 = .ok (.aload_n 0, 1) := by decide +kernel
theorem dX11_image_19 : decode cX11_image 19 = .ok (.iload_n 1, 1) := by decide +kernel
theorem dX11_image_20 : decode cX11_image 20 = .ok (.putfield 444, 3) := by decide +kernel
theorem dX11_image_23 : decode cX11_image 23 = .ok (.aload_n 0, 1) := by decide +kernel
theorem dX11_image_24 : decode cX11_image 24 = .ok (.iconst 1, 1) := by decide +kernel
theorem dX11_image_25 : decode cX11_image 25 = .ok (.putfield 450, 3) := by decide +kernel
theorem dX11_image_28 : decode cX11_image 28 = .ok (.aload_n 0, 1) := by decide +kernel
theorem dX11_image_29 : decode cX11_image 29 = .ok (.iconst 0, 1) := by decide +kernel
theorem dX11_image_30 : decode cX11_image 30 = .ok (.putfield 441, 3) := by decide +kernel
theorem dX11_image_33 : decode cX11_image 33 = .ok (.iconst 0, 1) := by decide +kernel
theorem dX11_image_34 : decode cX11_image 34 = .ok (.istore_n 2, 1) := by decide +kernel
theorem dX11_image_35 : decode cX11_image 35 = .ok (.iload_n 2, 1) := by decide +kernel
theorem dX11_image_36 : decode cX11_image 36 = .ok (.sipush 148, 3) := by decide +kernel
theorem dX11_image_39 : decode cX11_image 39 = .ok (.if_icmp .ge 25, 3) := by decide +kernel
theorem dX11_image_42 : decode cX11_image 42 = .ok (.aload_n 0, 1) := by decide +kernel
theorem dX11_image_43 : decode cX11_image 43 = .ok (.getfield 7, 3) := by decide +kernel
theorem dX11_image_46 : decode cX11_image 46 = .ok (.iload_n 2, 1) := by decide +kernel
theorem dX11_image_47 : decode cX11_image 47 = .ok (.aload_n 0, 1) := by decide +kernel
theorem dX11_image_48 : decode cX11_image 48 = .ok (.aload_n 0, 1) := by decide +kernel
theorem dX11_image_49 : decode cX11_image 49 = .ok (.getfield 7, 3) := by decide +kernel
theorem dX11_image_52 : decode cX11_image 52 = .ok (.iload_n 2, 1) := by decide +kernel
theorem dX11_image_53 : decode cX11_image 53 = .ok (.iaload, 1) := by decide +kernel
theorem dX11_image_54 : decode cX11_image 54 = .ok (.invokevirtual 447, 3) := by decide +kernel
theorem dX11_image_57 : decode cX11_image 57 = .ok (.iastore, 1) := by decide +kernel
theorem dX11_image_58 : decode cX11_image 58 = .ok (.iinc 2 1, 3) := by decide +kernel
theorem dX11_image_61 : decode cX11_image 61 = .ok (.goto (-26), 3) := by decide +kernel
theorem dX11_image_64 : decode cX11_image 64 = .ok (.aload_n 0, 1) := by decide +kernel
theorem dX11_image_65 : decode cX11_image 65 = .ok (.invokevirtual 453, 3) := by decide +kernel
theorem dX11_image_68 : decode cX11_image 68 = .ok (.aload_n 0, 1) := by decide +kernel
theorem dX11_image_69 : decode cX11_image 69 = .ok (.invokevirtual 456, 3) := by decide +kernel
theorem dX11_image_72 : decode cX11_image 72 = .ok (.iconst 0, 1) := by decide +kernel
theorem dX11_image_73 : decode cX11_image 73 = .ok (.istore_n 2, 1) := by decide +kernel
theorem dX11_image_74 : decode cX11_image 74 = .ok (.iload_n 2, 1) := by decide +kernel
theorem dX11_image_75 : decode cX11_image 75 = .ok (.sipush 1000, 3) := by decide +kernel
theorem dX11_image_78 : decode cX11_image 78 = .ok (.if_icmp .ge 25, 3) := by decide +kernel
theorem dX11_image_81 : decode cX11_image 81 = .ok (.aload_n 0, 1) := by decide +kernel
theorem dX11_image_82 : decode cX11_image 82 = .ok (.getfield 34, 3) := by decide +kernel
theorem dX11_image_85 : decode cX11_image 85 = .ok (.iload_n 2, 1) := by decide +kernel
theorem dX11_image_86 : decode cX11_image 86 = .ok (.aload_n 0, 1) := by decide +kernel
theorem dX11_image_87 : decode cX11_image 87 = .ok (.aload_n 0, 1) := by decide +kernel
theorem dX11_image_88 : decode cX11_image 88 = .ok (.getfield 34, 3) := by decide +kernel
theorem dX11_image_91 : decode cX11_image 91 = .ok (.iload_n 2, 1) := by decide +kernel
theorem dX11_image_92 : decode cX11_image 92 = .ok (.iaload, 1) := by decide +kernel
theorem dX11_image_93 : decode cX11_image 93 = .ok (.invokevirtual 447, 3) := by decide +kernel
theorem dX11_image_96 : decode cX11_image 96 = .ok (.iastore, 1) := by decide +kernel
theorem dX11_image_97 : decode cX11_image 97 = .ok (.iinc 2 1, 3) := by decide +kernel
theorem dX11_image_100 : decode cX11_image 100 = .ok (.goto (-26), 3) := by decide +kernel
theorem dX11_image_103 : decode cX11_image 103 = .ok (.aload_n 0, 1) := by decide +kernel
theorem dX11_image_104 : decode cX11_image 104 = .ok (.invokevirtual 459, 3) := by decide +kernel
theorem dX11_image_107 : decode cX11_image 107 = .ok (.aload_n 0, 1) := by decide +kernel
theorem dX11_image_108 : decode cX11_image 108 = .ok (.invokevirtual 113, 3) := by decide +kernel
theorem dX11_image_111 : decode cX11_image 111 = .ok (.iload_n 1, 1) := by decide +kernel
theorem dX11_image_112 : decode cX11_image 112 = .ok (.ifCond .ne 8, 3) := by decide +kernel
theorem dX11_image_115 : decode cX11_image 115 = .ok (.aload_n 0, 1) := by decide +kernel
theorem dX11_image_116 : decode cX11_image 116 = .ok (.iconst 0, 1) := by decide +kernel
theorem dX11_image_117 : decode cX11_image 117 = .ok (.putfield 110, 3) := by decide +kernel
theorem dX11_image_120 : decode cX11_image 120 = .ok (.iconst 1, 1) := by decide +kernel
theorem dX11_image_121 : decode cX11_image 121 = .ok (.ireturn, 1) := by decide +kernel
theorem dX11_lettersWithout_0 : decode cX11_lettersWithout 0 = .ok (.iconst 0, 1) := by decide +kernel
theorem dX11_lettersWithout_1 : decode cX11_lettersWithout 1 = .ok (.istore_n 1, 1) := by decide +kernel
theorem dX11_lettersWithout_2 : decode cX11_lettersWithout 2 = .ok (.iconst 0, 1) := by decide +kernel
theorem dX11_lettersWithout_3 : decode cX11_lettersWithout 3 = .ok (.istore_n 2, 1) := by decide +kernel
theorem dX11_lettersWithout_4 : decode cX11_lettersWithout 4 = .ok (.iload_n 2, 1) := by decide +kernel
theorem dX11_lettersWithout_5 : decode cX11_lettersWithout 5 = .ok (.bipush 28, 2) := by decide +kernel
theorem dX11_lettersWithout_7 : decode cX11_lettersWithout 7 = .ok (.if_icmp .ge 24, 3) := by decide +kernel
theorem dX11_lettersWithout_10 : decode cX11_lettersWithout 10 = .ok (.aload_n 0, 1) := by decide +kernel
theorem dX11_lettersWithout_11 : decode cX11_lettersWithout 11 = .ok (.iload_n 2, 1) := by decide +kernel
theorem dX11_lettersWithout_12 : decode cX11_lettersWithout 12 = .ok (.invokevirtual 160, 3) := by decide +kernel
theorem dX11_lettersWithout_15 : decode cX11_lettersWithout 15 = .ok (.iconst (-1), 1) := by decide +kernel
theorem dX11_lettersWithout_16 : decode cX11_lettersWithout 16 = .ok (.if_icmp .ne 9, 3) := by decide +kernel
theorem dX11_lettersWithout_19 : decode cX11_lettersWithout 19 = .ok (.iload_n 1, 1) := by decide +kernel
theorem dX11_lettersWithout_20 : decode cX11_lettersWithout 20 = .ok (.iconst 1, 1) := by decide +kernel
theorem dX11_lettersWithout_21 : decode cX11_lettersWithout 21 = .ok (.iload_n 2, 1) := by decide +kernel
theorem dX11_lettersWithout_22 : decode cX11_lettersWithout 22 = .ok (.ishl, 1) := by decide +kernel
theorem dX11_lettersWithout_23 : decode cX11_lettersWithout 23 = .ok (.ior, 1) := by decide +kernel
theorem dX11_lettersWithout_24 : decode cX11_lettersWithout 24 = .ok (.istore_n 1, 1) := by decide +kernel
theorem dX11_lettersWithout_25 : decode cX11_lettersWithout 25 = .ok (.iinc 2 1, 3) := by decide +kernel
theorem dX11_lettersWithout_28 : decode cX11_lettersWithout 28 = .ok (.goto (-24), 3) := by decide +kernel
theorem dX11_lettersWithout_31 : decode cX11_lettersWithout 31 = .ok (.iload_n 1, 1) := by decide +kernel
theorem dX11_lettersWithout_32 : decode cX11_lettersWithout 32 = .ok (.ireturn, 1) := by decide +kernel
theorem dX11_loans_0 : decode cX11_loans 0 = .ok (.iconst 0, 1) := by decide +kernel
theorem dX11_loans_1 : decode cX11_loans 1 = .ok (.istore_n 1, 1) := by decide +kernel
theorem dX11_loans_2 : decode cX11_loans 2 = .ok (.iconst 0, 1) := by decide +kernel
theorem dX11_loans_3 : decode cX11_loans 3 = .ok (.istore_n 2, 1) := by decide +kernel
theorem dX11_loans_4 : decode cX11_loans 4 = .ok (.iload_n 2, 1) := by decide +kernel
theorem dX11_loans_5 : decode cX11_loans 5 = .ok (.bipush 28, 2) := by decide +kernel
theorem dX11_loans_7 : decode cX11_loans 7 = .ok (.if_icmp .ge 22, 3) := by decide +kernel
theorem dX11_loans_10 : decode cX11_loans 10 = .ok (.aload_n 0, 1) := by decide +kernel
theorem dX11_loans_11 : decode cX11_loans 11 = .ok (.iload_n 2, 1) := by decide +kernel
theorem dX11_loans_12 : decode cX11_loans 12 = .ok (.invokevirtual 315, 3) := by decide +kernel
theorem dX11_loans_15 : decode cX11_loans 15 = .ok (.iconst (-1), 1) := by decide +kernel
theorem dX11_loans_16 : decode cX11_loans 16 = .ok (.if_icmp .eq 7, 3) := by decide +kernel
theorem dX11_loans_19 : decode cX11_loans 19 = .ok (.iload_n 1, 1) := by decide +kernel
theorem dX11_loans_20 : decode cX11_loans 20 = .ok (.iconst 1, 1) := by decide +kernel
theorem dX11_loans_21 : decode cX11_loans 21 = .ok (.iadd, 1) := by decide +kernel
theorem dX11_loans_22 : decode cX11_loans 22 = .ok (.istore_n 1, 1) := by decide +kernel
theorem dX11_loans_23 : decode cX11_loans 23 = .ok (.iinc 2 1, 3) := by decide +kernel
theorem dX11_loans_26 : decode cX11_loans 26 = .ok (.goto (-22), 3) := by decide +kernel
theorem dX11_loans_29 : decode cX11_loans 29 = .ok (.iload_n 1, 1) := by decide +kernel
theorem dX11_loans_30 : decode cX11_loans 30 = .ok (.ireturn, 1) := by decide +kernel
theorem dX11_look_0 : decode cX11_look 0 = .ok (.aload_n 0, 1) := by decide +kernel
theorem dX11_look_1 : decode cX11_look 1 = .ok (.iconst 0, 1) := by decide +kernel
theorem dX11_look_2 : decode cX11_look 2 = .ok (.putfield 107, 3) := by decide +kernel
theorem dX11_look_5 : decode cX11_look 5 = .ok (.iload_n 1, 1) := by decide +kernel
theorem dX11_look_6 : decode cX11_look 6 = .ok (.ifCond .ne 8, 3) := by decide +kernel
theorem dX11_look_9 : decode cX11_look 9 = .ok (.aload_n 0, 1) := by decide +kernel
theorem dX11_look_10 : decode cX11_look 10 = .ok (.getfield 122, 3) := by decide +kernel
theorem dX11_look_13 : decode cX11_look 13 = .ok (.ireturn, 1) := by decide +kernel
theorem dX11_look_14 : decode cX11_look 14 = .ok (.iload_n 1, 1) := by decide +kernel
theorem dX11_look_15 : decode cX11_look 15 = .ok (.iconst 1, 1) := by decide +kernel
theorem dX11_look_16 : decode cX11_look 16 = .ok (.if_icmp .ne 8, 3) := by decide +kernel
theorem dX11_look_19 : decode cX11_look 19 = .ok (.aload_n 0, 1) := by decide +kernel
theorem dX11_look_20 : decode cX11_look 20 = .ok (.invokevirtual 411, 3) := by decide +kernel
theorem dX11_look_23 : decode cX11_look 23 = .ok (.ireturn, 1) := by decide +kernel
theorem dX11_look_24 : decode cX11_look 24 = .ok (.iload_n 1, 1) := by decide +kernel
theorem dX11_look_25 : decode cX11_look 25 = .ok (.iconst 2, 1) := by decide +kernel
theorem dX11_look_26 : decode cX11_look 26 = .ok (.if_icmp .ne 10, 3) := by decide +kernel
theorem dX11_look_29 : decode cX11_look 29 = .ok (.aload_n 0, 1) := by decide +kernel
theorem dX11_look_30 : decode cX11_look 30 = .ok (.getfield 7, 3) := by decide +kernel
theorem dX11_look_33 : decode cX11_look 33 = .ok (.iconst 0, 1) := by decide +kernel
theorem dX11_look_34 : decode cX11_look 34 = .ok (.iaload, 1) := by decide +kernel
theorem dX11_look_35 : decode cX11_look 35 = .ok (.ireturn, 1) := by decide +kernel
theorem dX11_look_36 : decode cX11_look 36 = .ok (.iload_n 1, 1) := by decide +kernel
theorem dX11_look_37 : decode cX11_look 37 = .ok (.iconst 3, 1) := by decide +kernel
theorem dX11_look_38 : decode cX11_look 38 = .ok (.if_icmp .ne 10, 3) := by decide +kernel
theorem dX11_look_41 : decode cX11_look 41 = .ok (.aload_n 0, 1) := by decide +kernel
theorem dX11_look_42 : decode cX11_look 42 = .ok (.getfield 157, 3) := by decide +kernel
theorem dX11_look_45 : decode cX11_look 45 = .ok (.iconst 1, 1) := by decide +kernel
theorem dX11_look_46 : decode cX11_look 46 = .ok (.iadd, 1) := by decide +kernel
theorem dX11_look_47 : decode cX11_look 47 = .ok (.ireturn, 1) := by decide +kernel
theorem dX11_look_48 : decode cX11_look 48 = .ok (.iload_n 1, 1) := by decide +kernel
theorem dX11_look_49 : decode cX11_look 49 = .ok (.iconst 4, 1) := by decide +kernel
theorem dX11_look_50 : decode cX11_look 50 = .ok (.if_icmp .ne 8, 3) := by decide +kernel
theorem dX11_look_53 : decode cX11_look 53 = .ok (.aload_n 0, 1) := by decide +kernel
theorem dX11_look_54 : decode cX11_look 54 = .ok (.getfield 125, 3) := by decide +kernel
theorem dX11_look_57 : decode cX11_look 57 = .ok (.ireturn, 1) := by decide +kernel
theorem dX11_look_58 : decode cX11_look 58 = .ok (.iload_n 1, 1) := by decide +kernel
theorem dX11_look_59 : decode cX11_look 59 = .ok (.iconst 5, 1) := by decide +kernel
theorem dX11_look_60 : decode cX11_look 60 = .ok (.if_icmp .ne 10, 3) := by decide +kernel
theorem dX11_look_63 : decode cX11_look 63 = .ok (.aload_n 0, 1) := by decide +kernel
theorem dX11_look_64 : decode cX11_look 64 = .ok (.getfield 7, 3) := by decide +kernel
theorem dX11_look_67 : decode cX11_look 67 = .ok (.iconst 2, 1) := by decide +kernel
theorem dX11_look_68 : decode cX11_look 68 = .ok (.iaload, 1) := by decide +kernel
theorem dX11_look_69 : decode cX11_look 69 = .ok (.ireturn, 1) := by decide +kernel
theorem dX11_look_70 : decode cX11_look 70 = .ok (.iload_n 1, 1) := by decide +kernel
theorem dX11_look_71 : decode cX11_look 71 = .ok (.bipush 6, 2) := by decide +kernel
theorem dX11_look_73 : decode cX11_look 73 = .ok (.if_icmp .ne 10, 3) := by decide +kernel
theorem dX11_look_76 : decode cX11_look 76 = .ok (.aload_n 0, 1) := by decide +kernel
theorem dX11_look_77 : decode cX11_look 77 = .ok (.getfield 7, 3) := by decide +kernel
theorem dX11_look_80 : decode cX11_look 80 = .ok (.iconst 1, 1) := by decide +kernel
theorem dX11_look_81 : decode cX11_look 81 = .ok (.iaload, 1) := by decide +kernel
theorem dX11_look_82 : decode cX11_look 82 = .ok (.ireturn, 1) := by decide +kernel
theorem dX11_look_83 : decode cX11_look 83 = .ok (.iload_n 1, 1) := by decide +kernel
theorem dX11_look_84 : decode cX11_look 84 = .ok (.bipush 7, 2) := by decide +kernel
theorem dX11_look_86 : decode cX11_look 86 = .ok (.if_icmp .ne 8, 3) := by decide +kernel
theorem dX11_look_89 : decode cX11_look 89 = .ok (.aload_n 0, 1) := by decide +kernel
theorem dX11_look_90 : decode cX11_look 90 = .ok (.getfield 260, 3) := by decide +kernel
theorem dX11_look_93 : decode cX11_look 93 = .ok (.ireturn, 1) := by decide +kernel
theorem dX11_look_94 : decode cX11_look 94 = .ok (.iload_n 1, 1) := by decide +kernel
theorem dX11_look_95 : decode cX11_look 95 = .ok (.bipush 8, 2) := by decide +kernel
theorem dX11_look_97 : decode cX11_look 97 = .ok (.if_icmp .ne 8, 3) := by decide +kernel
theorem dX11_look_100 : decode cX11_look 100 = .ok (.aload_n 0, 1) := by decide +kernel
theorem dX11_look_101 : decode cX11_look 101 = .ok (.getfield 110, 3) := by decide +kernel
theorem dX11_look_104 : decode cX11_look 104 = .ok (.ireturn, 1) := by decide +kernel
theorem dX11_look_105 : decode cX11_look 105 = .ok (.iload_n 1, 1) := by decide +kernel
theorem dX11_look_106 : decode cX11_look 106 = .ok (.bipush 9, 2) := by decide +kernel
theorem dX11_look_108 : decode cX11_look 108 = .ok (.if_icmp .ne 10, 3) := by decide +kernel
theorem dX11_look_111 : decode cX11_look 111 = .ok (.aload_n 0, 1) := by decide +kernel
theorem dX11_look_112 : decode cX11_look 112 = .ok (.invokevirtual 462, 3) := by decide +kernel
theorem dX11_look_115 : decode cX11_look 115 = .ok (.goto 18, 3) := by decide +kernel
theorem dX11_look_118 : decode cX11_look 118 = .ok (.iload_n 1, 1) := by decide +kernel
theorem dX11_look_119 : decode cX11_look 119 = .ok (.bipush 10, 2) := by decide +kernel
theorem dX11_look_121 : decode cX11_look 121 = .ok (.if_icmp .ne 10, 3) := by decide +kernel
theorem dX11_look_124 : decode cX11_look 124 = .ok (.aload_n 0, 1) := by decide +kernel
theorem dX11_look_125 : decode cX11_look 125 = .ok (.invokevirtual 465, 3) := by decide +kernel
theorem dX11_look_128 : decode cX11_look 128 = .ok (.goto 5, 3) := by decide +kernel
theorem dX11_look_131 : decode cX11_look 131 = .ok (.bipush (-2), 2) := by decide +kernel
theorem dX11_look_133 : decode cX11_look 133 = .ok (.ireturn, 1) := by decide +kernel
theorem dJ11_isValidCodePoint_9a6ad_0 : decode cJ11_isValidCodePoint_9a6ad 0 = .ok (.iload_n 0, 1) := by decide +kernel
theorem dJ11_isValidCodePoint_9a6ad_1 : decode cJ11_isValidCodePoint_9a6ad 1 = .ok (.bipush 16, 2) := by decide +kernel
theorem dJ11_isValidCodePoint_9a6ad_3 : decode cJ11_isValidCodePoint_9a6ad 3 = .ok (.iushr, 1) := by decide +kernel
theorem dJ11_isValidCodePoint_9a6ad_4 : decode cJ11_isValidCodePoint_9a6ad 4 = .ok (.istore_n 1, 1) := by decide +kernel
theorem dJ11_isValidCodePoint_9a6ad_5 : decode cJ11_isValidCodePoint_9a6ad 5 = .ok (.iload_n 1, 1) := by decide +kernel
theorem dJ11_isValidCodePoint_9a6ad_6 : decode cJ11_isValidCodePoint_9a6ad 6 = .ok (.bipush 17, 2) := by decide +kernel
theorem dJ11_isValidCodePoint_9a6ad_8 : decode cJ11_isValidCodePoint_9a6ad 8 = .ok (.if_icmp .ge 7, 3) := by decide +kernel
theorem dJ11_isValidCodePoint_9a6ad_11 : decode cJ11_isValidCodePoint_9a6ad 11 = .ok (.iconst 1, 1) := by decide +kernel
theorem dJ11_isValidCodePoint_9a6ad_12 : decode cJ11_isValidCodePoint_9a6ad 12 = .ok (.goto 4, 3) := by decide +kernel
theorem dJ11_isValidCodePoint_9a6ad_15 : decode cJ11_isValidCodePoint_9a6ad 15 = .ok (.iconst 0, 1) := by decide +kernel
theorem dJ11_isValidCodePoint_9a6ad_16 : decode cJ11_isValidCodePoint_9a6ad 16 = .ok (.ireturn, 1) := by decide +kernel
theorem dJ11_highSurrogate_5068e_0 : decode cJ11_highSurrogate_5068e 0 = .ok (.iload_n 0, 1) := by decide +kernel
theorem dJ11_highSurrogate_5068e_1 : decode cJ11_highSurrogate_5068e 1 = .ok (.bipush 10, 2) := by decide +kernel
theorem dJ11_highSurrogate_5068e_3 : decode cJ11_highSurrogate_5068e 3 = .ok (.iushr, 1) := by decide +kernel
theorem dJ11_highSurrogate_5068e_4 : decode cJ11_highSurrogate_5068e 4 = .ok (.ldc 110, 2) := by decide +kernel
theorem dJ11_highSurrogate_5068e_6 : decode cJ11_highSurrogate_5068e 6 = .ok (.iadd, 1) := by decide +kernel
theorem dJ11_highSurrogate_5068e_7 : decode cJ11_highSurrogate_5068e 7 = .ok (.i2c, 1) := by decide +kernel
theorem dJ11_highSurrogate_5068e_8 : decode cJ11_highSurrogate_5068e 8 = .ok (.ireturn, 1) := by decide +kernel
theorem dJ11_lowSurrogate_5068e_0 : decode cJ11_lowSurrogate_5068e 0 = .ok (.iload_n 0, 1) := by decide +kernel
theorem dJ11_lowSurrogate_5068e_1 : decode cJ11_lowSurrogate_5068e 1 = .ok (.sipush 1023, 3) := by decide +kernel
theorem dJ11_lowSurrogate_5068e_4 : decode cJ11_lowSurrogate_5068e 4 = .ok (.iand, 1) := by decide +kernel
theorem dJ11_lowSurrogate_5068e_5 : decode cJ11_lowSurrogate_5068e 5 = .ok (.ldc 76, 2) := by decide +kernel
theorem dJ11_lowSurrogate_5068e_7 : decode cJ11_lowSurrogate_5068e 7 = .ok (.iadd, 1) := by decide +kernel
theorem dJ11_lowSurrogate_5068e_8 : decode cJ11_lowSurrogate_5068e 8 = .ok (.i2c, 1) := by decide +kernel
theorem dJ11_lowSurrogate_5068e_9 : decode cJ11_lowSurrogate_5068e 9 = .ok (.ireturn, 1) := by decide +kernel
theorem dJ6_bitCount_0f7a4_0 : decode cJ6_bitCount_0f7a4 0 = .ok (.iload_n 0, 1) := by decide +kernel
theorem dJ6_bitCount_0f7a4_1 : decode cJ6_bitCount_0f7a4 1 = .ok (.iload_n 0, 1) := by decide +kernel
theorem dJ6_bitCount_0f7a4_2 : decode cJ6_bitCount_0f7a4 2 = .ok (.iconst 1, 1) := by decide +kernel
theorem dJ6_bitCount_0f7a4_3 : decode cJ6_bitCount_0f7a4 3 = .ok (.iushr, 1) := by decide +kernel
theorem dJ6_bitCount_0f7a4_4 : decode cJ6_bitCount_0f7a4 4 = .ok (.ldc_w 265, 3) := by decide +kernel
theorem dJ6_bitCount_0f7a4_7 : decode cJ6_bitCount_0f7a4 7 = .ok (.iand, 1) := by decide +kernel
theorem dJ6_bitCount_0f7a4_8 : decode cJ6_bitCount_0f7a4 8 = .ok (.isub, 1) := by decide +kernel
theorem dJ6_bitCount_0f7a4_9 : decode cJ6_bitCount_0f7a4 9 = .ok (.istore_n 0, 1) := by decide +kernel
theorem dJ6_bitCount_0f7a4_10 : decode cJ6_bitCount_0f7a4 10 = .ok (.iload_n 0, 1) := by decide +kernel
theorem dJ6_bitCount_0f7a4_11 : decode cJ6_bitCount_0f7a4 11 = .ok (.ldc_w 266, 3) := by decide +kernel
theorem dJ6_bitCount_0f7a4_14 : decode cJ6_bitCount_0f7a4 14 = .ok (.iand, 1) := by decide +kernel
theorem dJ6_bitCount_0f7a4_15 : decode cJ6_bitCount_0f7a4 15 = .ok (.iload_n 0, 1) := by decide +kernel
theorem dJ6_bitCount_0f7a4_16 : decode cJ6_bitCount_0f7a4 16 = .ok (.iconst 2, 1) := by decide +kernel
theorem dJ6_bitCount_0f7a4_17 : decode cJ6_bitCount_0f7a4 17 = .ok (.iushr, 1) := by decide +kernel
theorem dJ6_bitCount_0f7a4_18 : decode cJ6_bitCount_0f7a4 18 = .ok (.ldc_w 266, 3) := by decide +kernel
theorem dJ6_bitCount_0f7a4_21 : decode cJ6_bitCount_0f7a4 21 = .ok (.iand, 1) := by decide +kernel
theorem dJ6_bitCount_0f7a4_22 : decode cJ6_bitCount_0f7a4 22 = .ok (.iadd, 1) := by decide +kernel
theorem dJ6_bitCount_0f7a4_23 : decode cJ6_bitCount_0f7a4 23 = .ok (.istore_n 0, 1) := by decide +kernel
theorem dJ6_bitCount_0f7a4_24 : decode cJ6_bitCount_0f7a4 24 = .ok (.iload_n 0, 1) := by decide +kernel
theorem dJ6_bitCount_0f7a4_25 : decode cJ6_bitCount_0f7a4 25 = .ok (.iload_n 0, 1) := by decide +kernel
theorem dJ6_bitCount_0f7a4_26 : decode cJ6_bitCount_0f7a4 26 = .ok (.iconst 4, 1) := by decide +kernel
theorem dJ6_bitCount_0f7a4_27 : decode cJ6_bitCount_0f7a4 27 = .ok (.iushr, 1) := by decide +kernel
theorem dJ6_bitCount_0f7a4_28 : decode cJ6_bitCount_0f7a4 28 = .ok (.iadd, 1) := by decide +kernel
theorem dJ6_bitCount_0f7a4_29 : decode cJ6_bitCount_0f7a4 29 = .ok (.ldc_w 267, 3) := by decide +kernel
theorem dJ6_bitCount_0f7a4_32 : decode cJ6_bitCount_0f7a4 32 = .ok (.iand, 1) := by decide +kernel
theorem dJ6_bitCount_0f7a4_33 : decode cJ6_bitCount_0f7a4 33 = .ok (.istore_n 0, 1) := by decide +kernel
theorem dJ6_bitCount_0f7a4_34 : decode cJ6_bitCount_0f7a4 34 = .ok (.iload_n 0, 1) := by decide +kernel
theorem dJ6_bitCount_0f7a4_35 : decode cJ6_bitCount_0f7a4 35 = .ok (.iload_n 0, 1) := by decide +kernel
theorem dJ6_bitCount_0f7a4_36 : decode cJ6_bitCount_0f7a4 36 = .ok (.bipush 8, 2) := by decide +kernel
theorem dJ6_bitCount_0f7a4_38 : decode cJ6_bitCount_0f7a4 38 = .ok (.iushr, 1) := by decide +kernel
theorem dJ6_bitCount_0f7a4_39 : decode cJ6_bitCount_0f7a4 39 = .ok (.iadd, 1) := by decide +kernel
theorem dJ6_bitCount_0f7a4_40 : decode cJ6_bitCount_0f7a4 40 = .ok (.istore_n 0, 1) := by decide +kernel
theorem dJ6_bitCount_0f7a4_41 : decode cJ6_bitCount_0f7a4 41 = .ok (.iload_n 0, 1) := by decide +kernel
theorem dJ6_bitCount_0f7a4_42 : decode cJ6_bitCount_0f7a4 42 = .ok (.iload_n 0, 1) := by decide +kernel
theorem dJ6_bitCount_0f7a4_43 : decode cJ6_bitCount_0f7a4 43 = .ok (.bipush 16, 2) := by decide +kernel
theorem dJ6_bitCount_0f7a4_45 : decode cJ6_bitCount_0f7a4 45 = .ok (.iushr, 1) := by decide +kernel
theorem dJ6_bitCount_0f7a4_46 : decode cJ6_bitCount_0f7a4 46 = .ok (.iadd, 1) := by decide +kernel
theorem dJ6_bitCount_0f7a4_47 : decode cJ6_bitCount_0f7a4 47 = .ok (.istore_n 0, 1) := by decide +kernel
theorem dJ6_bitCount_0f7a4_48 : decode cJ6_bitCount_0f7a4 48 = .ok (.iload_n 0, 1) := by decide +kernel
theorem dJ6_bitCount_0f7a4_49 : decode cJ6_bitCount_0f7a4 49 = .ok (.bipush 63, 2) := by decide +kernel
theorem dJ6_bitCount_0f7a4_51 : decode cJ6_bitCount_0f7a4 51 = .ok (.iand, 1) := by decide +kernel
theorem dJ6_bitCount_0f7a4_52 : decode cJ6_bitCount_0f7a4 52 = .ok (.ireturn, 1) := by decide +kernel
theorem dJ9_max_7cf53_0 : decode cJ9_max_7cf53 0 = .ok (.iload_n 0, 1) := by decide +kernel
theorem dJ9_max_7cf53_1 : decode cJ9_max_7cf53 1 = .ok (.iload_n 1, 1) := by decide +kernel
theorem dJ9_max_7cf53_2 : decode cJ9_max_7cf53 2 = .ok (.if_icmp .lt 7, 3) := by decide +kernel
theorem dJ9_max_7cf53_5 : decode cJ9_max_7cf53 5 = .ok (.iload_n 0, 1) := by decide +kernel
theorem dJ9_max_7cf53_6 : decode cJ9_max_7cf53 6 = .ok (.goto 4, 3) := by decide +kernel
theorem dJ9_max_7cf53_9 : decode cJ9_max_7cf53 9 = .ok (.iload_n 1, 1) := by decide +kernel
theorem dJ9_max_7cf53_10 : decode cJ9_max_7cf53 10 = .ok (.ireturn, 1) := by decide +kernel
theorem dJ9_min_7cf53_0 : decode cJ9_min_7cf53 0 = .ok (.iload_n 0, 1) := by decide +kernel
theorem dJ9_min_7cf53_1 : decode cJ9_min_7cf53 1 = .ok (.iload_n 1, 1) := by decide +kernel
theorem dJ9_min_7cf53_2 : decode cJ9_min_7cf53 2 = .ok (.if_icmp .gt 7, 3) := by decide +kernel
theorem dJ9_min_7cf53_5 : decode cJ9_min_7cf53 5 = .ok (.iload_n 0, 1) := by decide +kernel
theorem dJ9_min_7cf53_6 : decode cJ9_min_7cf53 6 = .ok (.goto 4, 3) := by decide +kernel
theorem dJ9_min_7cf53_9 : decode cJ9_min_7cf53 9 = .ok (.iload_n 1, 1) := by decide +kernel
theorem dJ9_min_7cf53_10 : decode cJ9_min_7cf53 10 = .ok (.ireturn, 1) := by decide +kernel
theorem dJ0_length_8abf5_0 : decode cJ0_length_8abf5 0 = .ok (.aload_n 0, 1) := by decide +kernel
theorem dJ0_length_8abf5_1 : decode cJ0_length_8abf5 1 = .ok (.getfield 9, 3) := by decide +kernel
theorem dJ0_length_8abf5_4 : decode cJ0_length_8abf5 4 = .ok (.arraylength, 1) := by decide +kernel
theorem dJ0_length_8abf5_5 : decode cJ0_length_8abf5 5 = .ok (.aload_n 0, 1) := by decide +kernel
theorem dJ0_length_8abf5_6 : decode cJ0_length_8abf5 6 = .ok (.invokevirtual 335, 3) := by decide +kernel
theorem dJ0_length_8abf5_9 : decode cJ0_length_8abf5 9 = .ok (.ishr, 1) := by decide +kernel
theorem dJ0_length_8abf5_10 : decode cJ0_length_8abf5 10 = .ok (.ireturn, 1) := by decide +kernel
theorem dJ0_charAt_5068e_0 : decode cJ0_charAt_5068e 0 = .ok (.aload_n 0, 1) := by decide +kernel
theorem dJ0_charAt_5068e_1 : decode cJ0_charAt_5068e 1 = .ok (.invokevirtual 492, 3) := by decide +kernel
theorem dJ0_charAt_5068e_4 : decode cJ0_charAt_5068e 4 = .ok (.ifCond .eq 12, 3) := by decide +kernel
theorem dJ0_charAt_5068e_7 : decode cJ0_charAt_5068e 7 = .ok (.aload_n 0, 1) := by decide +kernel
theorem dJ0_charAt_5068e_8 : decode cJ0_charAt_5068e 8 = .ok (.getfield 9, 3) := by decide +kernel
theorem dJ0_charAt_5068e_11 : decode cJ0_charAt_5068e 11 = .ok (.iload_n 1, 1) := by decide +kernel
theorem dJ0_charAt_5068e_12 : decode cJ0_charAt_5068e 12 = .ok (.invokestatic 495, 3) := by decide +kernel
theorem dJ0_charAt_5068e_15 : decode cJ0_charAt_5068e 15 = .ok (.ireturn, 1) := by decide +kernel
theorem dJ0_charAt_5068e_16 : decode cJ0_charAt_5068e 16 = .ok (.aload_n 0, 1) := by decide +kernel
theorem dJ0_charAt_5068e_17 : decode cJ0_charAt_5068e 17 = .ok (.getfield 9, 3) := by decide +kernel
theorem dJ0_charAt_5068e_20 : decode cJ0_charAt_5068e 20 = .ok (.iload_n 1, 1) := by decide +kernel
theorem dJ0_charAt_5068e_21 : decode cJ0_charAt_5068e 21 = .ok (.invokestatic 498, 3) := by decide +kernel
theorem dJ0_charAt_5068e_24 : decode cJ0_charAt_5068e 24 = .ok (.ireturn, 1) := by decide +kernel
theorem dJ0_indexOf_0f7a4_0 : decode cJ0_indexOf_0f7a4 0 = .ok (.aload_n 0, 1) := by decide +kernel
theorem dJ0_indexOf_0f7a4_1 : decode cJ0_indexOf_0f7a4 1 = .ok (.iload_n 1, 1) := by decide +kernel
theorem dJ0_indexOf_0f7a4_2 : decode cJ0_indexOf_0f7a4 2 = .ok (.iconst 0, 1) := by decide +kernel
theorem dJ0_indexOf_0f7a4_3 : decode cJ0_indexOf_0f7a4 3 = .ok (.invokevirtual 633, 3) := by decide +kernel
theorem dJ0_indexOf_0f7a4_6 : decode cJ0_indexOf_0f7a4 6 = .ok (.ireturn, 1) := by decide +kernel
theorem dJ0_indexOf_7cf53_0 : decode cJ0_indexOf_7cf53 0 = .ok (.aload_n 0, 1) := by decide +kernel
theorem dJ0_indexOf_7cf53_1 : decode cJ0_indexOf_7cf53 1 = .ok (.invokevirtual 492, 3) := by decide +kernel
theorem dJ0_indexOf_7cf53_4 : decode cJ0_indexOf_7cf53 4 = .ok (.ifCond .eq 19, 3) := by decide +kernel
theorem dJ0_indexOf_7cf53_7 : decode cJ0_indexOf_7cf53 7 = .ok (.aload_n 0, 1) := by decide +kernel
theorem dJ0_indexOf_7cf53_8 : decode cJ0_indexOf_7cf53 8 = .ok (.getfield 9, 3) := by decide +kernel
theorem dJ0_indexOf_7cf53_11 : decode cJ0_indexOf_7cf53 11 = .ok (.iload_n 1, 1) := by decide +kernel
theorem dJ0_indexOf_7cf53_12 : decode cJ0_indexOf_7cf53 12 = .ok (.iload_n 2, 1) := by decide +kernel
theorem dJ0_indexOf_7cf53_13 : decode cJ0_indexOf_7cf53 13 = .ok (.aload_n 0, 1) := by decide +kernel
theorem dJ0_indexOf_7cf53_14 : decode cJ0_indexOf_7cf53 14 = .ok (.invokevirtual 505, 3) := by decide +kernel
theorem dJ0_indexOf_7cf53_17 : decode cJ0_indexOf_7cf53 17 = .ok (.invokestatic 637, 3) := by decide +kernel
theorem dJ0_indexOf_7cf53_20 : decode cJ0_indexOf_7cf53 20 = .ok (.goto 16, 3) := by decide +kernel
theorem dJ0_indexOf_7cf53_23 : decode cJ0_indexOf_7cf53 23 = .ok (.aload_n 0, 1) := by decide +kernel
theorem dJ0_indexOf_7cf53_24 : decode cJ0_indexOf_7cf53 24 = .ok (.getfield 9, 3) := by decide +kernel
theorem dJ0_indexOf_7cf53_27 : decode cJ0_indexOf_7cf53 27 = .ok (.iload_n 1, 1) := by decide +kernel
theorem dJ0_indexOf_7cf53_28 : decode cJ0_indexOf_7cf53 28 = .ok (.iload_n 2, 1) := by decide +kernel
theorem dJ0_indexOf_7cf53_29 : decode cJ0_indexOf_7cf53 29 = .ok (.aload_n 0, 1) := by decide +kernel
theorem dJ0_indexOf_7cf53_30 : decode cJ0_indexOf_7cf53 30 = .ok (.invokevirtual 505, 3) := by decide +kernel
theorem dJ0_indexOf_7cf53_33 : decode cJ0_indexOf_7cf53 33 = .ok (.invokestatic 640, 3) := by decide +kernel
theorem dJ0_indexOf_7cf53_36 : decode cJ0_indexOf_7cf53 36 = .ok (.ireturn, 1) := by decide +kernel
theorem dJ0_coder_7d493_0 : decode cJ0_coder_7d493 0 = .ok (.getstatic 38, 3) := by decide +kernel
theorem dJ0_coder_7d493_3 : decode cJ0_coder_7d493 3 = .ok (.ifCond .eq 10, 3) := by decide +kernel
theorem dJ0_coder_7d493_6 : decode cJ0_coder_7d493 6 = .ok (.aload_n 0, 1) := by decide +kernel
theorem dJ0_coder_7d493_7 : decode cJ0_coder_7d493 7 = .ok (.getfield 15, 3) := by decide +kernel
theorem dJ0_coder_7d493_10 : decode cJ0_coder_7d493 10 = .ok (.goto 4, 3) := by decide +kernel
theorem dJ0_coder_7d493_13 : decode cJ0_coder_7d493 13 = .ok (.iconst 1, 1) := by decide +kernel
theorem dJ0_coder_7d493_14 : decode cJ0_coder_7d493 14 = .ok (.ireturn, 1) := by decide +kernel
theorem dJ0_isLatin1_aae02_0 : decode cJ0_isLatin1_aae02 0 = .ok (.getstatic 38, 3) := by decide +kernel
theorem dJ0_isLatin1_aae02_3 : decode cJ0_isLatin1_aae02 3 = .ok (.ifCond .eq 14, 3) := by decide +kernel
theorem dJ0_isLatin1_aae02_6 : decode cJ0_isLatin1_aae02 6 = .ok (.aload_n 0, 1) := by decide +kernel
theorem dJ0_isLatin1_aae02_7 : decode cJ0_isLatin1_aae02 7 = .ok (.getfield 15, 3) := by decide +kernel
theorem dJ0_isLatin1_aae02_10 : decode cJ0_isLatin1_aae02 10 = .ok (.ifCond .ne 7, 3) := by decide +kernel
theorem dJ0_isLatin1_aae02_13 : decode cJ0_isLatin1_aae02 13 = .ok (.iconst 1, 1) := by decide +kernel
theorem dJ0_isLatin1_aae02_14 : decode cJ0_isLatin1_aae02 14 = .ok (.goto 4, 3) := by decide +kernel
theorem dJ0_isLatin1_aae02_17 : decode cJ0_isLatin1_aae02 17 = .ok (.iconst 0, 1) := by decide +kernel
theorem dJ0_isLatin1_aae02_18 : decode cJ0_isLatin1_aae02 18 = .ok (.ireturn, 1) := by decide +kernel
theorem dJ0_checkIndex_df160_0 : decode cJ0_checkIndex_df160 0 = .ok (.iload_n 0, 1) := by decide +kernel
theorem dJ0_checkIndex_df160_1 : decode cJ0_checkIndex_df160 1 = .ok (.iload_n 1, 1) := by decide +kernel
theorem dJ0_checkIndex_df160_2 : decode cJ0_checkIndex_df160 2 = .ok (.getstatic 1053, 3) := by decide +kernel
theorem dJ0_checkIndex_df160_5 : decode cJ0_checkIndex_df160 5 = .ok (.invokestatic 1059, 3) := by decide +kernel
theorem dJ0_checkIndex_df160_8 : decode cJ0_checkIndex_df160 8 = .ok (.pop, 1) := by decide +kernel
theorem dJ0_checkIndex_df160_9 : decode cJ0_checkIndex_df160 9 = .ok (.return_, 1) := by decide +kernel
theorem dJ0_checkBoundsBeginEnd_23922_0 : decode cJ0_checkBoundsBeginEnd_23922 0 = .ok (.iload_n 0, 1) := by decide +kernel
theorem dJ0_checkBoundsBeginEnd_23922_1 : decode cJ0_checkBoundsBeginEnd_23922 1 = .ok (.iload_n 1, 1) := by decide +kernel
theorem dJ0_checkBoundsBeginEnd_23922_2 : decode cJ0_checkBoundsBeginEnd_23922 2 = .ok (.iload_n 2, 1) := by decide +kernel
theorem dJ0_checkBoundsBeginEnd_23922_3 : decode cJ0_checkBoundsBeginEnd_23922 3 = .ok (.getstatic 1053, 3) := by decide +kernel
theorem dJ0_checkBoundsBeginEnd_23922_6 : decode cJ0_checkBoundsBeginEnd_23922 6 = .ok (.invokestatic 1062, 3) := by decide +kernel
theorem dJ0_checkBoundsBeginEnd_23922_9 : decode cJ0_checkBoundsBeginEnd_23922 9 = .ok (.pop, 1) := by decide +kernel
theorem dJ0_checkBoundsBeginEnd_23922_10 : decode cJ0_checkBoundsBeginEnd_23922 10 = .ok (.return_, 1) := by decide +kernel
theorem dJ1_charAt_3b067_0 : decode cJ1_charAt_3b067 0 = .ok (.iload_n 1, 1) := by decide +kernel
theorem dJ1_charAt_3b067_1 : decode cJ1_charAt_3b067 1 = .ok (.aload_n 0, 1) := by decide +kernel
theorem dJ1_charAt_3b067_2 : decode cJ1_charAt_3b067 2 = .ok (.arraylength, 1) := by decide +kernel
theorem dJ1_charAt_3b067_3 : decode cJ1_charAt_3b067 3 = .ok (.invokestatic 9, 3) := by decide +kernel
theorem dJ1_charAt_3b067_6 : decode cJ1_charAt_3b067 6 = .ok (.aload_n 0, 1) := by decide +kernel
theorem dJ1_charAt_3b067_7 : decode cJ1_charAt_3b067 7 = .ok (.iload_n 1, 1) := by decide +kernel
theorem dJ1_charAt_3b067_8 : decode cJ1_charAt_3b067 8 = .ok (.baload, 1) := by decide +kernel
theorem dJ1_charAt_3b067_9 : decode cJ1_charAt_3b067 9 = .ok (.sipush 255, 3) := by decide +kernel
theorem dJ1_charAt_3b067_12 : decode cJ1_charAt_3b067 12 = .ok (.iand, 1) := by decide +kernel
theorem dJ1_charAt_3b067_13 : decode cJ1_charAt_3b067 13 = .ok (.i2c, 1) := by decide +kernel
theorem dJ1_charAt_3b067_14 : decode cJ1_charAt_3b067 14 = .ok (.ireturn, 1) := by decide +kernel
theorem dJ1_canEncode_9a6ad_0 : decode cJ1_canEncode_9a6ad 0 = .ok (.iload_n 0, 1) := by decide +kernel
theorem dJ1_canEncode_9a6ad_1 : decode cJ1_canEncode_9a6ad 1 = .ok (.ifCond .lt 14, 3) := by decide +kernel
theorem dJ1_canEncode_9a6ad_4 : decode cJ1_canEncode_9a6ad 4 = .ok (.iload_n 0, 1) := by decide +kernel
theorem dJ1_canEncode_9a6ad_5 : decode cJ1_canEncode_9a6ad 5 = .ok (.sipush 255, 3) := by decide +kernel
theorem dJ1_canEncode_9a6ad_8 : decode cJ1_canEncode_9a6ad 8 = .ok (.if_icmp .gt 7, 3) := by decide +kernel
theorem dJ1_canEncode_9a6ad_11 : decode cJ1_canEncode_9a6ad 11 = .ok (.iconst 1, 1) := by decide +kernel
theorem dJ1_canEncode_9a6ad_12 : decode cJ1_canEncode_9a6ad 12 = .ok (.goto 4, 3) := by decide +kernel
theorem dJ1_canEncode_9a6ad_15 : decode cJ1_canEncode_9a6ad 15 = .ok (.iconst 0, 1) := by decide +kernel
theorem dJ1_canEncode_9a6ad_16 : decode cJ1_canEncode_9a6ad 16 = .ok (.ireturn, 1) := by decide +kernel
theorem dJ1_indexOf_4cfef_0 : decode cJ1_indexOf_4cfef 0 = .ok (.iload_n 1, 1) := by decide +kernel
theorem dJ1_indexOf_4cfef_1 : decode cJ1_indexOf_4cfef 1 = .ok (.invokestatic 88, 3) := by decide +kernel
theorem dJ1_indexOf_4cfef_4 : decode cJ1_indexOf_4cfef 4 = .ok (.ifCond .ne 5, 3) := by decide +kernel
theorem dJ1_indexOf_4cfef_7 : decode cJ1_indexOf_4cfef 7 = .ok (.iconst (-1), 1) := by decide +kernel
theorem dJ1_indexOf_4cfef_8 : decode cJ1_indexOf_4cfef 8 = .ok (.ireturn, 1) := by decide +kernel
theorem dJ1_indexOf_4cfef_9 : decode cJ1_indexOf_4cfef 9 = .ok (.iload_n 2, 1) := by decide +kernel
theorem dJ1_indexOf_4cfef_10 : decode cJ1_indexOf_4cfef 10 = .ok (.iconst 0, 1) := by decide +kernel
theorem dJ1_indexOf_4cfef_11 : decode cJ1_indexOf_4cfef 11 = .ok (.invokestatic 92, 3) := by decide +kernel
theorem dJ1_indexOf_4cfef_14 : decode cJ1_indexOf_4cfef 14 = .ok (.istore_n 2, 1) := by decide +kernel
theorem dJ1_indexOf_4cfef_15 : decode cJ1_indexOf_4cfef 15 = .ok (.iload_n 3, 1) := by decide +kernel
theorem dJ1_indexOf_4cfef_16 : decode cJ1_indexOf_4cfef 16 = .ok (.aload_n 0, 1) := by decide +kernel
theorem dJ1_indexOf_4cfef_17 : decode cJ1_indexOf_4cfef 17 = .ok (.arraylength, 1) := by decide +kernel
theorem dJ1_indexOf_4cfef_18 : decode cJ1_indexOf_4cfef 18 = .ok (.invokestatic 38, 3) := by decide +kernel
theorem dJ1_indexOf_4cfef_21 : decode cJ1_indexOf_4cfef 21 = .ok (.istore_n 3, 1) := by decide +kernel
theorem dJ1_indexOf_4cfef_22 : decode cJ1_indexOf_4cfef 22 = .ok (.iload_n 2, 1) := by decide +kernel
theorem dJ1_indexOf_4cfef_23 : decode cJ1_indexOf_4cfef 23 = .ok (.iload_n 3, 1) := by decide +kernel
theorem dJ1_indexOf_4cfef_24 : decode cJ1_indexOf_4cfef 24 = .ok (.if_icmp .lt 5, 3) := by decide +kernel
theorem dJ1_indexOf_4cfef_27 : decode cJ1_indexOf_4cfef 27 = .ok (.iconst (-1), 1) := by decide +kernel
theorem dJ1_indexOf_4cfef_28 : decode cJ1_indexOf_4cfef 28 = .ok (.ireturn, 1) := by decide +kernel
theorem dJ1_indexOf_4cfef_29 : decode cJ1_indexOf_4cfef 29 = .ok (.aload_n 0, 1) := by decide +kernel
theorem dJ1_indexOf_4cfef_30 : decode cJ1_indexOf_4cfef 30 = .ok (.iload_n 1, 1) := by decide +kernel
theorem dJ1_indexOf_4cfef_31 : decode cJ1_indexOf_4cfef 31 = .ok (.iload_n 2, 1) := by decide +kernel
theorem dJ1_indexOf_4cfef_32 : decode cJ1_indexOf_4cfef 32 = .ok (.iload_n 3, 1) := by decide +kernel
theorem dJ1_indexOf_4cfef_33 : decode cJ1_indexOf_4cfef 33 = .ok (.invokestatic 95, 3) := by decide +kernel
theorem dJ1_indexOf_4cfef_36 : decode cJ1_indexOf_4cfef 36 = .ok (.ireturn, 1) := by decide +kernel
theorem dJ1_indexOfChar_4cfef_0 : decode cJ1_indexOfChar_4cfef 0 = .ok (.iload_n 1, 1) := by decide +kernel
theorem dJ1_indexOfChar_4cfef_1 : decode cJ1_indexOfChar_4cfef 1 = .ok (.i2b, 1) := by decide +kernel
theorem dJ1_indexOfChar_4cfef_2 : decode cJ1_indexOfChar_4cfef 2 = .ok (.istore 4, 2) := by decide +kernel
theorem dJ1_indexOfChar_4cfef_4 : decode cJ1_indexOfChar_4cfef 4 = .ok (.iload_n 2, 1) := by decide +kernel
theorem dJ1_indexOfChar_4cfef_5 : decode cJ1_indexOfChar_4cfef 5 = .ok (.istore 5, 2) := by decide +kernel
theorem dJ1_indexOfChar_4cfef_7 : decode cJ1_indexOfChar_4cfef 7 = .ok (.iload 5, 2) := by decide +kernel
theorem dJ1_indexOfChar_4cfef_9 : decode cJ1_indexOfChar_4cfef 9 = .ok (.iload_n 3, 1) := by decide +kernel
theorem dJ1_indexOfChar_4cfef_10 : decode cJ1_indexOfChar_4cfef 10 = .ok (.if_icmp .ge 21, 3) := by decide +kernel
theorem dJ1_indexOfChar_4cfef_13 : decode cJ1_indexOfChar_4cfef 13 = .ok (.aload_n 0, 1) := by decide +kernel
theorem dJ1_indexOfChar_4cfef_14 : decode cJ1_indexOfChar_4cfef 14 = .ok (.iload 5, 2) := by decide +kernel
theorem dJ1_indexOfChar_4cfef_16 : decode cJ1_indexOfChar_4cfef 16 = .ok (.baload, 1) := by decide +kernel
theorem dJ1_indexOfChar_4cfef_17 : decode cJ1_indexOfChar_4cfef 17 = .ok (.iload 4, 2) := by decide +kernel
theorem dJ1_indexOfChar_4cfef_19 : decode cJ1_indexOfChar_4cfef 19 = .ok (.if_icmp .ne 6, 3) := by decide +kernel
theorem dJ1_indexOfChar_4cfef_22 : decode cJ1_indexOfChar_4cfef 22 = .ok (.iload 5, 2) := by decide +kernel
theorem dJ1_indexOfChar_4cfef_24 : decode cJ1_indexOfChar_4cfef 24 = .ok (.ireturn, 1) := by decide +kernel
theorem dJ1_indexOfChar_4cfef_25 : decode cJ1_indexOfChar_4cfef 25 = .ok (.iinc 5 1, 3) := by decide +kernel
theorem dJ1_indexOfChar_4cfef_28 : decode cJ1_indexOfChar_4cfef 28 = .ok (.goto (-21), 3) := by decide +kernel
theorem dJ1_indexOfChar_4cfef_31 : decode cJ1_indexOfChar_4cfef 31 = .ok (.iconst (-1), 1) := by decide +kernel
theorem dJ1_indexOfChar_4cfef_32 : decode cJ1_indexOfChar_4cfef 32 = .ok (.ireturn, 1) := by decide +kernel
theorem dJ2_getChar_3b067_0 : decode cJ2_getChar_3b067 0 = .ok (.getstatic 44, 3) := by decide +kernel
theorem dJ2_getChar_3b067_3 : decode cJ2_getChar_3b067 3 = .ok (.ifCond .ne 25, 3) := by decide +kernel
theorem dJ2_getChar_3b067_6 : decode cJ2_getChar_3b067 6 = .ok (.iload_n 1, 1) := by decide +kernel
theorem dJ2_getChar_3b067_7 : decode cJ2_getChar_3b067 7 = .ok (.ifCond .lt 11, 3) := by decide +kernel
theorem dJ2_getChar_3b067_10 : decode cJ2_getChar_3b067 10 = .ok (.iload_n 1, 1) := by decide +kernel
theorem dJ2_getChar_3b067_11 : decode cJ2_getChar_3b067 11 = .ok (.aload_n 0, 1) := by decide +kernel
theorem dJ2_getChar_3b067_12 : decode cJ2_getChar_3b067 12 = .ok (.invokestatic 48, 3) := by decide +kernel
theorem dJ2_getChar_3b067_15 : decode cJ2_getChar_3b067 15 = .ok (.if_icmp .lt 13, 3) := by decide +kernel
theorem dJ2_getChar_3b067_18 : decode cJ2_getChar_3b067 18 = .ok (.new 52, 3) := by decide +kernel
theorem dJ2_getChar_3b067_21 : decode cJ2_getChar_3b067 21 = .ok (.dup, 1) := by decide +kernel
theorem dJ2_getChar_3b067_22 : decode cJ2_getChar_3b067 22 = .ok (.ldc 54, 2) := by decide +kernel
theorem dJ2_getChar_3b067_24 : decode cJ2_getChar_3b067 24 = .ok (.invokespecial 56, 3) := by decide +kernel
theorem dJ2_getChar_3b067_27 : decode cJ2_getChar_3b067 27 = .ok (.athrow, 1) := by decide +kernel
theorem dJ2_getChar_3b067_28 : decode cJ2_getChar_3b067 28 = .ok (.iload_n 1, 1) := by decide +kernel
theorem dJ2_getChar_3b067_29 : decode cJ2_getChar_3b067 29 = .ok (.iconst 1, 1) := by decide +kernel
theorem dJ2_getChar_3b067_30 : decode cJ2_getChar_3b067 30 = .ok (.ishl, 1) := by decide +kernel
theorem dJ2_getChar_3b067_31 : decode cJ2_getChar_3b067 31 = .ok (.istore_n 1, 1) := by decide +kernel
theorem dJ2_getChar_3b067_32 : decode cJ2_getChar_3b067 32 = .ok (.aload_n 0, 1) := by decide +kernel
theorem dJ2_getChar_3b067_33 : decode cJ2_getChar_3b067 33 = .ok (.iload_n 1, 1) := by decide +kernel
theorem dJ2_getChar_3b067_34 : decode cJ2_getChar_3b067 34 = .ok (.iinc 1 1, 3) := by decide +kernel
theorem dJ2_getChar_3b067_37 : decode cJ2_getChar_3b067 37 = .ok (.baload, 1) := by decide +kernel
theorem dJ2_getChar_3b067_38 : decode cJ2_getChar_3b067 38 = .ok (.sipush 255, 3) := by decide +kernel
theorem dJ2_getChar_3b067_41 : decode cJ2_getChar_3b067 41 = .ok (.iand, 1) := by decide +kernel
theorem dJ2_getChar_3b067_42 : decode cJ2_getChar_3b067 42 = .ok (.getstatic 59, 3) := by decide +kernel
theorem dJ2_getChar_3b067_45 : decode cJ2_getChar_3b067 45 = .ok (.ishl, 1) := by decide +kernel
theorem dJ2_getChar_3b067_46 : decode cJ2_getChar_3b067 46 = .ok (.aload_n 0, 1) := by decide +kernel
theorem dJ2_getChar_3b067_47 : decode cJ2_getChar_3b067 47 = .ok (.iload_n 1, 1) := by decide +kernel
theorem dJ2_getChar_3b067_48 : decode cJ2_getChar_3b067 48 = .ok (.baload, 1) := by decide +kernel
theorem dJ2_getChar_3b067_49 : decode cJ2_getChar_3b067 49 = .ok (.sipush 255, 3) := by decide +kernel
theorem dJ2_getChar_3b067_52 : decode cJ2_getChar_3b067 52 = .ok (.iand, 1) := by decide +kernel
theorem dJ2_getChar_3b067_53 : decode cJ2_getChar_3b067 53 = .ok (.getstatic 63, 3) := by decide +kernel
theorem dJ2_getChar_3b067_56 : decode cJ2_getChar_3b067 56 = .ok (.ishl, 1) := by decide +kernel
theorem dJ2_getChar_3b067_57 : decode cJ2_getChar_3b067 57 = .ok (.ior, 1) := by decide +kernel
theorem dJ2_getChar_3b067_58 : decode cJ2_getChar_3b067 58 = .ok (.i2c, 1) := by decide +kernel
theorem dJ2_getChar_3b067_59 : decode cJ2_getChar_3b067 59 = .ok (.ireturn, 1) := by decide +kernel
theorem dJ2_length_9d52b_0 : decode cJ2_length_9d52b 0 = .ok (.aload_n 0, 1) := by decide +kernel
theorem dJ2_length_9d52b_1 : decode cJ2_length_9d52b 1 = .ok (.arraylength, 1) := by decide +kernel
theorem dJ2_length_9d52b_2 : decode cJ2_length_9d52b 2 = .ok (.iconst 1, 1) := by decide +kernel
theorem dJ2_length_9d52b_3 : decode cJ2_length_9d52b 3 = .ok (.ishr, 1) := by decide +kernel
theorem dJ2_length_9d52b_4 : decode cJ2_length_9d52b 4 = .ok (.ireturn, 1) := by decide +kernel
theorem dJ2_indexOf_4cfef_0 : decode cJ2_indexOf_4cfef 0 = .ok (.iload_n 2, 1) := by decide +kernel
theorem dJ2_indexOf_4cfef_1 : decode cJ2_indexOf_4cfef 1 = .ok (.iconst 0, 1) := by decide +kernel
theorem dJ2_indexOf_4cfef_2 : decode cJ2_indexOf_4cfef 2 = .ok (.invokestatic 224, 3) := by decide +kernel
theorem dJ2_indexOf_4cfef_5 : decode cJ2_indexOf_4cfef 5 = .ok (.istore_n 2, 1) := by decide +kernel
theorem dJ2_indexOf_4cfef_6 : decode cJ2_indexOf_4cfef 6 = .ok (.iload_n 3, 1) := by decide +kernel
theorem dJ2_indexOf_4cfef_7 : decode cJ2_indexOf_4cfef 7 = .ok (.aload_n 0, 1) := by decide +kernel
theorem dJ2_indexOf_4cfef_8 : decode cJ2_indexOf_4cfef 8 = .ok (.arraylength, 1) := by decide +kernel
theorem dJ2_indexOf_4cfef_9 : decode cJ2_indexOf_4cfef 9 = .ok (.iconst 1, 1) := by decide +kernel
theorem dJ2_indexOf_4cfef_10 : decode cJ2_indexOf_4cfef 10 = .ok (.ishr, 1) := by decide +kernel
theorem dJ2_indexOf_4cfef_11 : decode cJ2_indexOf_4cfef 11 = .ok (.invokestatic 183, 3) := by decide +kernel
theorem dJ2_indexOf_4cfef_14 : decode cJ2_indexOf_4cfef 14 = .ok (.istore_n 3, 1) := by decide +kernel
theorem dJ2_indexOf_4cfef_15 : decode cJ2_indexOf_4cfef 15 = .ok (.iload_n 2, 1) := by decide +kernel
theorem dJ2_indexOf_4cfef_16 : decode cJ2_indexOf_4cfef 16 = .ok (.iload_n 3, 1) := by decide +kernel
theorem dJ2_indexOf_4cfef_17 : decode cJ2_indexOf_4cfef 17 = .ok (.if_icmp .lt 5, 3) := by decide +kernel
theorem dJ2_indexOf_4cfef_20 : decode cJ2_indexOf_4cfef 20 = .ok (.iconst (-1), 1) := by decide +kernel
theorem dJ2_indexOf_4cfef_21 : decode cJ2_indexOf_4cfef 21 = .ok (.ireturn, 1) := by decide +kernel
theorem dJ2_indexOf_4cfef_22 : decode cJ2_indexOf_4cfef 22 = .ok (.iload_n 1, 1) := by decide +kernel
theorem dJ2_indexOf_4cfef_23 : decode cJ2_indexOf_4cfef 23 = .ok (.ldc 227, 2) := by decide +kernel
theorem dJ2_indexOf_4cfef_25 : decode cJ2_indexOf_4cfef 25 = .ok (.if_icmp .ge 11, 3) := by decide +kernel
theorem dJ2_indexOf_4cfef_28 : decode cJ2_indexOf_4cfef 28 = .ok (.aload_n 0, 1) := by decide +kernel
theorem dJ2_indexOf_4cfef_29 : decode cJ2_indexOf_4cfef 29 = .ok (.iload_n 1, 1) := by decide +kernel
theorem dJ2_indexOf_4cfef_30 : decode cJ2_indexOf_4cfef 30 = .ok (.iload_n 2, 1) := by decide +kernel
theorem dJ2_indexOf_4cfef_31 : decode cJ2_indexOf_4cfef 31 = .ok (.iload_n 3, 1) := by decide +kernel
theorem dJ2_indexOf_4cfef_32 : decode cJ2_indexOf_4cfef 32 = .ok (.invokestatic 228, 3) := by decide +kernel
theorem dJ2_indexOf_4cfef_35 : decode cJ2_indexOf_4cfef 35 = .ok (.ireturn, 1) := by decide +kernel
theorem dJ2_indexOf_4cfef_36 : decode cJ2_indexOf_4cfef 36 = .ok (.aload_n 0, 1) := by decide +kernel
theorem dJ2_indexOf_4cfef_37 : decode cJ2_indexOf_4cfef 37 = .ok (.iload_n 1, 1) := by decide +kernel
theorem dJ2_indexOf_4cfef_38 : decode cJ2_indexOf_4cfef 38 = .ok (.iload_n 2, 1) := by decide +kernel
theorem dJ2_indexOf_4cfef_39 : decode cJ2_indexOf_4cfef 39 = .ok (.iload_n 3, 1) := by decide +kernel
theorem dJ2_indexOf_4cfef_40 : decode cJ2_indexOf_4cfef 40 = .ok (.invokestatic 232, 3) := by decide +kernel
theorem dJ2_indexOf_4cfef_43 : decode cJ2_indexOf_4cfef 43 = .ok (.ireturn, 1) := by decide +kernel
theorem dJ2_indexOfChar_4cfef_0 : decode cJ2_indexOfChar_4cfef 0 = .ok (.iload_n 2, 1) := by decide +kernel
theorem dJ2_indexOfChar_4cfef_1 : decode cJ2_indexOfChar_4cfef 1 = .ok (.iload_n 3, 1) := by decide +kernel
theorem dJ2_indexOfChar_4cfef_2 : decode cJ2_indexOfChar_4cfef 2 = .ok (.aload_n 0, 1) := by decide +kernel
theorem dJ2_indexOfChar_4cfef_3 : decode cJ2_indexOfChar_4cfef 3 = .ok (.invokestatic 96, 3) := by decide +kernel
theorem dJ2_indexOfChar_4cfef_6 : decode cJ2_indexOfChar_4cfef 6 = .ok (.aload_n 0, 1) := by decide +kernel
theorem dJ2_indexOfChar_4cfef_7 : decode cJ2_indexOfChar_4cfef 7 = .ok (.iload_n 1, 1) := by decide +kernel
theorem dJ2_indexOfChar_4cfef_8 : decode cJ2_indexOfChar_4cfef 8 = .ok (.iload_n 2, 1) := by decide +kernel
theorem dJ2_indexOfChar_4cfef_9 : decode cJ2_indexOfChar_4cfef 9 = .ok (.iload_n 3, 1) := by decide +kernel
theorem dJ2_indexOfChar_4cfef_10 : decode cJ2_indexOfChar_4cfef 10 = .ok (.invokestatic 244, 3) := by decide +kernel
theorem dJ2_indexOfChar_4cfef_13 : decode cJ2_indexOfChar_4cfef 13 = .ok (.ireturn, 1) := by decide +kernel
theorem dJ2_indexOfCharUnsafe_4cfef_0 : decode cJ2_indexOfCharUnsafe_4cfef 0 = .ok (.iload_n 2, 1) := by decide +kernel
theorem dJ2_indexOfCharUnsafe_4cfef_1 : decode cJ2_indexOfCharUnsafe_4cfef 1 = .ok (.istore 4, 2) := by decide +kernel
theorem dJ2_indexOfCharUnsafe_4cfef_3 : decode cJ2_indexOfCharUnsafe_4cfef 3 = .ok (.iload 4, 2) := by decide +kernel
theorem dJ2_indexOfCharUnsafe_4cfef_5 : decode cJ2_indexOfCharUnsafe_4cfef 5 = .ok (.iload_n 3, 1) := by decide +kernel
theorem dJ2_indexOfCharUnsafe_4cfef_6 : decode cJ2_indexOfCharUnsafe_4cfef 6 = .ok (.if_icmp .ge 22, 3) := by decide +kernel
theorem dJ2_indexOfCharUnsafe_4cfef_9 : decode cJ2_indexOfCharUnsafe_4cfef 9 = .ok (.aload_n 0, 1) := by decide +kernel
theorem dJ2_indexOfCharUnsafe_4cfef_10 : decode cJ2_indexOfCharUnsafe_4cfef 10 = .ok (.iload 4, 2) := by decide +kernel
theorem dJ2_indexOfCharUnsafe_4cfef_12 : decode cJ2_indexOfCharUnsafe_4cfef 12 = .ok (.invokestatic 71, 3) := by decide +kernel
theorem dJ2_indexOfCharUnsafe_4cfef_15 : decode cJ2_indexOfCharUnsafe_4cfef 15 = .ok (.iload_n 1, 1) := by decide +kernel
theorem dJ2_indexOfCharUnsafe_4cfef_16 : decode cJ2_indexOfCharUnsafe_4cfef 16 = .ok (.if_icmp .ne 6, 3) := by decide +kernel
theorem dJ2_indexOfCharUnsafe_4cfef_19 : decode cJ2_indexOfCharUnsafe_4cfef 19 = .ok (.iload 4, 2) := by decide +kernel
theorem dJ2_indexOfCharUnsafe_4cfef_21 : decode cJ2_indexOfCharUnsafe_4cfef 21 = .ok (.ireturn, 1) := by decide +kernel
theorem dJ2_indexOfCharUnsafe_4cfef_22 : decode cJ2_indexOfCharUnsafe_4cfef 22 = .ok (.iinc 4 1, 3) := by decide +kernel
theorem dJ2_indexOfCharUnsafe_4cfef_25 : decode cJ2_indexOfCharUnsafe_4cfef 25 = .ok (.goto (-22), 3) := by decide +kernel
theorem dJ2_indexOfCharUnsafe_4cfef_28 : decode cJ2_indexOfCharUnsafe_4cfef 28 = .ok (.iconst (-1), 1) := by decide +kernel
theorem dJ2_indexOfCharUnsafe_4cfef_29 : decode cJ2_indexOfCharUnsafe_4cfef 29 = .ok (.ireturn, 1) := by decide +kernel
theorem dJ2_indexOfSupplementary_4cfef_0 : decode cJ2_indexOfSupplementary_4cfef 0 = .ok (.iload_n 1, 1) := by decide +kernel
theorem dJ2_indexOfSupplementary_4cfef_1 : decode cJ2_indexOfSupplementary_4cfef 1 = .ok (.invokestatic 164, 3) := by decide +kernel
theorem dJ2_indexOfSupplementary_4cfef_4 : decode cJ2_indexOfSupplementary_4cfef 4 = .ok (.ifCond .eq 65, 3) := by decide +kernel
theorem dJ2_indexOfSupplementary_4cfef_7 : decode cJ2_indexOfSupplementary_4cfef 7 = .ok (.iload_n 1, 1) := by decide +kernel
theorem dJ2_indexOfSupplementary_4cfef_8 : decode cJ2_indexOfSupplementary_4cfef 8 = .ok (.invokestatic 157, 3) := by decide +kernel
theorem dJ2_indexOfSupplementary_4cfef_11 : decode cJ2_indexOfSupplementary_4cfef 11 = .ok (.istore 4, 2) := by decide +kernel
theorem dJ2_indexOfSupplementary_4cfef_13 : decode cJ2_indexOfSupplementary_4cfef 13 = .ok (.iload_n 1, 1) := by decide +kernel
theorem dJ2_indexOfSupplementary_4cfef_14 : decode cJ2_indexOfSupplementary_4cfef 14 = .ok (.invokestatic 161, 3) := by decide +kernel
theorem dJ2_indexOfSupplementary_4cfef_17 : decode cJ2_indexOfSupplementary_4cfef 17 = .ok (.istore 5, 2) := by decide +kernel
theorem dJ2_indexOfSupplementary_4cfef_19 : decode cJ2_indexOfSupplementary_4cfef 19 = .ok (.iload_n 2, 1) := by decide +kernel
theorem dJ2_indexOfSupplementary_4cfef_20 : decode cJ2_indexOfSupplementary_4cfef 20 = .ok (.iload_n 3, 1) := by decide +kernel
theorem dJ2_indexOfSupplementary_4cfef_21 : decode cJ2_indexOfSupplementary_4cfef 21 = .ok (.aload_n 0, 1) := by decide +kernel
theorem dJ2_indexOfSupplementary_4cfef_22 : decode cJ2_indexOfSupplementary_4cfef 22 = .ok (.invokestatic 96, 3) := by decide +kernel
theorem dJ2_indexOfSupplementary_4cfef_25 : decode cJ2_indexOfSupplementary_4cfef 25 = .ok (.iload_n 2, 1) := by decide +kernel
theorem dJ2_indexOfSupplementary_4cfef_26 : decode cJ2_indexOfSupplementary_4cfef 26 = .ok (.istore 6, 2) := by decide +kernel
theorem dJ2_indexOfSupplementary_4cfef_28 : decode cJ2_indexOfSupplementary_4cfef 28 = .ok (.iload 6, 2) := by decide +kernel
theorem dJ2_indexOfSupplementary_4cfef_30 : decode cJ2_indexOfSupplementary_4cfef 30 = .ok (.iload_n 3, 1) := by decide +kernel
theorem dJ2_indexOfSupplementary_4cfef_31 : decode cJ2_indexOfSupplementary_4cfef 31 = .ok (.iconst 1, 1) := by decide +kernel
theorem dJ2_indexOfSupplementary_4cfef_32 : decode cJ2_indexOfSupplementary_4cfef 32 = .ok (.isub, 1) := by decide +kernel
theorem dJ2_indexOfSupplementary_4cfef_33 : decode cJ2_indexOfSupplementary_4cfef 33 = .ok (.if_icmp .ge 36, 3) := by decide +kernel
theorem dJ2_indexOfSupplementary_4cfef_36 : decode cJ2_indexOfSupplementary_4cfef 36 = .ok (.aload_n 0, 1) := by decide +kernel
theorem dJ2_indexOfSupplementary_4cfef_37 : decode cJ2_indexOfSupplementary_4cfef 37 = .ok (.iload 6, 2) := by decide +kernel
theorem dJ2_indexOfSupplementary_4cfef_39 : decode cJ2_indexOfSupplementary_4cfef 39 = .ok (.invokestatic 71, 3) := by decide +kernel
theorem dJ2_indexOfSupplementary_4cfef_42 : decode cJ2_indexOfSupplementary_4cfef 42 = .ok (.iload 4, 2) := by decide +kernel
theorem dJ2_indexOfSupplementary_4cfef_44 : decode cJ2_indexOfSupplementary_4cfef 44 = .ok (.if_icmp .ne 19, 3) := by decide +kernel
theorem dJ2_indexOfSupplementary_4cfef_47 : decode cJ2_indexOfSupplementary_4cfef 47 = .ok (.aload_n 0, 1) := by decide +kernel
theorem dJ2_indexOfSupplementary_4cfef_48 : decode cJ2_indexOfSupplementary_4cfef 48 = .ok (.iload 6, 2) := by decide +kernel
theorem dJ2_indexOfSupplementary_4cfef_50 : decode cJ2_indexOfSupplementary_4cfef 50 = .ok (.iconst 1, 1) := by decide +kernel
theorem dJ2_indexOfSupplementary_4cfef_51 : decode cJ2_indexOfSupplementary_4cfef 51 = .ok (.iadd, 1) := by decide +kernel
theorem dJ2_indexOfSupplementary_4cfef_52 : decode cJ2_indexOfSupplementary_4cfef 52 = .ok (.invokestatic 71, 3) := by decide +kernel
theorem dJ2_indexOfSupplementary_4cfef_55 : decode cJ2_indexOfSupplementary_4cfef 55 = .ok (.iload 5, 2) := by decide +kernel
theorem dJ2_indexOfSupplementary_4cfef_57 : decode cJ2_indexOfSupplementary_4cfef 57 = .ok (.if_icmp .ne 6, 3) := by decide +kernel
theorem dJ2_indexOfSupplementary_4cfef_60 : decode cJ2_indexOfSupplementary_4cfef 60 = .ok (.iload 6, 2) := by decide +kernel
theorem dJ2_indexOfSupplementary_4cfef_62 : decode cJ2_indexOfSupplementary_4cfef 62 = .ok (.ireturn, 1) := by decide +kernel
theorem dJ2_indexOfSupplementary_4cfef_63 : decode cJ2_indexOfSupplementary_4cfef 63 = .ok (.iinc 6 1, 3) := by decide +kernel
theorem dJ2_indexOfSupplementary_4cfef_66 : decode cJ2_indexOfSupplementary_4cfef 66 = .ok (.goto (-38), 3) := by decide +kernel
theorem dJ2_indexOfSupplementary_4cfef_69 : decode cJ2_indexOfSupplementary_4cfef 69 = .ok (.iconst (-1), 1) := by decide +kernel
theorem dJ2_indexOfSupplementary_4cfef_70 : decode cJ2_indexOfSupplementary_4cfef 70 = .ok (.ireturn, 1) := by decide +kernel
theorem dJ2_charAt_3b067_0 : decode cJ2_charAt_3b067 0 = .ok (.iload_n 1, 1) := by decide +kernel
theorem dJ2_charAt_3b067_1 : decode cJ2_charAt_3b067 1 = .ok (.aload_n 0, 1) := by decide +kernel
theorem dJ2_charAt_3b067_2 : decode cJ2_charAt_3b067 2 = .ok (.invokestatic 67, 3) := by decide +kernel
theorem dJ2_charAt_3b067_5 : decode cJ2_charAt_3b067 5 = .ok (.aload_n 0, 1) := by decide +kernel
theorem dJ2_charAt_3b067_6 : decode cJ2_charAt_3b067 6 = .ok (.iload_n 1, 1) := by decide +kernel
theorem dJ2_charAt_3b067_7 : decode cJ2_charAt_3b067 7 = .ok (.invokestatic 71, 3) := by decide +kernel
theorem dJ2_charAt_3b067_10 : decode cJ2_charAt_3b067 10 = .ok (.ireturn, 1) := by decide +kernel
theorem dJ2_checkIndex_2214a_0 : decode cJ2_checkIndex_2214a 0 = .ok (.iload_n 0, 1) := by decide +kernel
theorem dJ2_checkIndex_2214a_1 : decode cJ2_checkIndex_2214a 1 = .ok (.aload_n 1, 1) := by decide +kernel
theorem dJ2_checkIndex_2214a_2 : decode cJ2_checkIndex_2214a 2 = .ok (.invokestatic 48, 3) := by decide +kernel
theorem dJ2_checkIndex_2214a_5 : decode cJ2_checkIndex_2214a 5 = .ok (.invokestatic 414, 3) := by decide +kernel
theorem dJ2_checkIndex_2214a_8 : decode cJ2_checkIndex_2214a 8 = .ok (.return_, 1) := by decide +kernel
theorem dJ2_checkBoundsBeginEnd_d044e_0 : decode cJ2_checkBoundsBeginEnd_d044e 0 = .ok (.iload_n 0, 1) := by decide +kernel
theorem dJ2_checkBoundsBeginEnd_d044e_1 : decode cJ2_checkBoundsBeginEnd_d044e 1 = .ok (.iload_n 1, 1) := by decide +kernel
theorem dJ2_checkBoundsBeginEnd_d044e_2 : decode cJ2_checkBoundsBeginEnd_d044e 2 = .ok (.aload_n 2, 1) := by decide +kernel
theorem dJ2_checkBoundsBeginEnd_d044e_3 : decode cJ2_checkBoundsBeginEnd_d044e 3 = .ok (.invokestatic 48, 3) := by decide +kernel
theorem dJ2_checkBoundsBeginEnd_d044e_6 : decode cJ2_checkBoundsBeginEnd_d044e 6 = .ok (.invokestatic 241, 3) := by decide +kernel
theorem dJ2_checkBoundsBeginEnd_d044e_9 : decode cJ2_checkBoundsBeginEnd_d044e 9 = .ok (.return_, 1) := by decide +kernel
theorem dJ3_checkIndex_8e157_0 : decode cJ3_checkIndex_8e157 0 = .ok (.iload_n 0, 1) := by decide +kernel
theorem dJ3_checkIndex_8e157_1 : decode cJ3_checkIndex_8e157 1 = .ok (.ifCond .lt 8, 3) := by decide +kernel
theorem dJ3_checkIndex_8e157_4 : decode cJ3_checkIndex_8e157 4 = .ok (.iload_n 0, 1) := by decide +kernel
theorem dJ3_checkIndex_8e157_5 : decode cJ3_checkIndex_8e157 5 = .ok (.iload_n 1, 1) := by decide +kernel
theorem dJ3_checkIndex_8e157_6 : decode cJ3_checkIndex_8e157 6 = .ok (.if_icmp .lt 10, 3) := by decide +kernel
theorem dJ3_checkIndex_8e157_9 : decode cJ3_checkIndex_8e157 9 = .ok (.aload_n 2, 1) := by decide +kernel
theorem dJ3_checkIndex_8e157_10 : decode cJ3_checkIndex_8e157 10 = .ok (.iload_n 0, 1) := by decide +kernel
theorem dJ3_checkIndex_8e157_11 : decode cJ3_checkIndex_8e157 11 = .ok (.iload_n 1, 1) := by decide +kernel
theorem dJ3_checkIndex_8e157_12 : decode cJ3_checkIndex_8e157 12 = .ok (.invokestatic 95, 3) := by decide +kernel
theorem dJ3_checkIndex_8e157_15 : decode cJ3_checkIndex_8e157 15 = .ok (.athrow, 1) := by decide +kernel
theorem dJ3_checkIndex_8e157_16 : decode cJ3_checkIndex_8e157 16 = .ok (.iload_n 0, 1) := by decide +kernel
theorem dJ3_checkIndex_8e157_17 : decode cJ3_checkIndex_8e157 17 = .ok (.ireturn, 1) := by decide +kernel
theorem dJ3_checkFromToIndex_8c36e_0 : decode cJ3_checkFromToIndex_8c36e 0 = .ok (.iload_n 0, 1) := by decide +kernel
theorem dJ3_checkFromToIndex_8c36e_1 : decode cJ3_checkFromToIndex_8c36e 1 = .ok (.ifCond .lt 13, 3) := by decide +kernel
theorem dJ3_checkFromToIndex_8c36e_4 : decode cJ3_checkFromToIndex_8c36e 4 = .ok (.iload_n 0, 1) := by decide +kernel
theorem dJ3_checkFromToIndex_8c36e_5 : decode cJ3_checkFromToIndex_8c36e 5 = .ok (.iload_n 1, 1) := by decide +kernel
theorem dJ3_checkFromToIndex_8c36e_6 : decode cJ3_checkFromToIndex_8c36e 6 = .ok (.if_icmp .gt 8, 3) := by decide +kernel
theorem dJ3_checkFromToIndex_8c36e_9 : decode cJ3_checkFromToIndex_8c36e 9 = .ok (.iload_n 1, 1) := by decide +kernel
theorem dJ3_checkFromToIndex_8c36e_10 : decode cJ3_checkFromToIndex_8c36e 10 = .ok (.iload_n 2, 1) := by decide +kernel
theorem dJ3_checkFromToIndex_8c36e_11 : decode cJ3_checkFromToIndex_8c36e 11 = .ok (.if_icmp .le 11, 3) := by decide +kernel
theorem dJ3_checkFromToIndex_8c36e_14 : decode cJ3_checkFromToIndex_8c36e 14 = .ok (.aload_n 3, 1) := by decide +kernel
theorem dJ3_checkFromToIndex_8c36e_15 : decode cJ3_checkFromToIndex_8c36e 15 = .ok (.iload_n 0, 1) := by decide +kernel
theorem dJ3_checkFromToIndex_8c36e_16 : decode cJ3_checkFromToIndex_8c36e 16 = .ok (.iload_n 1, 1) := by decide +kernel
theorem dJ3_checkFromToIndex_8c36e_17 : decode cJ3_checkFromToIndex_8c36e 17 = .ok (.iload_n 2, 1) := by decide +kernel
theorem dJ3_checkFromToIndex_8c36e_18 : decode cJ3_checkFromToIndex_8c36e 18 = .ok (.invokestatic 99, 3) := by decide +kernel
theorem dJ3_checkFromToIndex_8c36e_21 : decode cJ3_checkFromToIndex_8c36e 21 = .ok (.athrow, 1) := by decide +kernel
theorem dJ3_checkFromToIndex_8c36e_22 : decode cJ3_checkFromToIndex_8c36e 22 = .ok (.iload_n 0, 1) := by decide +kernel
theorem dJ3_checkFromToIndex_8c36e_23 : decode cJ3_checkFromToIndex_8c36e 23 = .ok (.ireturn, 1) := by decide +kernel
theorem dL_law_0 : decode cL_law 0 = .ok (.new 7, 3) := by decide +kernel
theorem dL_law_3 : decode cL_law 3 = .ok (.dup, 1) := by decide +kernel
theorem dL_law_4 : decode cL_law 4 = .ok (.invokespecial 9, 3) := by decide +kernel
theorem dL_law_7 : decode cL_law 7 = .ok (.astore_n 1, 1) := by decide +kernel
theorem dL_law_8 : decode cL_law 8 = .ok (.new 10, 3) := by decide +kernel
theorem dL_law_11 : decode cL_law 11 = .ok (.dup, 1) := by decide +kernel
theorem dL_law_12 : decode cL_law 12 = .ok (.invokespecial 12, 3) := by decide +kernel
theorem dL_law_15 : decode cL_law 15 = .ok (.astore_n 2, 1) := by decide +kernel
theorem dL_law_16 : decode cL_law 16 = .ok (.iconst 0, 1) := by decide +kernel
theorem dL_law_17 : decode cL_law 17 = .ok (.istore_n 3, 1) := by decide +kernel
theorem dL_law_18 : decode cL_law 18 = .ok (.iload_n 3, 1) := by decide +kernel
theorem dL_law_19 : decode cL_law 19 = .ok (.aload_n 0, 1) := by decide +kernel
theorem dL_law_20 : decode cL_law 20 = .ok (.arraylength, 1) := by decide +kernel
theorem dL_law_21 : decode cL_law 21 = .ok (.bipush 6, 2) := by decide +kernel
theorem dL_law_23 : decode cL_law 23 = .ok (.isub, 1) := by decide +kernel
theorem dL_law_24 : decode cL_law 24 = .ok (.if_icmp .gt 1257, 3) := by decide +kernel
theorem dL_law_27 : decode cL_law 27 = .ok (.aload_n 0, 1) := by decide +kernel
theorem dL_law_28 : decode cL_law 28 = .ok (.iload_n 3, 1) := by decide +kernel
theorem dL_law_29 : decode cL_law 29 = .ok (.iaload, 1) := by decide +kernel
theorem dL_law_30 : decode cL_law 30 = .ok (.bipush 63, 2) := by decide +kernel
theorem dL_law_32 : decode cL_law 32 = .ok (.iand, 1) := by decide +kernel
theorem dL_law_33 : decode cL_law 33 = .ok (.tableswitch 1242 0 32 #[147, 170, 213, 256, 289, 352, 375, 408, 431, 464, 497, 550, 583, 626, 659, 682, 715, 748, 781, 814, 847, 880, 923, 956, 979, 1022, 1065, 1088, 1121, 1154, 1167, 1180, 1219], 147) := by decide +kernel
theorem dL_law_180 : decode cL_law 180 = .ok (.aload_n 1, 1) := by decide +kernel
theorem dL_law_181 : decode cL_law 181 = .ok (.aload_n 0, 1) := by decide +kernel
theorem dL_law_182 : decode cL_law 182 = .ok (.iload_n 3, 1) := by decide +kernel
theorem dL_law_183 : decode cL_law 183 = .ok (.iconst 1, 1) := by decide +kernel
theorem dL_law_184 : decode cL_law 184 = .ok (.iadd, 1) := by decide +kernel
theorem dL_law_185 : decode cL_law 185 = .ok (.iaload, 1) := by decide +kernel
theorem dL_law_186 : decode cL_law 186 = .ok (.invokevirtual 13, 3) := by decide +kernel
theorem dL_law_189 : decode cL_law 189 = .ok (.aload_n 2, 1) := by decide +kernel
theorem dL_law_190 : decode cL_law 190 = .ok (.aload_n 0, 1) := by decide +kernel
theorem dL_law_191 : decode cL_law 191 = .ok (.iload_n 3, 1) := by decide +kernel
theorem dL_law_192 : decode cL_law 192 = .ok (.iconst 1, 1) := by decide +kernel
theorem dL_law_193 : decode cL_law 193 = .ok (.iadd, 1) := by decide +kernel
theorem dL_law_194 : decode cL_law 194 = .ok (.iaload, 1) := by decide +kernel
theorem dL_law_195 : decode cL_law 195 = .ok (.invokevirtual 17, 3) := by decide +kernel
theorem dL_law_198 : decode cL_law 198 = .ok (.if_icmp .eq 1077, 3) := by decide +kernel
theorem dL_law_201 : decode cL_law 201 = .ok (.iconst 0, 1) := by decide +kernel
theorem dL_law_202 : decode cL_law 202 = .ok (.ireturn, 1) := by decide +kernel
theorem dL_law_203 : decode cL_law 203 = .ok (.aload_n 1, 1) := by decide +kernel
theorem dL_law_204 : decode cL_law 204 = .ok (.aload_n 0, 1) := by decide +kernel
theorem dL_law_205 : decode cL_law 205 = .ok (.iload_n 3, 1) := by decide +kernel
theorem dL_law_206 : decode cL_law 206 = .ok (.iconst 1, 1) := by decide +kernel
theorem dL_law_207 : decode cL_law 207 = .ok (.iadd, 1) := by decide +kernel
theorem dL_law_208 : decode cL_law 208 = .ok (.iaload, 1) := by decide +kernel
theorem dL_law_209 : decode cL_law 209 = .ok (.aload_n 0, 1) := by decide +kernel
theorem dL_law_210 : decode cL_law 210 = .ok (.iload_n 3, 1) := by decide +kernel
theorem dL_law_211 : decode cL_law 211 = .ok (.iconst 2, 1) := by decide +kernel
theorem dL_law_212 : decode cL_law 212 = .ok (.iadd, 1) := by decide +kernel
theorem dL_law_213 : decode cL_law 213 = .ok (.iaload, 1) := by decide +kernel
theorem dL_law_214 : decode cL_law 214 = .ok (.aload_n 0, 1) := by decide +kernel
theorem dL_law_215 : decode cL_law 215 = .ok (.iload_n 3, 1) := by decide +kernel
theorem dL_law_216 : decode cL_law 216 = .ok (.iconst 3, 1) := by decide +kernel
theorem dL_law_217 : decode cL_law 217 = .ok (.iadd, 1) := by decide +kernel
theorem dL_law_218 : decode cL_law 218 = .ok (.iaload, 1) := by decide +kernel
theorem dL_law_219 : decode cL_law 219 = .ok (.invokevirtual 18, 3) := by decide +kernel
theorem dL_law_222 : decode cL_law 222 = .ok (.aload_n 2, 1) := by decide +kernel
theorem dL_law_223 : decode cL_law 223 = .ok (.aload_n 0, 1) := by decide +kernel
theorem dL_law_224 : decode cL_law 224 = .ok (.iload_n 3, 1) := by decide +kernel
theorem dL_law_225 : decode cL_law 225 = .ok (.iconst 1, 1) := by decide +kernel
theorem dL_law_226 : decode cL_law 226 = .ok (.iadd, 1) := by decide +kernel
theorem dL_law_227 : decode cL_law 227 = .ok (.iaload, 1) := by decide +kernel
theorem dL_law_228 : decode cL_law 228 = .ok (.aload_n 0, 1) := by decide +kernel
theorem dL_law_229 : decode cL_law 229 = .ok (.iload_n 3, 1) := by decide +kernel
theorem dL_law_230 : decode cL_law 230 = .ok (.iconst 2, 1) := by decide +kernel
theorem dL_law_231 : decode cL_law 231 = .ok (.iadd, 1) := by decide +kernel
theorem dL_law_232 : decode cL_law 232 = .ok (.iaload, 1) := by decide +kernel
theorem dL_law_233 : decode cL_law 233 = .ok (.aload_n 0, 1) := by decide +kernel
theorem dL_law_234 : decode cL_law 234 = .ok (.iload_n 3, 1) := by decide +kernel
theorem dL_law_235 : decode cL_law 235 = .ok (.iconst 3, 1) := by decide +kernel
theorem dL_law_236 : decode cL_law 236 = .ok (.iadd, 1) := by decide +kernel
theorem dL_law_237 : decode cL_law 237 = .ok (.iaload, 1) := by decide +kernel
theorem dL_law_238 : decode cL_law 238 = .ok (.invokevirtual 22, 3) := by decide +kernel
theorem dL_law_241 : decode cL_law 241 = .ok (.if_icmp .eq 1034, 3) := by decide +kernel
theorem dL_law_244 : decode cL_law 244 = .ok (.iconst 0, 1) := by decide +kernel
theorem dL_law_245 : decode cL_law 245 = .ok (.ireturn, 1) := by decide +kernel
theorem dL_law_246 : decode cL_law 246 = .ok (.aload_n 1, 1) := by decide +kernel
theorem dL_law_247 : decode cL_law 247 = .ok (.aload_n 0, 1) := by decide +kernel
theorem dL_law_248 : decode cL_law 248 = .ok (.iload_n 3, 1) := by decide +kernel
theorem dL_law_249 : decode cL_law 249 = .ok (.iconst 1, 1) := by decide +kernel
theorem dL_law_250 : decode cL_law 250 = .ok (.iadd, 1) := by decide +kernel
theorem dL_law_251 : decode cL_law 251 = .ok (.iaload, 1) := by decide +kernel
theorem dL_law_252 : decode cL_law 252 = .ok (.aload_n 0, 1) := by decide +kernel
theorem dL_law_253 : decode cL_law 253 = .ok (.iload_n 3, 1) := by decide +kernel
theorem dL_law_254 : decode cL_law 254 = .ok (.iconst 2, 1) := by decide +kernel
theorem dL_law_255 : decode cL_law 255 = .ok (.iadd, 1) := by decide +kernel
theorem dL_law_256 : decode cL_law 256 = .ok (.iaload, 1) := by decide +kernel
theorem dL_law_257 : decode cL_law 257 = .ok (.aload_n 0, 1) := by decide +kernel
theorem dL_law_258 : decode cL_law 258 = .ok (.iload_n 3, 1) := by decide +kernel
theorem dL_law_259 : decode cL_law 259 = .ok (.iconst 3, 1) := by decide +kernel
theorem dL_law_260 : decode cL_law 260 = .ok (.iadd, 1) := by decide +kernel
theorem dL_law_261 : decode cL_law 261 = .ok (.iaload, 1) := by decide +kernel
theorem dL_law_262 : decode cL_law 262 = .ok (.invokevirtual 23, 3) := by decide +kernel
theorem dL_law_265 : decode cL_law 265 = .ok (.aload_n 2, 1) := by decide +kernel
theorem dL_law_266 : decode cL_law 266 = .ok (.aload_n 0, 1) := by decide +kernel
theorem dL_law_267 : decode cL_law 267 = .ok (.iload_n 3, 1) := by decide +kernel
theorem dL_law_268 : decode cL_law 268 = .ok (.iconst 1, 1) := by decide +kernel
theorem dL_law_269 : decode cL_law 269 = .ok (.iadd, 1) := by decide +kernel
theorem dL_law_270 : decode cL_law 270 = .ok (.iaload, 1) := by decide +kernel
theorem dL_law_271 : decode cL_law 271 = .ok (.aload_n 0, 1) := by decide +kernel
theorem dL_law_272 : decode cL_law 272 = .ok (.iload_n 3, 1) := by decide +kernel
theorem dL_law_273 : decode cL_law 273 = .ok (.iconst 2, 1) := by decide +kernel
theorem dL_law_274 : decode cL_law 274 = .ok (.iadd, 1) := by decide +kernel
theorem dL_law_275 : decode cL_law 275 = .ok (.iaload, 1) := by decide +kernel
theorem dL_law_276 : decode cL_law 276 = .ok (.aload_n 0, 1) := by decide +kernel
theorem dL_law_277 : decode cL_law 277 = .ok (.iload_n 3, 1) := by decide +kernel
theorem dL_law_278 : decode cL_law 278 = .ok (.iconst 3, 1) := by decide +kernel
theorem dL_law_279 : decode cL_law 279 = .ok (.iadd, 1) := by decide +kernel
theorem dL_law_280 : decode cL_law 280 = .ok (.iaload, 1) := by decide +kernel
theorem dL_law_281 : decode cL_law 281 = .ok (.invokevirtual 27, 3) := by decide +kernel
theorem dL_law_284 : decode cL_law 284 = .ok (.if_icmp .eq 991, 3) := by decide +kernel
theorem dL_law_287 : decode cL_law 287 = .ok (.iconst 0, 1) := by decide +kernel
theorem dL_law_288 : decode cL_law 288 = .ok (.ireturn, 1) := by decide +kernel
theorem dL_law_289 : decode cL_law 289 = .ok (.aload_n 1, 1) := by decide +kernel
theorem dL_law_290 : decode cL_law 290 = .ok (.aload_n 0, 1) := by decide +kernel
theorem dL_law_291 : decode cL_law 291 = .ok (.iload_n 3, 1) := by decide +kernel
theorem dL_law_292 : decode cL_law 292 = .ok (.iconst 1, 1) := by decide +kernel
theorem dL_law_293 : decode cL_law 293 = .ok (.iadd, 1) := by decide +kernel
theorem dL_law_294 : decode cL_law 294 = .ok (.iaload, 1) := by decide +kernel
theorem dL_law_295 : decode cL_law 295 = .ok (.aload_n 0, 1) := by decide +kernel
theorem dL_law_296 : decode cL_law 296 = .ok (.iload_n 3, 1) := by decide +kernel
theorem dL_law_297 : decode cL_law 297 = .ok (.iconst 2, 1) := by decide +kernel
theorem dL_law_298 : decode cL_law 298 = .ok (.iadd, 1) := by decide +kernel
theorem dL_law_299 : decode cL_law 299 = .ok (.iaload, 1) := by decide +kernel
theorem dL_law_300 : decode cL_law 300 = .ok (.invokevirtual 28, 3) := by decide +kernel
theorem dL_law_303 : decode cL_law 303 = .ok (.aload_n 2, 1) := by decide +kernel
theorem dL_law_304 : decode cL_law 304 = .ok (.aload_n 0, 1) := by decide +kernel
theorem dL_law_305 : decode cL_law 305 = .ok (.iload_n 3, 1) := by decide +kernel
theorem dL_law_306 : decode cL_law 306 = .ok (.iconst 1, 1) := by decide +kernel
theorem dL_law_307 : decode cL_law 307 = .ok (.iadd, 1) := by decide +kernel
theorem dL_law_308 : decode cL_law 308 = .ok (.iaload, 1) := by decide +kernel
theorem dL_law_309 : decode cL_law 309 = .ok (.aload_n 0, 1) := by decide +kernel
theorem dL_law_310 : decode cL_law 310 = .ok (.iload_n 3, 1) := by decide +kernel
theorem dL_law_311 : decode cL_law 311 = .ok (.iconst 2, 1) := by decide +kernel
theorem dL_law_312 : decode cL_law 312 = .ok (.iadd, 1) := by decide +kernel
theorem dL_law_313 : decode cL_law 313 = .ok (.iaload, 1) := by decide +kernel
theorem dL_law_314 : decode cL_law 314 = .ok (.invokevirtual 32, 3) := by decide +kernel
theorem dL_law_317 : decode cL_law 317 = .ok (.if_icmp .eq 958, 3) := by decide +kernel
theorem dL_law_320 : decode cL_law 320 = .ok (.iconst 0, 1) := by decide +kernel
theorem dL_law_321 : decode cL_law 321 = .ok (.ireturn, 1) := by decide +kernel
theorem dL_law_322 : decode cL_law 322 = .ok (.aload_n 1, 1) := by decide +kernel
theorem dL_law_323 : decode cL_law 323 = .ok (.aload_n 0, 1) := by decide +kernel
theorem dL_law_324 : decode cL_law 324 = .ok (.iload_n 3, 1) := by decide +kernel
theorem dL_law_325 : decode cL_law 325 = .ok (.iconst 1, 1) := by decide +kernel
theorem dL_law_326 : decode cL_law 326 = .ok (.iadd, 1) := by decide +kernel
theorem dL_law_327 : decode cL_law 327 = .ok (.iaload, 1) := by decide +kernel
theorem dL_law_328 : decode cL_law 328 = .ok (.aload_n 0, 1) := by decide +kernel
theorem dL_law_329 : decode cL_law 329 = .ok (.iload_n 3, 1) := by decide +kernel
theorem dL_law_330 : decode cL_law 330 = .ok (.iconst 2, 1) := by decide +kernel
theorem dL_law_331 : decode cL_law 331 = .ok (.iadd, 1) := by decide +kernel
theorem dL_law_332 : decode cL_law 332 = .ok (.iaload, 1) := by decide +kernel
theorem dL_law_333 : decode cL_law 333 = .ok (.aload_n 0, 1) := by decide +kernel
theorem dL_law_334 : decode cL_law 334 = .ok (.iload_n 3, 1) := by decide +kernel
theorem dL_law_335 : decode cL_law 335 = .ok (.iconst 3, 1) := by decide +kernel
theorem dL_law_336 : decode cL_law 336 = .ok (.iadd, 1) := by decide +kernel
theorem dL_law_337 : decode cL_law 337 = .ok (.iaload, 1) := by decide +kernel
theorem dL_law_338 : decode cL_law 338 = .ok (.aload_n 0, 1) := by decide +kernel
theorem dL_law_339 : decode cL_law 339 = .ok (.iload_n 3, 1) := by decide +kernel
theorem dL_law_340 : decode cL_law 340 = .ok (.iconst 4, 1) := by decide +kernel
theorem dL_law_341 : decode cL_law 341 = .ok (.iadd, 1) := by decide +kernel
theorem dL_law_342 : decode cL_law 342 = .ok (.iaload, 1) := by decide +kernel
theorem dL_law_343 : decode cL_law 343 = .ok (.aload_n 0, 1) := by decide +kernel
theorem dL_law_344 : decode cL_law 344 = .ok (.iload_n 3, 1) := by decide +kernel
theorem dL_law_345 : decode cL_law 345 = .ok (.iconst 5, 1) := by decide +kernel
theorem dL_law_346 : decode cL_law 346 = .ok (.iadd, 1) := by decide +kernel
theorem dL_law_347 : decode cL_law 347 = .ok (.iaload, 1) := by decide +kernel
theorem dL_law_348 : decode cL_law 348 = .ok (.invokevirtual 33, 3) := by decide +kernel
theorem dL_law_351 : decode cL_law 351 = .ok (.aload_n 2, 1) := by decide +kernel
theorem dL_law_352 : decode cL_law 352 = .ok (.aload_n 0, 1) := by decide +kernel
theorem dL_law_353 : decode cL_law 353 = .ok (.iload_n 3, 1) := by decide +kernel
theorem dL_law_354 : decode cL_law 354 = .ok (.iconst 1, 1) := by decide +kernel
theorem dL_law_355 : decode cL_law 355 = .ok (.iadd, 1) := by decide +kernel
theorem dL_law_356 : decode cL_law 356 = .ok (.iaload, 1) := by decide +kernel
theorem dL_law_357 : decode cL_law 357 = .ok (.aload_n 0, 1) := by decide +kernel
theorem dL_law_358 : decode cL_law 358 = .ok (.iload_n 3, 1) := by decide +kernel
theorem dL_law_359 : decode cL_law 359 = .ok (.iconst 2, 1) := by decide +kernel
theorem dL_law_360 : decode cL_law 360 = .ok (.iadd, 1) := by decide +kernel
theorem dL_law_361 : decode cL_law 361 = .ok (.iaload, 1) := by decide +kernel
theorem dL_law_362 : decode cL_law 362 = .ok (.aload_n 0, 1) := by decide +kernel
theorem dL_law_363 : decode cL_law 363 = .ok (.iload_n 3, 1) := by decide +kernel
theorem dL_law_364 : decode cL_law 364 = .ok (.iconst 3, 1) := by decide +kernel
theorem dL_law_365 : decode cL_law 365 = .ok (.iadd, 1) := by decide +kernel
theorem dL_law_366 : decode cL_law 366 = .ok (.iaload, 1) := by decide +kernel
theorem dL_law_367 : decode cL_law 367 = .ok (.aload_n 0, 1) := by decide +kernel
theorem dL_law_368 : decode cL_law 368 = .ok (.iload_n 3, 1) := by decide +kernel
theorem dL_law_369 : decode cL_law 369 = .ok (.iconst 4, 1) := by decide +kernel
theorem dL_law_370 : decode cL_law 370 = .ok (.iadd, 1) := by decide +kernel
theorem dL_law_371 : decode cL_law 371 = .ok (.iaload, 1) := by decide +kernel
theorem dL_law_372 : decode cL_law 372 = .ok (.aload_n 0, 1) := by decide +kernel
theorem dL_law_373 : decode cL_law 373 = .ok (.iload_n 3, 1) := by decide +kernel
theorem dL_law_374 : decode cL_law 374 = .ok (.iconst 5, 1) := by decide +kernel
theorem dL_law_375 : decode cL_law 375 = .ok (.iadd, 1) := by decide +kernel
theorem dL_law_376 : decode cL_law 376 = .ok (.iaload, 1) := by decide +kernel
theorem dL_law_377 : decode cL_law 377 = .ok (.invokevirtual 37, 3) := by decide +kernel
theorem dL_law_380 : decode cL_law 380 = .ok (.if_icmp .eq 895, 3) := by decide +kernel
theorem dL_law_383 : decode cL_law 383 = .ok (.iconst 0, 1) := by decide +kernel
theorem dL_law_384 : decode cL_law 384 = .ok (.ireturn, 1) := by decide +kernel
theorem dL_law_385 : decode cL_law 385 = .ok (.aload_n 1, 1) := by decide +kernel
theorem dL_law_386 : decode cL_law 386 = .ok (.aload_n 0, 1) := by decide +kernel
theorem dL_law_387 : decode cL_law 387 = .ok (.iload_n 3, 1) := by decide +kernel
theorem dL_law_388 : decode cL_law 388 = .ok (.iconst 1, 1) := by decide +kernel
theorem dL_law_389 : decode cL_law 389 = .ok (.iadd, 1) := by decide +kernel
theorem dL_law_390 : decode cL_law 390 = .ok (.iaload, 1) := by decide +kernel
theorem dL_law_391 : decode cL_law 391 = .ok (.invokevirtual 38, 3) := by decide +kernel
theorem dL_law_394 : decode cL_law 394 = .ok (.aload_n 2, 1) := by decide +kernel
theorem dL_law_395 : decode cL_law 395 = .ok (.aload_n 0, 1) := by decide +kernel
theorem dL_law_396 : decode cL_law 396 = .ok (.iload_n 3, 1) := by decide +kernel
theorem dL_law_397 : decode cL_law 397 = .ok (.iconst 1, 1) := by decide +kernel
theorem dL_law_398 : decode cL_law 398 = .ok (.iadd, 1) := by decide +kernel
theorem dL_law_399 : decode cL_law 399 = .ok (.iaload, 1) := by decide +kernel
theorem dL_law_400 : decode cL_law 400 = .ok (.invokevirtual 42, 3) := by decide +kernel
theorem dL_law_403 : decode cL_law 403 = .ok (.if_icmp .eq 872, 3) := by decide +kernel
theorem dL_law_406 : decode cL_law 406 = .ok (.iconst 0, 1) := by decide +kernel
theorem dL_law_407 : decode cL_law 407 = .ok (.ireturn, 1) := by decide +kernel
theorem dL_law_408 : decode cL_law 408 = .ok (.aload_n 1, 1) := by decide +kernel
theorem dL_law_409 : decode cL_law 409 = .ok (.aload_n 0, 1) := by decide +kernel
theorem dL_law_410 : decode cL_law 410 = .ok (.iload_n 3, 1) := by decide +kernel
theorem dL_law_411 : decode cL_law 411 = .ok (.iconst 1, 1) := by decide +kernel
theorem dL_law_412 : decode cL_law 412 = .ok (.iadd, 1) := by decide +kernel
theorem dL_law_413 : decode cL_law 413 = .ok (.iaload, 1) := by decide +kernel
theorem dL_law_414 : decode cL_law 414 = .ok (.aload_n 0, 1) := by decide +kernel
theorem dL_law_415 : decode cL_law 415 = .ok (.iload_n 3, 1) := by decide +kernel
theorem dL_law_416 : decode cL_law 416 = .ok (.iconst 2, 1) := by decide +kernel
theorem dL_law_417 : decode cL_law 417 = .ok (.iadd, 1) := by decide +kernel
theorem dL_law_418 : decode cL_law 418 = .ok (.iaload, 1) := by decide +kernel
theorem dL_law_419 : decode cL_law 419 = .ok (.invokevirtual 43, 3) := by decide +kernel
theorem dL_law_422 : decode cL_law 422 = .ok (.aload_n 2, 1) := by decide +kernel
theorem dL_law_423 : decode cL_law 423 = .ok (.aload_n 0, 1) := by decide +kernel
theorem dL_law_424 : decode cL_law 424 = .ok (.iload_n 3, 1) := by decide +kernel
theorem dL_law_425 : decode cL_law 425 = .ok (.iconst 1, 1) := by decide +kernel
theorem dL_law_426 : decode cL_law 426 = .ok (.iadd, 1) := by decide +kernel
theorem dL_law_427 : decode cL_law 427 = .ok (.iaload, 1) := by decide +kernel
theorem dL_law_428 : decode cL_law 428 = .ok (.aload_n 0, 1) := by decide +kernel
theorem dL_law_429 : decode cL_law 429 = .ok (.iload_n 3, 1) := by decide +kernel
theorem dL_law_430 : decode cL_law 430 = .ok (.iconst 2, 1) := by decide +kernel
theorem dL_law_431 : decode cL_law 431 = .ok (.iadd, 1) := by decide +kernel
theorem dL_law_432 : decode cL_law 432 = .ok (.iaload, 1) := by decide +kernel
theorem dL_law_433 : decode cL_law 433 = .ok (.invokevirtual 47, 3) := by decide +kernel
theorem dL_law_436 : decode cL_law 436 = .ok (.if_icmp .eq 839, 3) := by decide +kernel
theorem dL_law_439 : decode cL_law 439 = .ok (.iconst 0, 1) := by decide +kernel
theorem dL_law_440 : decode cL_law 440 = .ok (.ireturn, 1) := by decide +kernel
theorem dL_law_441 : decode cL_law 441 = .ok (.aload_n 1, 1) := by decide +kernel
theorem dL_law_442 : decode cL_law 442 = .ok (.aload_n 0, 1) := by decide +kernel
theorem dL_law_443 : decode cL_law 443 = .ok (.iload_n 3, 1) := by decide +kernel
theorem dL_law_444 : decode cL_law 444 = .ok (.iconst 1, 1) := by decide +kernel
theorem dL_law_445 : decode cL_law 445 = .ok (.iadd, 1) := by decide +kernel
theorem dL_law_446 : decode cL_law 446 = .ok (.iaload, 1) := by decide +kernel
theorem dL_law_447 : decode cL_law 447 = .ok (.invokevirtual 48, 3) := by decide +kernel
theorem dL_law_450 : decode cL_law 450 = .ok (.aload_n 2, 1) := by decide +kernel
theorem dL_law_451 : decode cL_law 451 = .ok (.aload_n 0, 1) := by decide +kernel
theorem dL_law_452 : decode cL_law 452 = .ok (.iload_n 3, 1) := by decide +kernel
theorem dL_law_453 : decode cL_law 453 = .ok (.iconst 1, 1) := by decide +kernel
theorem dL_law_454 : decode cL_law 454 = .ok (.iadd, 1) := by decide +kernel
theorem dL_law_455 : decode cL_law 455 = .ok (.iaload, 1) := by decide +kernel
theorem dL_law_456 : decode cL_law 456 = .ok (.invokevirtual 51, 3) := by decide +kernel
theorem dL_law_459 : decode cL_law 459 = .ok (.if_icmp .eq 816, 3) := by decide +kernel
theorem dL_law_462 : decode cL_law 462 = .ok (.iconst 0, 1) := by decide +kernel
theorem dL_law_463 : decode cL_law 463 = .ok (.ireturn, 1) := by decide +kernel
theorem dL_law_464 : decode cL_law 464 = .ok (.aload_n 1, 1) := by decide +kernel
theorem dL_law_465 : decode cL_law 465 = .ok (.aload_n 0, 1) := by decide +kernel
theorem dL_law_466 : decode cL_law 466 = .ok (.iload_n 3, 1) := by decide +kernel
theorem dL_law_467 : decode cL_law 467 = .ok (.iconst 1, 1) := by decide +kernel
theorem dL_law_468 : decode cL_law 468 = .ok (.iadd, 1) := by decide +kernel
theorem dL_law_469 : decode cL_law 469 = .ok (.iaload, 1) := by decide +kernel
theorem dL_law_470 : decode cL_law 470 = .ok (.aload_n 0, 1) := by decide +kernel
theorem dL_law_471 : decode cL_law 471 = .ok (.iload_n 3, 1) := by decide +kernel
theorem dL_law_472 : decode cL_law 472 = .ok (.iconst 2, 1) := by decide +kernel
theorem dL_law_473 : decode cL_law 473 = .ok (.iadd, 1) := by decide +kernel
theorem dL_law_474 : decode cL_law 474 = .ok (.iaload, 1) := by decide +kernel
theorem dL_law_475 : decode cL_law 475 = .ok (.invokevirtual 52, 3) := by decide +kernel
theorem dL_law_478 : decode cL_law 478 = .ok (.aload_n 2, 1) := by decide +kernel
theorem dL_law_479 : decode cL_law 479 = .ok (.aload_n 0, 1) := by decide +kernel
theorem dL_law_480 : decode cL_law 480 = .ok (.iload_n 3, 1) := by decide +kernel
theorem dL_law_481 : decode cL_law 481 = .ok (.iconst 1, 1) := by decide +kernel
theorem dL_law_482 : decode cL_law 482 = .ok (.iadd, 1) := by decide +kernel
theorem dL_law_483 : decode cL_law 483 = .ok (.iaload, 1) := by decide +kernel
theorem dL_law_484 : decode cL_law 484 = .ok (.aload_n 0, 1) := by decide +kernel
theorem dL_law_485 : decode cL_law 485 = .ok (.iload_n 3, 1) := by decide +kernel
theorem dL_law_486 : decode cL_law 486 = .ok (.iconst 2, 1) := by decide +kernel
theorem dL_law_487 : decode cL_law 487 = .ok (.iadd, 1) := by decide +kernel
theorem dL_law_488 : decode cL_law 488 = .ok (.iaload, 1) := by decide +kernel
theorem dL_law_489 : decode cL_law 489 = .ok (.invokevirtual 55, 3) := by decide +kernel
theorem dL_law_492 : decode cL_law 492 = .ok (.if_icmp .eq 783, 3) := by decide +kernel
theorem dL_law_495 : decode cL_law 495 = .ok (.iconst 0, 1) := by decide +kernel
theorem dL_law_496 : decode cL_law 496 = .ok (.ireturn, 1) := by decide +kernel
theorem dL_law_497 : decode cL_law 497 = .ok (.aload_n 1, 1) := by decide +kernel
theorem dL_law_498 : decode cL_law 498 = .ok (.aload_n 0, 1) := by decide +kernel
theorem dL_law_499 : decode cL_law 499 = .ok (.iload_n 3, 1) := by decide +kernel
theorem dL_law_500 : decode cL_law 500 = .ok (.iconst 1, 1) := by decide +kernel
theorem dL_law_501 : decode cL_law 501 = .ok (.iadd, 1) := by decide +kernel
theorem dL_law_502 : decode cL_law 502 = .ok (.iaload, 1) := by decide +kernel
theorem dL_law_503 : decode cL_law 503 = .ok (.aload_n 0, 1) := by decide +kernel
theorem dL_law_504 : decode cL_law 504 = .ok (.iload_n 3, 1) := by decide +kernel
theorem dL_law_505 : decode cL_law 505 = .ok (.iconst 2, 1) := by decide +kernel
theorem dL_law_506 : decode cL_law 506 = .ok (.iadd, 1) := by decide +kernel
theorem dL_law_507 : decode cL_law 507 = .ok (.iaload, 1) := by decide +kernel
theorem dL_law_508 : decode cL_law 508 = .ok (.invokevirtual 56, 3) := by decide +kernel
theorem dL_law_511 : decode cL_law 511 = .ok (.aload_n 2, 1) := by decide +kernel
theorem dL_law_512 : decode cL_law 512 = .ok (.aload_n 0, 1) := by decide +kernel
theorem dL_law_513 : decode cL_law 513 = .ok (.iload_n 3, 1) := by decide +kernel
theorem dL_law_514 : decode cL_law 514 = .ok (.iconst 1, 1) := by decide +kernel
theorem dL_law_515 : decode cL_law 515 = .ok (.iadd, 1) := by decide +kernel
theorem dL_law_516 : decode cL_law 516 = .ok (.iaload, 1) := by decide +kernel
theorem dL_law_517 : decode cL_law 517 = .ok (.aload_n 0, 1) := by decide +kernel
theorem dL_law_518 : decode cL_law 518 = .ok (.iload_n 3, 1) := by decide +kernel
theorem dL_law_519 : decode cL_law 519 = .ok (.iconst 2, 1) := by decide +kernel
theorem dL_law_520 : decode cL_law 520 = .ok (.iadd, 1) := by decide +kernel
theorem dL_law_521 : decode cL_law 521 = .ok (.iaload, 1) := by decide +kernel
theorem dL_law_522 : decode cL_law 522 = .ok (.invokevirtual 59, 3) := by decide +kernel
theorem dL_law_525 : decode cL_law 525 = .ok (.if_icmp .eq 750, 3) := by decide +kernel
theorem dL_law_528 : decode cL_law 528 = .ok (.iconst 0, 1) := by decide +kernel
theorem dL_law_529 : decode cL_law 529 = .ok (.ireturn, 1) := by decide +kernel
theorem dL_law_530 : decode cL_law 530 = .ok (.aload_n 1, 1) := by decide +kernel
theorem dL_law_531 : decode cL_law 531 = .ok (.aload_n 0, 1) := by decide +kernel
theorem dL_law_532 : decode cL_law 532 = .ok (.iload_n 3, 1) := by decide +kernel
theorem dL_law_533 : decode cL_law 533 = .ok (.iconst 1, 1) := by decide +kernel
theorem dL_law_534 : decode cL_law 534 = .ok (.iadd, 1) := by decide +kernel
theorem dL_law_535 : decode cL_law 535 = .ok (.iaload, 1) := by decide +kernel
theorem dL_law_536 : decode cL_law 536 = .ok (.aload_n 0, 1) := by decide +kernel
theorem dL_law_537 : decode cL_law 537 = .ok (.iload_n 3, 1) := by decide +kernel
theorem dL_law_538 : decode cL_law 538 = .ok (.iconst 2, 1) := by decide +kernel
theorem dL_law_539 : decode cL_law 539 = .ok (.iadd, 1) := by decide +kernel
theorem dL_law_540 : decode cL_law 540 = .ok (.iaload, 1) := by decide +kernel
theorem dL_law_541 : decode cL_law 541 = .ok (.aload_n 0, 1) := by decide +kernel
theorem dL_law_542 : decode cL_law 542 = .ok (.iload_n 3, 1) := by decide +kernel
theorem dL_law_543 : decode cL_law 543 = .ok (.iconst 3, 1) := by decide +kernel
theorem dL_law_544 : decode cL_law 544 = .ok (.iadd, 1) := by decide +kernel
theorem dL_law_545 : decode cL_law 545 = .ok (.iaload, 1) := by decide +kernel
theorem dL_law_546 : decode cL_law 546 = .ok (.aload_n 0, 1) := by decide +kernel
theorem dL_law_547 : decode cL_law 547 = .ok (.iload_n 3, 1) := by decide +kernel
theorem dL_law_548 : decode cL_law 548 = .ok (.iconst 4, 1) := by decide +kernel
theorem dL_law_549 : decode cL_law 549 = .ok (.iadd, 1) := by decide +kernel
theorem dL_law_550 : decode cL_law 550 = .ok (.iaload, 1) := by decide +kernel
theorem dL_law_551 : decode cL_law 551 = .ok (.invokevirtual 60, 3) := by decide +kernel
theorem dL_law_554 : decode cL_law 554 = .ok (.aload_n 2, 1) := by decide +kernel
theorem dL_law_555 : decode cL_law 555 = .ok (.aload_n 0, 1) := by decide +kernel
theorem dL_law_556 : decode cL_law 556 = .ok (.iload_n 3, 1) := by decide +kernel
theorem dL_law_557 : decode cL_law 557 = .ok (.iconst 1, 1) := by decide +kernel
theorem dL_law_558 : decode cL_law 558 = .ok (.iadd, 1) := by decide +kernel
theorem dL_law_559 : decode cL_law 559 = .ok (.iaload, 1) := by decide +kernel
theorem dL_law_560 : decode cL_law 560 = .ok (.aload_n 0, 1) := by decide +kernel
theorem dL_law_561 : decode cL_law 561 = .ok (.iload_n 3, 1) := by decide +kernel
theorem dL_law_562 : decode cL_law 562 = .ok (.iconst 2, 1) := by decide +kernel
theorem dL_law_563 : decode cL_law 563 = .ok (.iadd, 1) := by decide +kernel
theorem dL_law_564 : decode cL_law 564 = .ok (.iaload, 1) := by decide +kernel
theorem dL_law_565 : decode cL_law 565 = .ok (.aload_n 0, 1) := by decide +kernel
theorem dL_law_566 : decode cL_law 566 = .ok (.iload_n 3, 1) := by decide +kernel
theorem dL_law_567 : decode cL_law 567 = .ok (.iconst 3, 1) := by decide +kernel
theorem dL_law_568 : decode cL_law 568 = .ok (.iadd, 1) := by decide +kernel
theorem dL_law_569 : decode cL_law 569 = .ok (.iaload, 1) := by decide +kernel
theorem dL_law_570 : decode cL_law 570 = .ok (.aload_n 0, 1) := by decide +kernel
theorem dL_law_571 : decode cL_law 571 = .ok (.iload_n 3, 1) := by decide +kernel
theorem dL_law_572 : decode cL_law 572 = .ok (.iconst 4, 1) := by decide +kernel
theorem dL_law_573 : decode cL_law 573 = .ok (.iadd, 1) := by decide +kernel
theorem dL_law_574 : decode cL_law 574 = .ok (.iaload, 1) := by decide +kernel
theorem dL_law_575 : decode cL_law 575 = .ok (.invokevirtual 64, 3) := by decide +kernel
theorem dL_law_578 : decode cL_law 578 = .ok (.if_icmp .eq 697, 3) := by decide +kernel
theorem dL_law_581 : decode cL_law 581 = .ok (.iconst 0, 1) := by decide +kernel
theorem dL_law_582 : decode cL_law 582 = .ok (.ireturn, 1) := by decide +kernel
theorem dL_law_583 : decode cL_law 583 = .ok (.aload_n 1, 1) := by decide +kernel
theorem dL_law_584 : decode cL_law 584 = .ok (.aload_n 0, 1) := by decide +kernel
theorem dL_law_585 : decode cL_law 585 = .ok (.iload_n 3, 1) := by decide +kernel
theorem dL_law_586 : decode cL_law 586 = .ok (.iconst 1, 1) := by decide +kernel
theorem dL_law_587 : decode cL_law 587 = .ok (.iadd, 1) := by decide +kernel
theorem dL_law_588 : decode cL_law 588 = .ok (.iaload, 1) := by decide +kernel
theorem dL_law_589 : decode cL_law 589 = .ok (.aload_n 0, 1) := by decide +kernel
theorem dL_law_590 : decode cL_law 590 = .ok (.iload_n 3, 1) := by decide +kernel
theorem dL_law_591 : decode cL_law 591 = .ok (.iconst 2, 1) := by decide +kernel
theorem dL_law_592 : decode cL_law 592 = .ok (.iadd, 1) := by decide +kernel
theorem dL_law_593 : decode cL_law 593 = .ok (.iaload, 1) := by decide +kernel
theorem dL_law_594 : decode cL_law 594 = .ok (.invokevirtual 65, 3) := by decide +kernel
theorem dL_law_597 : decode cL_law 597 = .ok (.aload_n 2, 1) := by decide +kernel
theorem dL_law_598 : decode cL_law 598 = .ok (.aload_n 0, 1) := by decide +kernel
theorem dL_law_599 : decode cL_law 599 = .ok (.iload_n 3, 1) := by decide +kernel
theorem dL_law_600 : decode cL_law 600 = .ok (.iconst 1, 1) := by decide +kernel
theorem dL_law_601 : decode cL_law 601 = .ok (.iadd, 1) := by decide +kernel
theorem dL_law_602 : decode cL_law 602 = .ok (.iaload, 1) := by decide +kernel
theorem dL_law_603 : decode cL_law 603 = .ok (.aload_n 0, 1) := by decide +kernel
theorem dL_law_604 : decode cL_law 604 = .ok (.iload_n 3, 1) := by decide +kernel
theorem dL_law_605 : decode cL_law 605 = .ok (.iconst 2, 1) := by decide +kernel
theorem dL_law_606 : decode cL_law 606 = .ok (.iadd, 1) := by decide +kernel
theorem dL_law_607 : decode cL_law 607 = .ok (.iaload, 1) := by decide +kernel
theorem dL_law_608 : decode cL_law 608 = .ok (.invokevirtual 68, 3) := by decide +kernel
theorem dL_law_611 : decode cL_law 611 = .ok (.if_icmp .eq 664, 3) := by decide +kernel
theorem dL_law_614 : decode cL_law 614 = .ok (.iconst 0, 1) := by decide +kernel
theorem dL_law_615 : decode cL_law 615 = .ok (.ireturn, 1) := by decide +kernel
theorem dL_law_616 : decode cL_law 616 = .ok (.aload_n 1, 1) := by decide +kernel
theorem dL_law_617 : decode cL_law 617 = .ok (.aload_n 0, 1) := by decide +kernel
theorem dL_law_618 : decode cL_law 618 = .ok (.iload_n 3, 1) := by decide +kernel
theorem dL_law_619 : decode cL_law 619 = .ok (.iconst 1, 1) := by decide +kernel
theorem dL_law_620 : decode cL_law 620 = .ok (.iadd, 1) := by decide +kernel
theorem dL_law_621 : decode cL_law 621 = .ok (.iaload, 1) := by decide +kernel
theorem dL_law_622 : decode cL_law 622 = .ok (.aload_n 0, 1) := by decide +kernel
theorem dL_law_623 : decode cL_law 623 = .ok (.iload_n 3, 1) := by decide +kernel
theorem dL_law_624 : decode cL_law 624 = .ok (.iconst 2, 1) := by decide +kernel
theorem dL_law_625 : decode cL_law 625 = .ok (.iadd, 1) := by decide +kernel
theorem dL_law_626 : decode cL_law 626 = .ok (.iaload, 1) := by decide +kernel
theorem dL_law_627 : decode cL_law 627 = .ok (.aload_n 0, 1) := by decide +kernel
theorem dL_law_628 : decode cL_law 628 = .ok (.iload_n 3, 1) := by decide +kernel
theorem dL_law_629 : decode cL_law 629 = .ok (.iconst 3, 1) := by decide +kernel
theorem dL_law_630 : decode cL_law 630 = .ok (.iadd, 1) := by decide +kernel
theorem dL_law_631 : decode cL_law 631 = .ok (.iaload, 1) := by decide +kernel
theorem dL_law_632 : decode cL_law 632 = .ok (.invokevirtual 69, 3) := by decide +kernel
theorem dL_law_635 : decode cL_law 635 = .ok (.aload_n 2, 1) := by decide +kernel
theorem dL_law_636 : decode cL_law 636 = .ok (.aload_n 0, 1) := by decide +kernel
theorem dL_law_637 : decode cL_law 637 = .ok (.iload_n 3, 1) := by decide +kernel
theorem dL_law_638 : decode cL_law 638 = .ok (.iconst 1, 1) := by decide +kernel
theorem dL_law_639 : decode cL_law 639 = .ok (.iadd, 1) := by decide +kernel
theorem dL_law_640 : decode cL_law 640 = .ok (.iaload, 1) := by decide +kernel
theorem dL_law_641 : decode cL_law 641 = .ok (.aload_n 0, 1) := by decide +kernel
theorem dL_law_642 : decode cL_law 642 = .ok (.iload_n 3, 1) := by decide +kernel
theorem dL_law_643 : decode cL_law 643 = .ok (.iconst 2, 1) := by decide +kernel
theorem dL_law_644 : decode cL_law 644 = .ok (.iadd, 1) := by decide +kernel
theorem dL_law_645 : decode cL_law 645 = .ok (.iaload, 1) := by decide +kernel
theorem dL_law_646 : decode cL_law 646 = .ok (.aload_n 0, 1) := by decide +kernel
theorem dL_law_647 : decode cL_law 647 = .ok (.iload_n 3, 1) := by decide +kernel
theorem dL_law_648 : decode cL_law 648 = .ok (.iconst 3, 1) := by decide +kernel
theorem dL_law_649 : decode cL_law 649 = .ok (.iadd, 1) := by decide +kernel
theorem dL_law_650 : decode cL_law 650 = .ok (.iaload, 1) := by decide +kernel
theorem dL_law_651 : decode cL_law 651 = .ok (.invokevirtual 72, 3) := by decide +kernel
theorem dL_law_654 : decode cL_law 654 = .ok (.if_icmp .eq 621, 3) := by decide +kernel
theorem dL_law_657 : decode cL_law 657 = .ok (.iconst 0, 1) := by decide +kernel
theorem dL_law_658 : decode cL_law 658 = .ok (.ireturn, 1) := by decide +kernel
theorem dL_law_659 : decode cL_law 659 = .ok (.aload_n 1, 1) := by decide +kernel
theorem dL_law_660 : decode cL_law 660 = .ok (.aload_n 0, 1) := by decide +kernel
theorem dL_law_661 : decode cL_law 661 = .ok (.iload_n 3, 1) := by decide +kernel
theorem dL_law_662 : decode cL_law 662 = .ok (.iconst 1, 1) := by decide +kernel
theorem dL_law_663 : decode cL_law 663 = .ok (.iadd, 1) := by decide +kernel
theorem dL_law_664 : decode cL_law 664 = .ok (.iaload, 1) := by decide +kernel
theorem dL_law_665 : decode cL_law 665 = .ok (.aload_n 0, 1) := by decide +kernel
theorem dL_law_666 : decode cL_law 666 = .ok (.iload_n 3, 1) := by decide +kernel
theorem dL_law_667 : decode cL_law 667 = .ok (.iconst 2, 1) := by decide +kernel
theorem dL_law_668 : decode cL_law 668 = .ok (.iadd, 1) := by decide +kernel
theorem dL_law_669 : decode cL_law 669 = .ok (.iaload, 1) := by decide +kernel
theorem dL_law_670 : decode cL_law 670 = .ok (.invokevirtual 73, 3) := by decide +kernel
theorem dL_law_673 : decode cL_law 673 = .ok (.aload_n 2, 1) := by decide +kernel
theorem dL_law_674 : decode cL_law 674 = .ok (.aload_n 0, 1) := by decide +kernel
theorem dL_law_675 : decode cL_law 675 = .ok (.iload_n 3, 1) := by decide +kernel
theorem dL_law_676 : decode cL_law 676 = .ok (.iconst 1, 1) := by decide +kernel
theorem dL_law_677 : decode cL_law 677 = .ok (.iadd, 1) := by decide +kernel
theorem dL_law_678 : decode cL_law 678 = .ok (.iaload, 1) := by decide +kernel
theorem dL_law_679 : decode cL_law 679 = .ok (.aload_n 0, 1) := by decide +kernel
theorem dL_law_680 : decode cL_law 680 = .ok (.iload_n 3, 1) := by decide +kernel
theorem dL_law_681 : decode cL_law 681 = .ok (.iconst 2, 1) := by decide +kernel
theorem dL_law_682 : decode cL_law 682 = .ok (.iadd, 1) := by decide +kernel
theorem dL_law_683 : decode cL_law 683 = .ok (.iaload, 1) := by decide +kernel
theorem dL_law_684 : decode cL_law 684 = .ok (.invokevirtual 76, 3) := by decide +kernel
theorem dL_law_687 : decode cL_law 687 = .ok (.if_icmp .eq 588, 3) := by decide +kernel
theorem dL_law_690 : decode cL_law 690 = .ok (.iconst 0, 1) := by decide +kernel
theorem dL_law_691 : decode cL_law 691 = .ok (.ireturn, 1) := by decide +kernel
theorem dL_law_692 : decode cL_law 692 = .ok (.aload_n 1, 1) := by decide +kernel
theorem dL_law_693 : decode cL_law 693 = .ok (.aload_n 0, 1) := by decide +kernel
theorem dL_law_694 : decode cL_law 694 = .ok (.iload_n 3, 1) := by decide +kernel
theorem dL_law_695 : decode cL_law 695 = .ok (.iconst 1, 1) := by decide +kernel
theorem dL_law_696 : decode cL_law 696 = .ok (.iadd, 1) := by decide +kernel
theorem dL_law_697 : decode cL_law 697 = .ok (.iaload, 1) := by decide +kernel
theorem dL_law_698 : decode cL_law 698 = .ok (.invokevirtual 77, 3) := by decide +kernel
theorem dL_law_701 : decode cL_law 701 = .ok (.aload_n 2, 1) := by decide +kernel
theorem dL_law_702 : decode cL_law 702 = .ok (.aload_n 0, 1) := by decide +kernel
theorem dL_law_703 : decode cL_law 703 = .ok (.iload_n 3, 1) := by decide +kernel
theorem dL_law_704 : decode cL_law 704 = .ok (.iconst 1, 1) := by decide +kernel
theorem dL_law_705 : decode cL_law 705 = .ok (.iadd, 1) := by decide +kernel
theorem dL_law_706 : decode cL_law 706 = .ok (.iaload, 1) := by decide +kernel
theorem dL_law_707 : decode cL_law 707 = .ok (.invokevirtual 80, 3) := by decide +kernel
theorem dL_law_710 : decode cL_law 710 = .ok (.if_icmp .eq 565, 3) := by decide +kernel
theorem dL_law_713 : decode cL_law 713 = .ok (.iconst 0, 1) := by decide +kernel
theorem dL_law_714 : decode cL_law 714 = .ok (.ireturn, 1) := by decide +kernel
theorem dL_law_715 : decode cL_law 715 = .ok (.aload_n 1, 1) := by decide +kernel
theorem dL_law_716 : decode cL_law 716 = .ok (.aload_n 0, 1) := by decide +kernel
theorem dL_law_717 : decode cL_law 717 = .ok (.iload_n 3, 1) := by decide +kernel
theorem dL_law_718 : decode cL_law 718 = .ok (.iconst 1, 1) := by decide +kernel
theorem dL_law_719 : decode cL_law 719 = .ok (.iadd, 1) := by decide +kernel
theorem dL_law_720 : decode cL_law 720 = .ok (.iaload, 1) := by decide +kernel
theorem dL_law_721 : decode cL_law 721 = .ok (.aload_n 0, 1) := by decide +kernel
theorem dL_law_722 : decode cL_law 722 = .ok (.iload_n 3, 1) := by decide +kernel
theorem dL_law_723 : decode cL_law 723 = .ok (.iconst 2, 1) := by decide +kernel
theorem dL_law_724 : decode cL_law 724 = .ok (.iadd, 1) := by decide +kernel
theorem dL_law_725 : decode cL_law 725 = .ok (.iaload, 1) := by decide +kernel
theorem dL_law_726 : decode cL_law 726 = .ok (.invokevirtual 81, 3) := by decide +kernel
theorem dL_law_729 : decode cL_law 729 = .ok (.aload_n 2, 1) := by decide +kernel
theorem dL_law_730 : decode cL_law 730 = .ok (.aload_n 0, 1) := by decide +kernel
theorem dL_law_731 : decode cL_law 731 = .ok (.iload_n 3, 1) := by decide +kernel
theorem dL_law_732 : decode cL_law 732 = .ok (.iconst 1, 1) := by decide +kernel
theorem dL_law_733 : decode cL_law 733 = .ok (.iadd, 1) := by decide +kernel
theorem dL_law_734 : decode cL_law 734 = .ok (.iaload, 1) := by decide +kernel
theorem dL_law_735 : decode cL_law 735 = .ok (.aload_n 0, 1) := by decide +kernel
theorem dL_law_736 : decode cL_law 736 = .ok (.iload_n 3, 1) := by decide +kernel
theorem dL_law_737 : decode cL_law 737 = .ok (.iconst 2, 1) := by decide +kernel
theorem dL_law_738 : decode cL_law 738 = .ok (.iadd, 1) := by decide +kernel
theorem dL_law_739 : decode cL_law 739 = .ok (.iaload, 1) := by decide +kernel
theorem dL_law_740 : decode cL_law 740 = .ok (.invokevirtual 84, 3) := by decide +kernel
theorem dL_law_743 : decode cL_law 743 = .ok (.if_icmp .eq 532, 3) := by decide +kernel
theorem dL_law_746 : decode cL_law 746 = .ok (.iconst 0, 1) := by decide +kernel
theorem dL_law_747 : decode cL_law 747 = .ok (.ireturn, 1) := by decide +kernel
theorem dL_law_748 : decode cL_law 748 = .ok (.aload_n 1, 1) := by decide +kernel
theorem dL_law_749 : decode cL_law 749 = .ok (.aload_n 0, 1) := by decide +kernel
theorem dL_law_750 : decode cL_law 750 = .ok (.iload_n 3, 1) := by decide +kernel
theorem dL_law_751 : decode cL_law 751 = .ok (.iconst 1, 1) := by decide +kernel
theorem dL_law_752 : decode cL_law 752 = .ok (.iadd, 1) := by decide +kernel
theorem dL_law_753 : decode cL_law 753 = .ok (.iaload, 1) := by decide +kernel
theorem dL_law_754 : decode cL_law 754 = .ok (.aload_n 0, 1) := by decide +kernel
theorem dL_law_755 : decode cL_law 755 = .ok (.iload_n 3, 1) := by decide +kernel
theorem dL_law_756 : decode cL_law 756 = .ok (.iconst 2, 1) := by decide +kernel
theorem dL_law_757 : decode cL_law 757 = .ok (.iadd, 1) := by decide +kernel
theorem dL_law_758 : decode cL_law 758 = .ok (.iaload, 1) := by decide +kernel
theorem dL_law_759 : decode cL_law 759 = .ok (.invokevirtual 85, 3) := by decide +kernel
theorem dL_law_762 : decode cL_law 762 = .ok (.aload_n 2, 1) := by decide +kernel
theorem dL_law_763 : decode cL_law 763 = .ok (.aload_n 0, 1) := by decide +kernel
theorem dL_law_764 : decode cL_law 764 = .ok (.iload_n 3, 1) := by decide +kernel
theorem dL_law_765 : decode cL_law 765 = .ok (.iconst 1, 1) := by decide +kernel
theorem dL_law_766 : decode cL_law 766 = .ok (.iadd, 1) := by decide +kernel
theorem dL_law_767 : decode cL_law 767 = .ok (.iaload, 1) := by decide +kernel
theorem dL_law_768 : decode cL_law 768 = .ok (.aload_n 0, 1) := by decide +kernel
theorem dL_law_769 : decode cL_law 769 = .ok (.iload_n 3, 1) := by decide +kernel
theorem dL_law_770 : decode cL_law 770 = .ok (.iconst 2, 1) := by decide +kernel
theorem dL_law_771 : decode cL_law 771 = .ok (.iadd, 1) := by decide +kernel
theorem dL_law_772 : decode cL_law 772 = .ok (.iaload, 1) := by decide +kernel
theorem dL_law_773 : decode cL_law 773 = .ok (.invokevirtual 88, 3) := by decide +kernel
theorem dL_law_776 : decode cL_law 776 = .ok (.if_icmp .eq 499, 3) := by decide +kernel
theorem dL_law_779 : decode cL_law 779 = .ok (.iconst 0, 1) := by decide +kernel
theorem dL_law_780 : decode cL_law 780 = .ok (.ireturn, 1) := by decide +kernel
theorem dL_law_781 : decode cL_law 781 = .ok (.aload_n 1, 1) := by decide +kernel
theorem dL_law_782 : decode cL_law 782 = .ok (.aload_n 0, 1) := by decide +kernel
theorem dL_law_783 : decode cL_law 783 = .ok (.iload_n 3, 1) := by decide +kernel
theorem dL_law_784 : decode cL_law 784 = .ok (.iconst 1, 1) := by decide +kernel
theorem dL_law_785 : decode cL_law 785 = .ok (.iadd, 1) := by decide +kernel
theorem dL_law_786 : decode cL_law 786 = .ok (.iaload, 1) := by decide +kernel
theorem dL_law_787 : decode cL_law 787 = .ok (.aload_n 0, 1) := by decide +kernel
theorem dL_law_788 : decode cL_law 788 = .ok (.iload_n 3, 1) := by decide +kernel
theorem dL_law_789 : decode cL_law 789 = .ok (.iconst 2, 1) := by decide +kernel
theorem dL_law_790 : decode cL_law 790 = .ok (.iadd, 1) := by decide +kernel
theorem dL_law_791 : decode cL_law 791 = .ok (.iaload, 1) := by decide +kernel
theorem dL_law_792 : decode cL_law 792 = .ok (.invokevirtual 89, 3) := by decide +kernel
theorem dL_law_795 : decode cL_law 795 = .ok (.aload_n 2, 1) := by decide +kernel
theorem dL_law_796 : decode cL_law 796 = .ok (.aload_n 0, 1) := by decide +kernel
theorem dL_law_797 : decode cL_law 797 = .ok (.iload_n 3, 1) := by decide +kernel
theorem dL_law_798 : decode cL_law 798 = .ok (.iconst 1, 1) := by decide +kernel
theorem dL_law_799 : decode cL_law 799 = .ok (.iadd, 1) := by decide +kernel
theorem dL_law_800 : decode cL_law 800 = .ok (.iaload, 1) := by decide +kernel
theorem dL_law_801 : decode cL_law 801 = .ok (.aload_n 0, 1) := by decide +kernel
theorem dL_law_802 : decode cL_law 802 = .ok (.iload_n 3, 1) := by decide +kernel
theorem dL_law_803 : decode cL_law 803 = .ok (.iconst 2, 1) := by decide +kernel
theorem dL_law_804 : decode cL_law 804 = .ok (.iadd, 1) := by decide +kernel
theorem dL_law_805 : decode cL_law 805 = .ok (.iaload, 1) := by decide +kernel
theorem dL_law_806 : decode cL_law 806 = .ok (.invokevirtual 92, 3) := by decide +kernel
theorem dL_law_809 : decode cL_law 809 = .ok (.if_icmp .eq 466, 3) := by decide +kernel
theorem dL_law_812 : decode cL_law 812 = .ok (.iconst 0, 1) := by decide +kernel
theorem dL_law_813 : decode cL_law 813 = .ok (.ireturn, 1) := by decide +kernel
theorem dL_law_814 : decode cL_law 814 = .ok (.aload_n 1, 1) := by decide +kernel
theorem dL_law_815 : decode cL_law 815 = .ok (.aload_n 0, 1) := by decide +kernel
theorem dL_law_816 : decode cL_law 816 = .ok (.iload_n 3, 1) := by decide +kernel
theorem dL_law_817 : decode cL_law 817 = .ok (.iconst 1, 1) := by decide +kernel
theorem dL_law_818 : decode cL_law 818 = .ok (.iadd, 1) := by decide +kernel
theorem dL_law_819 : decode cL_law 819 = .ok (.iaload, 1) := by decide +kernel
theorem dL_law_820 : decode cL_law 820 = .ok (.aload_n 0, 1) := by decide +kernel
theorem dL_law_821 : decode cL_law 821 = .ok (.iload_n 3, 1) := by decide +kernel
theorem dL_law_822 : decode cL_law 822 = .ok (.iconst 2, 1) := by decide +kernel
theorem dL_law_823 : decode cL_law 823 = .ok (.iadd, 1) := by decide +kernel
theorem dL_law_824 : decode cL_law 824 = .ok (.iaload, 1) := by decide +kernel
theorem dL_law_825 : decode cL_law 825 = .ok (.invokevirtual 93, 3) := by decide +kernel
theorem dL_law_828 : decode cL_law 828 = .ok (.aload_n 2, 1) := by decide +kernel
theorem dL_law_829 : decode cL_law 829 = .ok (.aload_n 0, 1) := by decide +kernel
theorem dL_law_830 : decode cL_law 830 = .ok (.iload_n 3, 1) := by decide +kernel
theorem dL_law_831 : decode cL_law 831 = .ok (.iconst 1, 1) := by decide +kernel
theorem dL_law_832 : decode cL_law 832 = .ok (.iadd, 1) := by decide +kernel
theorem dL_law_833 : decode cL_law 833 = .ok (.iaload, 1) := by decide +kernel
theorem dL_law_834 : decode cL_law 834 = .ok (.aload_n 0, 1) := by decide +kernel
theorem dL_law_835 : decode cL_law 835 = .ok (.iload_n 3, 1) := by decide +kernel
theorem dL_law_836 : decode cL_law 836 = .ok (.iconst 2, 1) := by decide +kernel
theorem dL_law_837 : decode cL_law 837 = .ok (.iadd, 1) := by decide +kernel
theorem dL_law_838 : decode cL_law 838 = .ok (.iaload, 1) := by decide +kernel
theorem dL_law_839 : decode cL_law 839 = .ok (.invokevirtual 96, 3) := by decide +kernel
theorem dL_law_842 : decode cL_law 842 = .ok (.if_icmp .eq 433, 3) := by decide +kernel
theorem dL_law_845 : decode cL_law 845 = .ok (.iconst 0, 1) := by decide +kernel
theorem dL_law_846 : decode cL_law 846 = .ok (.ireturn, 1) := by decide +kernel
theorem dL_law_847 : decode cL_law 847 = .ok (.aload_n 1, 1) := by decide +kernel
theorem dL_law_848 : decode cL_law 848 = .ok (.aload_n 0, 1) := by decide +kernel
theorem dL_law_849 : decode cL_law 849 = .ok (.iload_n 3, 1) := by decide +kernel
theorem dL_law_850 : decode cL_law 850 = .ok (.iconst 1, 1) := by decide +kernel
theorem dL_law_851 : decode cL_law 851 = .ok (.iadd, 1) := by decide +kernel
theorem dL_law_852 : decode cL_law 852 = .ok (.iaload, 1) := by decide +kernel
theorem dL_law_853 : decode cL_law 853 = .ok (.aload_n 0, 1) := by decide +kernel
theorem dL_law_854 : decode cL_law 854 = .ok (.iload_n 3, 1) := by decide +kernel
theorem dL_law_855 : decode cL_law 855 = .ok (.iconst 2, 1) := by decide +kernel
theorem dL_law_856 : decode cL_law 856 = .ok (.iadd, 1) := by decide +kernel
theorem dL_law_857 : decode cL_law 857 = .ok (.iaload, 1) := by decide +kernel
theorem dL_law_858 : decode cL_law 858 = .ok (.invokevirtual 97, 3) := by decide +kernel
theorem dL_law_861 : decode cL_law 861 = .ok (.aload_n 2, 1) := by decide +kernel
theorem dL_law_862 : decode cL_law 862 = .ok (.aload_n 0, 1) := by decide +kernel
theorem dL_law_863 : decode cL_law 863 = .ok (.iload_n 3, 1) := by decide +kernel
theorem dL_law_864 : decode cL_law 864 = .ok (.iconst 1, 1) := by decide +kernel
theorem dL_law_865 : decode cL_law 865 = .ok (.iadd, 1) := by decide +kernel
theorem dL_law_866 : decode cL_law 866 = .ok (.iaload, 1) := by decide +kernel
theorem dL_law_867 : decode cL_law 867 = .ok (.aload_n 0, 1) := by decide +kernel
theorem dL_law_868 : decode cL_law 868 = .ok (.iload_n 3, 1) := by decide +kernel
theorem dL_law_869 : decode cL_law 869 = .ok (.iconst 2, 1) := by decide +kernel
theorem dL_law_870 : decode cL_law 870 = .ok (.iadd, 1) := by decide +kernel
theorem dL_law_871 : decode cL_law 871 = .ok (.iaload, 1) := by decide +kernel
theorem dL_law_872 : decode cL_law 872 = .ok (.invokevirtual 100, 3) := by decide +kernel
theorem dL_law_875 : decode cL_law 875 = .ok (.if_icmp .eq 400, 3) := by decide +kernel
theorem dL_law_878 : decode cL_law 878 = .ok (.iconst 0, 1) := by decide +kernel
theorem dL_law_879 : decode cL_law 879 = .ok (.ireturn, 1) := by decide +kernel
theorem dL_law_880 : decode cL_law 880 = .ok (.aload_n 1, 1) := by decide +kernel
theorem dL_law_881 : decode cL_law 881 = .ok (.aload_n 0, 1) := by decide +kernel
theorem dL_law_882 : decode cL_law 882 = .ok (.iload_n 3, 1) := by decide +kernel
theorem dL_law_883 : decode cL_law 883 = .ok (.iconst 1, 1) := by decide +kernel
theorem dL_law_884 : decode cL_law 884 = .ok (.iadd, 1) := by decide +kernel
theorem dL_law_885 : decode cL_law 885 = .ok (.iaload, 1) := by decide +kernel
theorem dL_law_886 : decode cL_law 886 = .ok (.aload_n 0, 1) := by decide +kernel
theorem dL_law_887 : decode cL_law 887 = .ok (.iload_n 3, 1) := by decide +kernel
theorem dL_law_888 : decode cL_law 888 = .ok (.iconst 2, 1) := by decide +kernel
theorem dL_law_889 : decode cL_law 889 = .ok (.iadd, 1) := by decide +kernel
theorem dL_law_890 : decode cL_law 890 = .ok (.iaload, 1) := by decide +kernel
theorem dL_law_891 : decode cL_law 891 = .ok (.invokevirtual 101, 3) := by decide +kernel
theorem dL_law_894 : decode cL_law 894 = .ok (.aload_n 2, 1) := by decide +kernel
theorem dL_law_895 : decode cL_law 895 = .ok (.aload_n 0, 1) := by decide +kernel
theorem dL_law_896 : decode cL_law 896 = .ok (.iload_n 3, 1) := by decide +kernel
theorem dL_law_897 : decode cL_law 897 = .ok (.iconst 1, 1) := by decide +kernel
theorem dL_law_898 : decode cL_law 898 = .ok (.iadd, 1) := by decide +kernel
theorem dL_law_899 : decode cL_law 899 = .ok (.iaload, 1) := by decide +kernel
theorem dL_law_900 : decode cL_law 900 = .ok (.aload_n 0, 1) := by decide +kernel
theorem dL_law_901 : decode cL_law 901 = .ok (.iload_n 3, 1) := by decide +kernel
theorem dL_law_902 : decode cL_law 902 = .ok (.iconst 2, 1) := by decide +kernel
theorem dL_law_903 : decode cL_law 903 = .ok (.iadd, 1) := by decide +kernel
theorem dL_law_904 : decode cL_law 904 = .ok (.iaload, 1) := by decide +kernel
theorem dL_law_905 : decode cL_law 905 = .ok (.invokevirtual 104, 3) := by decide +kernel
theorem dL_law_908 : decode cL_law 908 = .ok (.if_icmp .eq 367, 3) := by decide +kernel
theorem dL_law_911 : decode cL_law 911 = .ok (.iconst 0, 1) := by decide +kernel
theorem dL_law_912 : decode cL_law 912 = .ok (.ireturn, 1) := by decide +kernel
theorem dL_law_913 : decode cL_law 913 = .ok (.aload_n 1, 1) := by decide +kernel
theorem dL_law_914 : decode cL_law 914 = .ok (.aload_n 0, 1) := by decide +kernel
theorem dL_law_915 : decode cL_law 915 = .ok (.iload_n 3, 1) := by decide +kernel
theorem dL_law_916 : decode cL_law 916 = .ok (.iconst 1, 1) := by decide +kernel
theorem dL_law_917 : decode cL_law 917 = .ok (.iadd, 1) := by decide +kernel
theorem dL_law_918 : decode cL_law 918 = .ok (.iaload, 1) := by decide +kernel
theorem dL_law_919 : decode cL_law 919 = .ok (.aload_n 0, 1) := by decide +kernel
theorem dL_law_920 : decode cL_law 920 = .ok (.iload_n 3, 1) := by decide +kernel
theorem dL_law_921 : decode cL_law 921 = .ok (.iconst 2, 1) := by decide +kernel
theorem dL_law_922 : decode cL_law 922 = .ok (.iadd, 1) := by decide +kernel
theorem dL_law_923 : decode cL_law 923 = .ok (.iaload, 1) := by decide +kernel
theorem dL_law_924 : decode cL_law 924 = .ok (.aload_n 0, 1) := by decide +kernel
theorem dL_law_925 : decode cL_law 925 = .ok (.iload_n 3, 1) := by decide +kernel
theorem dL_law_926 : decode cL_law 926 = .ok (.iconst 3, 1) := by decide +kernel
theorem dL_law_927 : decode cL_law 927 = .ok (.iadd, 1) := by decide +kernel
theorem dL_law_928 : decode cL_law 928 = .ok (.iaload, 1) := by decide +kernel
theorem dL_law_929 : decode cL_law 929 = .ok (.invokevirtual 105, 3) := by decide +kernel
theorem dL_law_932 : decode cL_law 932 = .ok (.aload_n 2, 1) := by decide +kernel
theorem dL_law_933 : decode cL_law 933 = .ok (.aload_n 0, 1) := by decide +kernel
theorem dL_law_934 : decode cL_law 934 = .ok (.iload_n 3, 1) := by decide +kernel
theorem dL_law_935 : decode cL_law 935 = .ok (.iconst 1, 1) := by decide +kernel
theorem dL_law_936 : decode cL_law 936 = .ok (.iadd, 1) := by decide +kernel
theorem dL_law_937 : decode cL_law 937 = .ok (.iaload, 1) := by decide +kernel
theorem dL_law_938 : decode cL_law 938 = .ok (.aload_n 0, 1) := by decide +kernel
theorem dL_law_939 : decode cL_law 939 = .ok (.iload_n 3, 1) := by decide +kernel
theorem dL_law_940 : decode cL_law 940 = .ok (.iconst 2, 1) := by decide +kernel
theorem dL_law_941 : decode cL_law 941 = .ok (.iadd, 1) := by decide +kernel
theorem dL_law_942 : decode cL_law 942 = .ok (.iaload, 1) := by decide +kernel
theorem dL_law_943 : decode cL_law 943 = .ok (.aload_n 0, 1) := by decide +kernel
theorem dL_law_944 : decode cL_law 944 = .ok (.iload_n 3, 1) := by decide +kernel
theorem dL_law_945 : decode cL_law 945 = .ok (.iconst 3, 1) := by decide +kernel
theorem dL_law_946 : decode cL_law 946 = .ok (.iadd, 1) := by decide +kernel
theorem dL_law_947 : decode cL_law 947 = .ok (.iaload, 1) := by decide +kernel
theorem dL_law_948 : decode cL_law 948 = .ok (.invokevirtual 108, 3) := by decide +kernel
theorem dL_law_951 : decode cL_law 951 = .ok (.if_icmp .eq 324, 3) := by decide +kernel
theorem dL_law_954 : decode cL_law 954 = .ok (.iconst 0, 1) := by decide +kernel
theorem dL_law_955 : decode cL_law 955 = .ok (.ireturn, 1) := by decide +kernel
theorem dL_law_956 : decode cL_law 956 = .ok (.aload_n 1, 1) := by decide +kernel
theorem dL_law_957 : decode cL_law 957 = .ok (.aload_n 0, 1) := by decide +kernel
theorem dL_law_958 : decode cL_law 958 = .ok (.iload_n 3, 1) := by decide +kernel
theorem dL_law_959 : decode cL_law 959 = .ok (.iconst 1, 1) := by decide +kernel
theorem dL_law_960 : decode cL_law 960 = .ok (.iadd, 1) := by decide +kernel
theorem dL_law_961 : decode cL_law 961 = .ok (.iaload, 1) := by decide +kernel
theorem dL_law_962 : decode cL_law 962 = .ok (.aload_n 0, 1) := by decide +kernel
theorem dL_law_963 : decode cL_law 963 = .ok (.iload_n 3, 1) := by decide +kernel
theorem dL_law_964 : decode cL_law 964 = .ok (.iconst 2, 1) := by decide +kernel
theorem dL_law_965 : decode cL_law 965 = .ok (.iadd, 1) := by decide +kernel
theorem dL_law_966 : decode cL_law 966 = .ok (.iaload, 1) := by decide +kernel
theorem dL_law_967 : decode cL_law 967 = .ok (.invokevirtual 109, 3) := by decide +kernel
theorem dL_law_970 : decode cL_law 970 = .ok (.aload_n 2, 1) := by decide +kernel
theorem dL_law_971 : decode cL_law 971 = .ok (.aload_n 0, 1) := by decide +kernel
theorem dL_law_972 : decode cL_law 972 = .ok (.iload_n 3, 1) := by decide +kernel
theorem dL_law_973 : decode cL_law 973 = .ok (.iconst 1, 1) := by decide +kernel
theorem dL_law_974 : decode cL_law 974 = .ok (.iadd, 1) := by decide +kernel
theorem dL_law_975 : decode cL_law 975 = .ok (.iaload, 1) := by decide +kernel
theorem dL_law_976 : decode cL_law 976 = .ok (.aload_n 0, 1) := by decide +kernel
theorem dL_law_977 : decode cL_law 977 = .ok (.iload_n 3, 1) := by decide +kernel
theorem dL_law_978 : decode cL_law 978 = .ok (.iconst 2, 1) := by decide +kernel
theorem dL_law_979 : decode cL_law 979 = .ok (.iadd, 1) := by decide +kernel
theorem dL_law_980 : decode cL_law 980 = .ok (.iaload, 1) := by decide +kernel
theorem dL_law_981 : decode cL_law 981 = .ok (.invokevirtual 112, 3) := by decide +kernel
theorem dL_law_984 : decode cL_law 984 = .ok (.if_icmp .eq 291, 3) := by decide +kernel
theorem dL_law_987 : decode cL_law 987 = .ok (.iconst 0, 1) := by decide +kernel
theorem dL_law_988 : decode cL_law 988 = .ok (.ireturn, 1) := by decide +kernel
theorem dL_law_989 : decode cL_law 989 = .ok (.aload_n 1, 1) := by decide +kernel
theorem dL_law_990 : decode cL_law 990 = .ok (.aload_n 0, 1) := by decide +kernel
theorem dL_law_991 : decode cL_law 991 = .ok (.iload_n 3, 1) := by decide +kernel
theorem dL_law_992 : decode cL_law 992 = .ok (.iconst 1, 1) := by decide +kernel
theorem dL_law_993 : decode cL_law 993 = .ok (.iadd, 1) := by decide +kernel
theorem dL_law_994 : decode cL_law 994 = .ok (.iaload, 1) := by decide +kernel
theorem dL_law_995 : decode cL_law 995 = .ok (.invokevirtual 113, 3) := by decide +kernel
theorem dL_law_998 : decode cL_law 998 = .ok (.aload_n 2, 1) := by decide +kernel
theorem dL_law_999 : decode cL_law 999 = .ok (.aload_n 0, 1) := by decide +kernel
theorem dL_law_1000 : decode cL_law 1000 = .ok (.iload_n 3, 1) := by decide +kernel
theorem dL_law_1001 : decode cL_law 1001 = .ok (.iconst 1, 1) := by decide +kernel
theorem dL_law_1002 : decode cL_law 1002 = .ok (.iadd, 1) := by decide +kernel
theorem dL_law_1003 : decode cL_law 1003 = .ok (.iaload, 1) := by decide +kernel
theorem dL_law_1004 : decode cL_law 1004 = .ok (.invokevirtual 116, 3) := by decide +kernel
theorem dL_law_1007 : decode cL_law 1007 = .ok (.if_icmp .eq 268, 3) := by decide +kernel
theorem dL_law_1010 : decode cL_law 1010 = .ok (.iconst 0, 1) := by decide +kernel
theorem dL_law_1011 : decode cL_law 1011 = .ok (.ireturn, 1) := by decide +kernel
theorem dL_law_1012 : decode cL_law 1012 = .ok (.aload_n 1, 1) := by decide +kernel
theorem dL_law_1013 : decode cL_law 1013 = .ok (.aload_n 0, 1) := by decide +kernel
theorem dL_law_1014 : decode cL_law 1014 = .ok (.iload_n 3, 1) := by decide +kernel
theorem dL_law_1015 : decode cL_law 1015 = .ok (.iconst 1, 1) := by decide +kernel
theorem dL_law_1016 : decode cL_law 1016 = .ok (.iadd, 1) := by decide +kernel
theorem dL_law_1017 : decode cL_law 1017 = .ok (.iaload, 1) := by decide +kernel
theorem dL_law_1018 : decode cL_law 1018 = .ok (.aload_n 0, 1) := by decide +kernel
theorem dL_law_1019 : decode cL_law 1019 = .ok (.iload_n 3, 1) := by decide +kernel
theorem dL_law_1020 : decode cL_law 1020 = .ok (.iconst 2, 1) := by decide +kernel
theorem dL_law_1021 : decode cL_law 1021 = .ok (.iadd, 1) := by decide +kernel
theorem dL_law_1022 : decode cL_law 1022 = .ok (.iaload, 1) := by decide +kernel
theorem dL_law_1023 : decode cL_law 1023 = .ok (.aload_n 0, 1) := by decide +kernel
theorem dL_law_1024 : decode cL_law 1024 = .ok (.iload_n 3, 1) := by decide +kernel
theorem dL_law_1025 : decode cL_law 1025 = .ok (.iconst 3, 1) := by decide +kernel
theorem dL_law_1026 : decode cL_law 1026 = .ok (.iadd, 1) := by decide +kernel
theorem dL_law_1027 : decode cL_law 1027 = .ok (.iaload, 1) := by decide +kernel
theorem dL_law_1028 : decode cL_law 1028 = .ok (.invokevirtual 117, 3) := by decide +kernel
theorem dL_law_1031 : decode cL_law 1031 = .ok (.aload_n 2, 1) := by decide +kernel
theorem dL_law_1032 : decode cL_law 1032 = .ok (.aload_n 0, 1) := by decide +kernel
theorem dL_law_1033 : decode cL_law 1033 = .ok (.iload_n 3, 1) := by decide +kernel
theorem dL_law_1034 : decode cL_law 1034 = .ok (.iconst 1, 1) := by decide +kernel
theorem dL_law_1035 : decode cL_law 1035 = .ok (.iadd, 1) := by decide +kernel
theorem dL_law_1036 : decode cL_law 1036 = .ok (.iaload, 1) := by decide +kernel
theorem dL_law_1037 : decode cL_law 1037 = .ok (.aload_n 0, 1) := by decide +kernel
theorem dL_law_1038 : decode cL_law 1038 = .ok (.iload_n 3, 1) := by decide +kernel
theorem dL_law_1039 : decode cL_law 1039 = .ok (.iconst 2, 1) := by decide +kernel
theorem dL_law_1040 : decode cL_law 1040 = .ok (.iadd, 1) := by decide +kernel
theorem dL_law_1041 : decode cL_law 1041 = .ok (.iaload, 1) := by decide +kernel
theorem dL_law_1042 : decode cL_law 1042 = .ok (.aload_n 0, 1) := by decide +kernel
theorem dL_law_1043 : decode cL_law 1043 = .ok (.iload_n 3, 1) := by decide +kernel
theorem dL_law_1044 : decode cL_law 1044 = .ok (.iconst 3, 1) := by decide +kernel
theorem dL_law_1045 : decode cL_law 1045 = .ok (.iadd, 1) := by decide +kernel
theorem dL_law_1046 : decode cL_law 1046 = .ok (.iaload, 1) := by decide +kernel
theorem dL_law_1047 : decode cL_law 1047 = .ok (.invokevirtual 120, 3) := by decide +kernel
theorem dL_law_1050 : decode cL_law 1050 = .ok (.if_icmp .eq 225, 3) := by decide +kernel
theorem dL_law_1053 : decode cL_law 1053 = .ok (.iconst 0, 1) := by decide +kernel
theorem dL_law_1054 : decode cL_law 1054 = .ok (.ireturn, 1) := by decide +kernel
theorem dL_law_1055 : decode cL_law 1055 = .ok (.aload_n 1, 1) := by decide +kernel
theorem dL_law_1056 : decode cL_law 1056 = .ok (.aload_n 0, 1) := by decide +kernel
theorem dL_law_1057 : decode cL_law 1057 = .ok (.iload_n 3, 1) := by decide +kernel
theorem dL_law_1058 : decode cL_law 1058 = .ok (.iconst 1, 1) := by decide +kernel
theorem dL_law_1059 : decode cL_law 1059 = .ok (.iadd, 1) := by decide +kernel
theorem dL_law_1060 : decode cL_law 1060 = .ok (.iaload, 1) := by decide +kernel
theorem dL_law_1061 : decode cL_law 1061 = .ok (.aload_n 0, 1) := by decide +kernel
theorem dL_law_1062 : decode cL_law 1062 = .ok (.iload_n 3, 1) := by decide +kernel
theorem dL_law_1063 : decode cL_law 1063 = .ok (.iconst 2, 1) := by decide +kernel
theorem dL_law_1064 : decode cL_law 1064 = .ok (.iadd, 1) := by decide +kernel
theorem dL_law_1065 : decode cL_law 1065 = .ok (.iaload, 1) := by decide +kernel
theorem dL_law_1066 : decode cL_law 1066 = .ok (.aload_n 0, 1) := by decide +kernel
theorem dL_law_1067 : decode cL_law 1067 = .ok (.iload_n 3, 1) := by decide +kernel
theorem dL_law_1068 : decode cL_law 1068 = .ok (.iconst 3, 1) := by decide +kernel
theorem dL_law_1069 : decode cL_law 1069 = .ok (.iadd, 1) := by decide +kernel
theorem dL_law_1070 : decode cL_law 1070 = .ok (.iaload, 1) := by decide +kernel
theorem dL_law_1071 : decode cL_law 1071 = .ok (.invokevirtual 121, 3) := by decide +kernel
theorem dL_law_1074 : decode cL_law 1074 = .ok (.aload_n 2, 1) := by decide +kernel
theorem dL_law_1075 : decode cL_law 1075 = .ok (.aload_n 0, 1) := by decide +kernel
theorem dL_law_1076 : decode cL_law 1076 = .ok (.iload_n 3, 1) := by decide +kernel
theorem dL_law_1077 : decode cL_law 1077 = .ok (.iconst 1, 1) := by decide +kernel
theorem dL_law_1078 : decode cL_law 1078 = .ok (.iadd, 1) := by decide +kernel
theorem dL_law_1079 : decode cL_law 1079 = .ok (.iaload, 1) := by decide +kernel
theorem dL_law_1080 : decode cL_law 1080 = .ok (.aload_n 0, 1) := by decide +kernel
theorem dL_law_1081 : decode cL_law 1081 = .ok (.iload_n 3, 1) := by decide +kernel
theorem dL_law_1082 : decode cL_law 1082 = .ok (.iconst 2, 1) := by decide +kernel
theorem dL_law_1083 : decode cL_law 1083 = .ok (.iadd, 1) := by decide +kernel
theorem dL_law_1084 : decode cL_law 1084 = .ok (.iaload, 1) := by decide +kernel
theorem dL_law_1085 : decode cL_law 1085 = .ok (.aload_n 0, 1) := by decide +kernel
theorem dL_law_1086 : decode cL_law 1086 = .ok (.iload_n 3, 1) := by decide +kernel
theorem dL_law_1087 : decode cL_law 1087 = .ok (.iconst 3, 1) := by decide +kernel
theorem dL_law_1088 : decode cL_law 1088 = .ok (.iadd, 1) := by decide +kernel
theorem dL_law_1089 : decode cL_law 1089 = .ok (.iaload, 1) := by decide +kernel
theorem dL_law_1090 : decode cL_law 1090 = .ok (.invokevirtual 124, 3) := by decide +kernel
theorem dL_law_1093 : decode cL_law 1093 = .ok (.if_icmp .eq 182, 3) := by decide +kernel
theorem dL_law_1096 : decode cL_law 1096 = .ok (.iconst 0, 1) := by decide +kernel
theorem dL_law_1097 : decode cL_law 1097 = .ok (.ireturn, 1) := by decide +kernel
theorem dL_law_1098 : decode cL_law 1098 = .ok (.aload_n 1, 1) := by decide +kernel
theorem dL_law_1099 : decode cL_law 1099 = .ok (.aload_n 0, 1) := by decide +kernel
theorem dL_law_1100 : decode cL_law 1100 = .ok (.iload_n 3, 1) := by decide +kernel
theorem dL_law_1101 : decode cL_law 1101 = .ok (.iconst 1, 1) := by decide +kernel
theorem dL_law_1102 : decode cL_law 1102 = .ok (.iadd, 1) := by decide +kernel
theorem dL_law_1103 : decode cL_law 1103 = .ok (.iaload, 1) := by decide +kernel
theorem dL_law_1104 : decode cL_law 1104 = .ok (.invokevirtual 125, 3) := by decide +kernel
theorem dL_law_1107 : decode cL_law 1107 = .ok (.aload_n 2, 1) := by decide +kernel
theorem dL_law_1108 : decode cL_law 1108 = .ok (.aload_n 0, 1) := by decide +kernel
theorem dL_law_1109 : decode cL_law 1109 = .ok (.iload_n 3, 1) := by decide +kernel
theorem dL_law_1110 : decode cL_law 1110 = .ok (.iconst 1, 1) := by decide +kernel
theorem dL_law_1111 : decode cL_law 1111 = .ok (.iadd, 1) := by decide +kernel
theorem dL_law_1112 : decode cL_law 1112 = .ok (.iaload, 1) := by decide +kernel
theorem dL_law_1113 : decode cL_law 1113 = .ok (.invokevirtual 128, 3) := by decide +kernel
theorem dL_law_1116 : decode cL_law 1116 = .ok (.if_icmp .eq 159, 3) := by decide +kernel
theorem dL_law_1119 : decode cL_law 1119 = .ok (.iconst 0, 1) := by decide +kernel
theorem dL_law_1120 : decode cL_law 1120 = .ok (.ireturn, 1) := by decide +kernel
theorem dL_law_1121 : decode cL_law 1121 = .ok (.aload_n 1, 1) := by decide +kernel
theorem dL_law_1122 : decode cL_law 1122 = .ok (.aload_n 0, 1) := by decide +kernel
theorem dL_law_1123 : decode cL_law 1123 = .ok (.iload_n 3, 1) := by decide +kernel
theorem dL_law_1124 : decode cL_law 1124 = .ok (.iconst 1, 1) := by decide +kernel
theorem dL_law_1125 : decode cL_law 1125 = .ok (.iadd, 1) := by decide +kernel
theorem dL_law_1126 : decode cL_law 1126 = .ok (.iaload, 1) := by decide +kernel
theorem dL_law_1127 : decode cL_law 1127 = .ok (.aload_n 0, 1) := by decide +kernel
theorem dL_law_1128 : decode cL_law 1128 = .ok (.iload_n 3, 1) := by decide +kernel
theorem dL_law_1129 : decode cL_law 1129 = .ok (.iconst 2, 1) := by decide +kernel
theorem dL_law_1130 : decode cL_law 1130 = .ok (.iadd, 1) := by decide +kernel
theorem dL_law_1131 : decode cL_law 1131 = .ok (.iaload, 1) := by decide +kernel
theorem dL_law_1132 : decode cL_law 1132 = .ok (.invokevirtual 129, 3) := by decide +kernel
theorem dL_law_1135 : decode cL_law 1135 = .ok (.aload_n 2, 1) := by decide +kernel
theorem dL_law_1136 : decode cL_law 1136 = .ok (.aload_n 0, 1) := by decide +kernel
theorem dL_law_1137 : decode cL_law 1137 = .ok (.iload_n 3, 1) := by decide +kernel
theorem dL_law_1138 : decode cL_law 1138 = .ok (.iconst 1, 1) := by decide +kernel
theorem dL_law_1139 : decode cL_law 1139 = .ok (.iadd, 1) := by decide +kernel
theorem dL_law_1140 : decode cL_law 1140 = .ok (.iaload, 1) := by decide +kernel
theorem dL_law_1141 : decode cL_law 1141 = .ok (.aload_n 0, 1) := by decide +kernel
theorem dL_law_1142 : decode cL_law 1142 = .ok (.iload_n 3, 1) := by decide +kernel
theorem dL_law_1143 : decode cL_law 1143 = .ok (.iconst 2, 1) := by decide +kernel
theorem dL_law_1144 : decode cL_law 1144 = .ok (.iadd, 1) := by decide +kernel
theorem dL_law_1145 : decode cL_law 1145 = .ok (.iaload, 1) := by decide +kernel
theorem dL_law_1146 : decode cL_law 1146 = .ok (.invokevirtual 132, 3) := by decide +kernel
theorem dL_law_1149 : decode cL_law 1149 = .ok (.if_icmp .eq 126, 3) := by decide +kernel
theorem dL_law_1152 : decode cL_law 1152 = .ok (.iconst 0, 1) := by decide +kernel
theorem dL_law_1153 : decode cL_law 1153 = .ok (.ireturn, 1) := by decide +kernel
theorem dL_law_1154 : decode cL_law 1154 = .ok (.aload_n 1, 1) := by decide +kernel
theorem dL_law_1155 : decode cL_law 1155 = .ok (.aload_n 0, 1) := by decide +kernel
theorem dL_law_1156 : decode cL_law 1156 = .ok (.iload_n 3, 1) := by decide +kernel
theorem dL_law_1157 : decode cL_law 1157 = .ok (.iconst 1, 1) := by decide +kernel
theorem dL_law_1158 : decode cL_law 1158 = .ok (.iadd, 1) := by decide +kernel
theorem dL_law_1159 : decode cL_law 1159 = .ok (.iaload, 1) := by decide +kernel
theorem dL_law_1160 : decode cL_law 1160 = .ok (.aload_n 0, 1) := by decide +kernel
theorem dL_law_1161 : decode cL_law 1161 = .ok (.iload_n 3, 1) := by decide +kernel
theorem dL_law_1162 : decode cL_law 1162 = .ok (.iconst 2, 1) := by decide +kernel
theorem dL_law_1163 : decode cL_law 1163 = .ok (.iadd, 1) := by decide +kernel
theorem dL_law_1164 : decode cL_law 1164 = .ok (.iaload, 1) := by decide +kernel
theorem dL_law_1165 : decode cL_law 1165 = .ok (.invokevirtual 133, 3) := by decide +kernel
theorem dL_law_1168 : decode cL_law 1168 = .ok (.aload_n 2, 1) := by decide +kernel
theorem dL_law_1169 : decode cL_law 1169 = .ok (.aload_n 0, 1) := by decide +kernel
theorem dL_law_1170 : decode cL_law 1170 = .ok (.iload_n 3, 1) := by decide +kernel
theorem dL_law_1171 : decode cL_law 1171 = .ok (.iconst 1, 1) := by decide +kernel
theorem dL_law_1172 : decode cL_law 1172 = .ok (.iadd, 1) := by decide +kernel
theorem dL_law_1173 : decode cL_law 1173 = .ok (.iaload, 1) := by decide +kernel
theorem dL_law_1174 : decode cL_law 1174 = .ok (.aload_n 0, 1) := by decide +kernel
theorem dL_law_1175 : decode cL_law 1175 = .ok (.iload_n 3, 1) := by decide +kernel
theorem dL_law_1176 : decode cL_law 1176 = .ok (.iconst 2, 1) := by decide +kernel
theorem dL_law_1177 : decode cL_law 1177 = .ok (.iadd, 1) := by decide +kernel
theorem dL_law_1178 : decode cL_law 1178 = .ok (.iaload, 1) := by decide +kernel
theorem dL_law_1179 : decode cL_law 1179 = .ok (.invokevirtual 136, 3) := by decide +kernel
theorem dL_law_1182 : decode cL_law 1182 = .ok (.if_icmp .eq 93, 3) := by decide +kernel
theorem dL_law_1185 : decode cL_law 1185 = .ok (.iconst 0, 1) := by decide +kernel
theorem dL_law_1186 : decode cL_law 1186 = .ok (.ireturn, 1) := by decide +kernel
theorem dL_law_1187 : decode cL_law 1187 = .ok (.aload_n 1, 1) := by decide +kernel
theorem dL_law_1188 : decode cL_law 1188 = .ok (.invokevirtual 137, 3) := by decide +kernel
theorem dL_law_1191 : decode cL_law 1191 = .ok (.aload_n 2, 1) := by decide +kernel
theorem dL_law_1192 : decode cL_law 1192 = .ok (.invokevirtual 141, 3) := by decide +kernel
theorem dL_law_1195 : decode cL_law 1195 = .ok (.if_icmp .eq 80, 3) := by decide +kernel
theorem dL_law_1198 : decode cL_law 1198 = .ok (.iconst 0, 1) := by decide +kernel
theorem dL_law_1199 : decode cL_law 1199 = .ok (.ireturn, 1) := by decide +kernel
theorem dL_law_1200 : decode cL_law 1200 = .ok (.aload_n 1, 1) := by decide +kernel
theorem dL_law_1201 : decode cL_law 1201 = .ok (.invokevirtual 142, 3) := by decide +kernel
theorem dL_law_1204 : decode cL_law 1204 = .ok (.aload_n 2, 1) := by decide +kernel
theorem dL_law_1205 : decode cL_law 1205 = .ok (.invokevirtual 146, 3) := by decide +kernel
theorem dL_law_1208 : decode cL_law 1208 = .ok (.if_icmp .eq 67, 3) := by decide +kernel
theorem dL_law_1211 : decode cL_law 1211 = .ok (.iconst 0, 1) := by decide +kernel
theorem dL_law_1212 : decode cL_law 1212 = .ok (.ireturn, 1) := by decide +kernel
theorem dL_law_1213 : decode cL_law 1213 = .ok (.aload_n 1, 1) := by decide +kernel
theorem dL_law_1214 : decode cL_law 1214 = .ok (.aload_n 0, 1) := by decide +kernel
theorem dL_law_1215 : decode cL_law 1215 = .ok (.iload_n 3, 1) := by decide +kernel
theorem dL_law_1216 : decode cL_law 1216 = .ok (.iconst 1, 1) := by decide +kernel
theorem dL_law_1217 : decode cL_law 1217 = .ok (.iadd, 1) := by decide +kernel
theorem dL_law_1218 : decode cL_law 1218 = .ok (.iaload, 1) := by decide +kernel
theorem dL_law_1219 : decode cL_law 1219 = .ok (.ifCond .eq 7, 3) := by decide +kernel
theorem dL_law_1222 : decode cL_law 1222 = .ok (.iconst 1, 1) := by decide +kernel
theorem dL_law_1223 : decode cL_law 1223 = .ok (.goto 4, 3) := by decide +kernel
theorem dL_law_1226 : decode cL_law 1226 = .ok (.iconst 0, 1) := by decide +kernel
theorem dL_law_1227 : decode cL_law 1227 = .ok (.invokevirtual 147, 3) := by decide +kernel
theorem dL_law_1230 : decode cL_law 1230 = .ok (.aload_n 2, 1) := by decide +kernel
theorem dL_law_1231 : decode cL_law 1231 = .ok (.aload_n 0, 1) := by decide +kernel
theorem dL_law_1232 : decode cL_law 1232 = .ok (.iload_n 3, 1) := by decide +kernel
theorem dL_law_1233 : decode cL_law 1233 = .ok (.iconst 1, 1) := by decide +kernel
theorem dL_law_1234 : decode cL_law 1234 = .ok (.iadd, 1) := by decide +kernel
theorem dL_law_1235 : decode cL_law 1235 = .ok (.iaload, 1) := by decide +kernel
theorem dL_law_1236 : decode cL_law 1236 = .ok (.ifCond .eq 7, 3) := by decide +kernel
theorem dL_law_1239 : decode cL_law 1239 = .ok (.iconst 1, 1) := by decide +kernel
theorem dL_law_1240 : decode cL_law 1240 = .ok (.goto 4, 3) := by decide +kernel
theorem dL_law_1243 : decode cL_law 1243 = .ok (.iconst 0, 1) := by decide +kernel
theorem dL_law_1244 : decode cL_law 1244 = .ok (.invokevirtual 151, 3) := by decide +kernel
theorem dL_law_1247 : decode cL_law 1247 = .ok (.if_icmp .eq 28, 3) := by decide +kernel
theorem dL_law_1250 : decode cL_law 1250 = .ok (.iconst 0, 1) := by decide +kernel
theorem dL_law_1251 : decode cL_law 1251 = .ok (.ireturn, 1) := by decide +kernel
theorem dL_law_1252 : decode cL_law 1252 = .ok (.aload_n 1, 1) := by decide +kernel
theorem dL_law_1253 : decode cL_law 1253 = .ok (.aload_n 0, 1) := by decide +kernel
theorem dL_law_1254 : decode cL_law 1254 = .ok (.iload_n 3, 1) := by decide +kernel
theorem dL_law_1255 : decode cL_law 1255 = .ok (.iconst 1, 1) := by decide +kernel
theorem dL_law_1256 : decode cL_law 1256 = .ok (.iadd, 1) := by decide +kernel
theorem dL_law_1257 : decode cL_law 1257 = .ok (.iaload, 1) := by decide +kernel
theorem dL_law_1258 : decode cL_law 1258 = .ok (.invokevirtual 152, 3) := by decide +kernel
theorem dL_law_1261 : decode cL_law 1261 = .ok (.aload_n 2, 1) := by decide +kernel
theorem dL_law_1262 : decode cL_law 1262 = .ok (.aload_n 0, 1) := by decide +kernel
theorem dL_law_1263 : decode cL_law 1263 = .ok (.iload_n 3, 1) := by decide +kernel
theorem dL_law_1264 : decode cL_law 1264 = .ok (.iconst 1, 1) := by decide +kernel
theorem dL_law_1265 : decode cL_law 1265 = .ok (.iadd, 1) := by decide +kernel
theorem dL_law_1266 : decode cL_law 1266 = .ok (.iaload, 1) := by decide +kernel
theorem dL_law_1267 : decode cL_law 1267 = .ok (.invokevirtual 155, 3) := by decide +kernel
theorem dL_law_1270 : decode cL_law 1270 = .ok (.if_icmp .eq 5, 3) := by decide +kernel
theorem dL_law_1273 : decode cL_law 1273 = .ok (.iconst 0, 1) := by decide +kernel
theorem dL_law_1274 : decode cL_law 1274 = .ok (.ireturn, 1) := by decide +kernel
theorem dL_law_1275 : decode cL_law 1275 = .ok (.iinc 3 6, 3) := by decide +kernel
theorem dL_law_1278 : decode cL_law 1278 = .ok (.goto (-1260), 3) := by decide +kernel
theorem dL_law_1281 : decode cL_law 1281 = .ok (.iconst 1, 1) := by decide +kernel
theorem dL_law_1282 : decode cL_law 1282 = .ok (.ireturn, 1) := by decide +kernel
