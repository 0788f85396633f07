theorem dX0_init_0 : decode cX0_init 0 = .ok (.aload_n 0, 1) := by decide +kernel
theorem dX0_init_1 : decode cX0_init 1 = .ok (.invokespecial 3, 3) := by decide +kernel
theorem dX0_init_4 : decode cX0_init 4 = .ok (.aload_n 0, 1) := by decide +kernel
theorem dX0_init_5 : decode cX0_init 5 = .ok (.sipush 1000, 3) := by decide +kernel
theorem dX0_init_8 : decode cX0_init 8 = .ok (.newarray .int, 2) := by decide +kernel
theorem dX0_init_10 : decode cX0_init 10 = .ok (.putfield 11, 3) := by decide +kernel
theorem dX0_init_13 : decode cX0_init 13 = .ok (.aload_n 0, 1) := by decide +kernel
theorem dX0_init_14 : decode cX0_init 14 = .ok (.iconst 0, 1) := by decide +kernel
theorem dX0_init_15 : decode cX0_init 15 = .ok (.putfield 15, 3) := by decide +kernel
theorem dX0_init_18 : decode cX0_init 18 = .ok (.return_, 1) := by decide +kernel
theorem dX0_become_0 : decode cX0_become 0 = .ok (.aload_n 0, 1) := by decide +kernel
theorem dX0_become_1 : decode cX0_become 1 = .ok (.aload_n 1, 1) := by decide +kernel
theorem dX0_become_2 : decode cX0_become 2 = .ok (.getfield 15, 3) := by decide +kernel
theorem dX0_become_5 : decode cX0_become 5 = .ok (.putfield 15, 3) := by decide +kernel
theorem dX0_become_8 : decode cX0_become 8 = .ok (.aload_n 1, 1) := by decide +kernel
theorem dX0_become_9 : decode cX0_become 9 = .ok (.getfield 11, 3) := by decide +kernel
theorem dX0_become_12 : decode cX0_become 12 = .ok (.iconst 0, 1) := by decide +kernel
theorem dX0_become_13 : decode cX0_become 13 = .ok (.aload_n 0, 1) := by decide +kernel
theorem dX0_become_14 : decode cX0_become 14 = .ok (.getfield 11, 3) := by decide +kernel
theorem dX0_become_17 : decode cX0_become 17 = .ok (.iconst 0, 1) := by decide +kernel
theorem dX0_become_18 : decode cX0_become 18 = .ok (.aload_n 0, 1) := by decide +kernel
theorem dX0_become_19 : decode cX0_become 19 = .ok (.getfield 11, 3) := by decide +kernel
theorem dX0_become_22 : decode cX0_become 22 = .ok (.arraylength, 1) := by decide +kernel
theorem dX0_become_23 : decode cX0_become 23 = .ok (.invokestatic 19, 3) := by decide +kernel
theorem dX0_become_26 : decode cX0_become 26 = .ok (.return_, 1) := by decide +kernel
theorem dX0_write_0 : decode cX0_write 0 = .ok (.aload_n 0, 1) := by decide +kernel
theorem dX0_write_1 : decode cX0_write 1 = .ok (.getfield 15, 3) := by decide +kernel
theorem dX0_write_4 : decode cX0_write 4 = .ok (.sipush 200, 3) := by decide +kernel
theorem dX0_write_7 : decode cX0_write 7 = .ok (.if_icmp .lt 4, 3) := by decide +kernel
theorem dX0_write_10 : decode cX0_write 10 = .ok (.return_, 1) := by decide +kernel
theorem dX0_write_11 : decode cX0_write 11 = .ok (.aload_n 0, 1) := by decide +kernel
theorem dX0_write_12 : decode cX0_write 12 = .ok (.getfield 15, 3) := by decide +kernel
theorem dX0_write_15 : decode cX0_write 15 = .ok (.iconst 5, 1) := by decide +kernel
theorem dX0_write_16 : decode cX0_write 16 = .ok (.imul, 1) := by decide +kernel
theorem dX0_write_17 : decode cX0_write 17 = .ok (.istore 6, 2) := by decide +kernel
theorem dX0_write_19 : decode cX0_write 19 = .ok (.aload_n 0, 1) := by decide +kernel
theorem dX0_write_20 : decode cX0_write 20 = .ok (.getfield 11, 3) := by decide +kernel
theorem dX0_write_23 : decode cX0_write 23 = .ok (.iload 6, 2) := by decide +kernel
theorem dX0_write_25 : decode cX0_write 25 = .ok (.iload_n 1, 1) := by decide +kernel
theorem dX0_write_26 : decode cX0_write 26 = .ok (.iastore, 1) := by decide +kernel
theorem dX0_write_27 : decode cX0_write 27 = .ok (.aload_n 0, 1) := by decide +kernel
theorem dX0_write_28 : decode cX0_write 28 = .ok (.getfield 11, 3) := by decide +kernel
theorem dX0_write_31 : decode cX0_write 31 = .ok (.iload 6, 2) := by decide +kernel
theorem dX0_write_33 : decode cX0_write 33 = .ok (.iconst 1, 1) := by decide +kernel
theorem dX0_write_34 : decode cX0_write 34 = .ok (.iadd, 1) := by decide +kernel
theorem dX0_write_35 : decode cX0_write 35 = .ok (.iload_n 2, 1) := by decide +kernel
theorem dX0_write_36 : decode cX0_write 36 = .ok (.iastore, 1) := by decide +kernel
theorem dX0_write_37 : decode cX0_write 37 = .ok (.aload_n 0, 1) := by decide +kernel
theorem dX0_write_38 : decode cX0_write 38 = .ok (.getfield 11, 3) := by decide +kernel
theorem dX0_write_41 : decode cX0_write 41 = .ok (.iload 6, 2) := by decide +kernel
theorem dX0_write_43 : decode cX0_write 43 = .ok (.iconst 2, 1) := by decide +kernel
theorem dX0_write_44 : decode cX0_write 44 = .ok (.iadd, 1) := by decide +kernel
theorem dX0_write_45 : decode cX0_write 45 = .ok (.iload_n 3, 1) := by decide +kernel
theorem dX0_write_46 : decode cX0_write 46 = .ok (.iastore, 1) := by decide +kernel
theorem dX0_write_47 : decode cX0_write 47 = .ok (.aload_n 0, 1) := by decide +kernel
theorem dX0_write_48 : decode cX0_write 48 = .ok (.getfield 11, 3) := by decide +kernel
theorem dX0_write_51 : decode cX0_write 51 = .ok (.iload 6, 2) := by decide +kernel
theorem dX0_write_53 : decode cX0_write 53 = .ok (.iconst 3, 1) := by decide +kernel
theorem dX0_write_54 : decode cX0_write 54 = .ok (.iadd, 1) := by decide +kernel
theorem dX0_write_55 : decode cX0_write 55 = .ok (.iload 4, 2) := by decide +kernel
theorem dX0_write_57 : decode cX0_write 57 = .ok (.iastore, 1) := by decide +kernel
theorem dX0_write_58 : decode cX0_write 58 = .ok (.aload_n 0, 1) := by decide +kernel
theorem dX0_write_59 : decode cX0_write 59 = .ok (.getfield 11, 3) := by decide +kernel
theorem dX0_write_62 : decode cX0_write 62 = .ok (.iload 6, 2) := by decide +kernel
theorem dX0_write_64 : decode cX0_write 64 = .ok (.iconst 4, 1) := by decide +kernel
theorem dX0_write_65 : decode cX0_write 65 = .ok (.iadd, 1) := by decide +kernel
theorem dX0_write_66 : decode cX0_write 66 = .ok (.iload 5, 2) := by decide +kernel
theorem dX0_write_68 : decode cX0_write 68 = .ok (.iastore, 1) := by decide +kernel
theorem dX0_write_69 : decode cX0_write 69 = .ok (.aload_n 0, 1) := by decide +kernel
theorem dX0_write_70 : decode cX0_write 70 = .ok (.dup, 1) := by decide +kernel
theorem dX0_write_71 : decode cX0_write 71 = .ok (.getfield 15, 3) := by decide +kernel
theorem dX0_write_74 : decode cX0_write 74 = .ok (.iconst 1, 1) := by decide +kernel
theorem dX0_write_75 : decode cX0_write 75 = .ok (.iadd, 1) := by decide +kernel
theorem dX0_write_76 : decode cX0_write 76 = .ok (.putfield 15, 3) := by decide +kernel
theorem dX0_write_79 : decode cX0_write 79 = .ok (.return_, 1) := by decide +kernel
theorem dX0_changesOf_0 : decode cX0_changesOf 0 = .ok (.iconst 0, 1) := by decide +kernel
theorem dX0_changesOf_1 : decode cX0_changesOf 1 = .ok (.istore_n 2, 1) := by decide +kernel
theorem dX0_changesOf_2 : decode cX0_changesOf 2 = .ok (.iconst 0, 1) := by decide +kernel
theorem dX0_changesOf_3 : decode cX0_changesOf 3 = .ok (.istore_n 3, 1) := by decide +kernel
theorem dX0_changesOf_4 : decode cX0_changesOf 4 = .ok (.iload_n 3, 1) := by decide +kernel
theorem dX0_changesOf_5 : decode cX0_changesOf 5 = .ok (.aload_n 0, 1) := by decide +kernel
theorem dX0_changesOf_6 : decode cX0_changesOf 6 = .ok (.getfield 15, 3) := by decide +kernel
theorem dX0_changesOf_9 : decode cX0_changesOf 9 = .ok (.if_icmp .ge 24, 3) := by decide +kernel
theorem dX0_changesOf_12 : decode cX0_changesOf 12 = .ok (.aload_n 0, 1) := by decide +kernel
theorem dX0_changesOf_13 : decode cX0_changesOf 13 = .ok (.getfield 11, 3) := by decide +kernel
theorem dX0_changesOf_16 : decode cX0_changesOf 16 = .ok (.iload_n 3, 1) := by decide +kernel
theorem dX0_changesOf_17 : decode cX0_changesOf 17 = .ok (.iconst 5, 1) := by decide +kernel
theorem dX0_changesOf_18 : decode cX0_changesOf 18 = .ok (.imul, 1) := by decide +kernel
theorem dX0_changesOf_19 : decode cX0_changesOf 19 = .ok (.iaload, 1) := by decide +kernel
theorem dX0_changesOf_20 : decode cX0_changesOf 20 = .ok (.iload_n 1, 1) := by decide +kernel
theorem dX0_changesOf_21 : decode cX0_changesOf 21 = .ok (.if_icmp .ne 6, 3) := by decide +kernel
theorem dX0_changesOf_24 : decode cX0_changesOf 24 = .ok (.iinc 2 1, 3) := by decide +kernel
theorem dX0_changesOf_27 : decode cX0_changesOf 27 = .ok (.iinc 3 1, 3) := by decide +kernel
theorem dX0_changesOf_30 : decode cX0_changesOf 30 = .ok (.goto (-26), 3) := by decide +kernel
theorem dX0_changesOf_33 : decode cX0_changesOf 33 = .ok (.iload_n 2, 1) := by decide +kernel
theorem dX0_changesOf_34 : decode cX0_changesOf 34 = .ok (.ireturn, 1) := by decide +kernel
theorem dX0_changeOf_0 : decode cX0_changeOf 0 = .ok (.iconst 0, 1) := by decide +kernel
theorem dX0_changeOf_1 : decode cX0_changeOf 1 = .ok (.istore_n 3, 1) := by decide +kernel
theorem dX0_changeOf_2 : decode cX0_changeOf 2 = .ok (.iconst 0, 1) := by decide +kernel
theorem dX0_changeOf_3 : decode cX0_changeOf 3 = .ok (.istore 4, 2) := by decide +kernel
theorem dX0_changeOf_5 : decode cX0_changeOf 5 = .ok (.iload 4, 2) := by decide +kernel
theorem dX0_changeOf_7 : decode cX0_changeOf 7 = .ok (.aload_n 0, 1) := by decide +kernel
theorem dX0_changeOf_8 : decode cX0_changeOf 8 = .ok (.getfield 15, 3) := by decide +kernel
theorem dX0_changeOf_11 : decode cX0_changeOf 11 = .ok (.if_icmp .ge 36, 3) := by decide +kernel
theorem dX0_changeOf_14 : decode cX0_changeOf 14 = .ok (.aload_n 0, 1) := by decide +kernel
theorem dX0_changeOf_15 : decode cX0_changeOf 15 = .ok (.getfield 11, 3) := by decide +kernel
theorem dX0_changeOf_18 : decode cX0_changeOf 18 = .ok (.iload 4, 2) := by decide +kernel
theorem dX0_changeOf_20 : decode cX0_changeOf 20 = .ok (.iconst 5, 1) := by decide +kernel
theorem dX0_changeOf_21 : decode cX0_changeOf 21 = .ok (.imul, 1) := by decide +kernel
theorem dX0_changeOf_22 : decode cX0_changeOf 22 = .ok (.iaload, 1) := by decide +kernel
theorem dX0_changeOf_23 : decode cX0_changeOf 23 = .ok (.iload_n 1, 1) := by decide +kernel
theorem dX0_changeOf_24 : decode cX0_changeOf 24 = .ok (.if_icmp .eq 6, 3) := by decide +kernel
theorem dX0_changeOf_27 : decode cX0_changeOf 27 = .ok (.goto 14, 3) := by decide +kernel
theorem dX0_changeOf_30 : decode cX0_changeOf 30 = .ok (.iload_n 3, 1) := by decide +kernel
theorem dX0_changeOf_31 : decode cX0_changeOf 31 = .ok (.iload_n 2, 1) := by decide +kernel
theorem dX0_changeOf_32 : decode cX0_changeOf 32 = .ok (.if_icmp .ne 6, 3) := by decide +kernel
theorem dX0_changeOf_35 : decode cX0_changeOf 35 = .ok (.iload 4, 2) := by decide +kernel
theorem dX0_changeOf_37 : decode cX0_changeOf 37 = .ok (.ireturn, 1) := by decide +kernel
theorem dX0_changeOf_38 : decode cX0_changeOf 38 = .ok (.iinc 3 1, 3) := by decide +kernel
theorem dX0_changeOf_41 : decode cX0_changeOf 41 = .ok (.iinc 4 1, 3) := by decide +kernel
theorem dX0_changeOf_44 : decode cX0_changeOf 44 = .ok (.goto (-39), 3) := by decide +kernel
theorem dX0_changeOf_47 : decode cX0_changeOf 47 = .ok (.iconst (-1), 1) := by decide +kernel
theorem dX0_changeOf_48 : decode cX0_changeOf 48 = .ok (.ireturn, 1) := by decide +kernel
theorem dX1_init_0 : decode cX1_init 0 = .ok (.aload_n 0, 1) := by decide +kernel
theorem dX1_init_1 : decode cX1_init 1 = .ok (.invokespecial 3, 3) := by decide +kernel
theorem dX1_init_4 : decode cX1_init 4 = .ok (.aload_n 0, 1) := by decide +kernel
theorem dX1_init_5 : decode cX1_init 5 = .ok (.iconst 0, 1) := by decide +kernel
theorem dX1_init_6 : decode cX1_init 6 = .ok (.putfield 9, 3) := by decide +kernel
theorem dX1_init_9 : decode cX1_init 9 = .ok (.aload_n 0, 1) := by decide +kernel
theorem dX1_init_10 : decode cX1_init 10 = .ok (.iconst 0, 1) := by decide +kernel
theorem dX1_init_11 : decode cX1_init 11 = .ok (.putfield 15, 3) := by decide +kernel
theorem dX1_init_14 : decode cX1_init 14 = .ok (.aload_n 0, 1) := by decide +kernel
theorem dX1_init_15 : decode cX1_init 15 = .ok (.iconst 1, 1) := by decide +kernel
theorem dX1_init_16 : decode cX1_init 16 = .ok (.putfield 18, 3) := by decide +kernel
theorem dX1_init_19 : decode cX1_init 19 = .ok (.aload_n 0, 1) := by decide +kernel
theorem dX1_init_20 : decode cX1_init 20 = .ok (.iconst 0, 1) := by decide +kernel
theorem dX1_init_21 : decode cX1_init 21 = .ok (.putfield 21, 3) := by decide +kernel
theorem dX1_init_24 : decode cX1_init 24 = .ok (.aload_n 0, 1) := by decide +kernel
theorem dX1_init_25 : decode cX1_init 25 = .ok (.iconst 0, 1) := by decide +kernel
theorem dX1_init_26 : decode cX1_init 26 = .ok (.putfield 24, 3) := by decide +kernel
theorem dX1_init_29 : decode cX1_init 29 = .ok (.aload_n 0, 1) := by decide +kernel
theorem dX1_init_30 : decode cX1_init 30 = .ok (.bipush 12, 2) := by decide +kernel
theorem dX1_init_32 : decode cX1_init 32 = .ok (.newarray .int, 2) := by decide +kernel
theorem dX1_init_34 : decode cX1_init 34 = .ok (.putfield 27, 3) := by decide +kernel
theorem dX1_init_37 : decode cX1_init 37 = .ok (.aload_n 0, 1) := by decide +kernel
theorem dX1_init_38 : decode cX1_init 38 = .ok (.bipush 12, 2) := by decide +kernel
theorem dX1_init_40 : decode cX1_init 40 = .ok (.newarray .int, 2) := by decide +kernel
theorem dX1_init_42 : decode cX1_init 42 = .ok (.putfield 31, 3) := by decide +kernel
theorem dX1_init_45 : decode cX1_init 45 = .ok (.aload_n 0, 1) := by decide +kernel
theorem dX1_init_46 : decode cX1_init 46 = .ok (.bipush 12, 2) := by decide +kernel
theorem dX1_init_48 : decode cX1_init 48 = .ok (.newarray .int, 2) := by decide +kernel
theorem dX1_init_50 : decode cX1_init 50 = .ok (.putfield 34, 3) := by decide +kernel
theorem dX1_init_53 : decode cX1_init 53 = .ok (.aload_n 0, 1) := by decide +kernel
theorem dX1_init_54 : decode cX1_init 54 = .ok (.bipush 12, 2) := by decide +kernel
theorem dX1_init_56 : decode cX1_init 56 = .ok (.newarray .int, 2) := by decide +kernel
theorem dX1_init_58 : decode cX1_init 58 = .ok (.putfield 37, 3) := by decide +kernel
theorem dX1_init_61 : decode cX1_init 61 = .ok (.aload_n 0, 1) := by decide +kernel
theorem dX1_init_62 : decode cX1_init 62 = .ok (.bipush 12, 2) := by decide +kernel
theorem dX1_init_64 : decode cX1_init 64 = .ok (.newarray .int, 2) := by decide +kernel
theorem dX1_init_66 : decode cX1_init 66 = .ok (.putfield 40, 3) := by decide +kernel
theorem dX1_init_69 : decode cX1_init 69 = .ok (.aload_n 0, 1) := by decide +kernel
theorem dX1_init_70 : decode cX1_init 70 = .ok (.bipush 12, 2) := by decide +kernel
theorem dX1_init_72 : decode cX1_init 72 = .ok (.newarray .int, 2) := by decide +kernel
theorem dX1_init_74 : decode cX1_init 74 = .ok (.putfield 43, 3) := by decide +kernel
theorem dX1_init_77 : decode cX1_init 77 = .ok (.aload_n 0, 1) := by decide +kernel
theorem dX1_init_78 : decode cX1_init 78 = .ok (.bipush 12, 2) := by decide +kernel
theorem dX1_init_80 : decode cX1_init 80 = .ok (.newarray .int, 2) := by decide +kernel
theorem dX1_init_82 : decode cX1_init 82 = .ok (.putfield 46, 3) := by decide +kernel
theorem dX1_init_85 : decode cX1_init 85 = .ok (.aload_n 0, 1) := by decide +kernel
theorem dX1_init_86 : decode cX1_init 86 = .ok (.bipush 12, 2) := by decide +kernel
theorem dX1_init_88 : decode cX1_init 88 = .ok (.newarray .int, 2) := by decide +kernel
theorem dX1_init_90 : decode cX1_init 90 = .ok (.putfield 49, 3) := by decide +kernel
theorem dX1_init_93 : decode cX1_init 93 = .ok (.aload_n 0, 1) := by decide +kernel
theorem dX1_init_94 : decode cX1_init 94 = .ok (.bipush 12, 2) := by decide +kernel
theorem dX1_init_96 : decode cX1_init 96 = .ok (.newarray .int, 2) := by decide +kernel
theorem dX1_init_98 : decode cX1_init 98 = .ok (.putfield 52, 3) := by decide +kernel
theorem dX1_init_101 : decode cX1_init 101 = .ok (.aload_n 0, 1) := by decide +kernel
theorem dX1_init_102 : decode cX1_init 102 = .ok (.bipush 28, 2) := by decide +kernel
theorem dX1_init_104 : decode cX1_init 104 = .ok (.newarray .int, 2) := by decide +kernel
theorem dX1_init_106 : decode cX1_init 106 = .ok (.putfield 55, 3) := by decide +kernel
theorem dX1_init_109 : decode cX1_init 109 = .ok (.aload_n 0, 1) := by decide +kernel
theorem dX1_init_110 : decode cX1_init 110 = .ok (.bipush 28, 2) := by decide +kernel
theorem dX1_init_112 : decode cX1_init 112 = .ok (.newarray .int, 2) := by decide +kernel
theorem dX1_init_114 : decode cX1_init 114 = .ok (.putfield 58, 3) := by decide +kernel
theorem dX1_init_117 : decode cX1_init 117 = .ok (.aload_n 0, 1) := by decide +kernel
theorem dX1_init_118 : decode cX1_init 118 = .ok (.bipush 28, 2) := by decide +kernel
theorem dX1_init_120 : decode cX1_init 120 = .ok (.newarray .int, 2) := by decide +kernel
theorem dX1_init_122 : decode cX1_init 122 = .ok (.putfield 61, 3) := by decide +kernel
theorem dX1_init_125 : decode cX1_init 125 = .ok (.aload_n 0, 1) := by decide +kernel
theorem dX1_init_126 : decode cX1_init 126 = .ok (.bipush 8, 2) := by decide +kernel
theorem dX1_init_128 : decode cX1_init 128 = .ok (.newarray .int, 2) := by decide +kernel
theorem dX1_init_130 : decode cX1_init 130 = .ok (.putfield 64, 3) := by decide +kernel
theorem dX1_init_133 : decode cX1_init 133 = .ok (.aload_n 0, 1) := by decide +kernel
theorem dX1_init_134 : decode cX1_init 134 = .ok (.bipush 8, 2) := by decide +kernel
theorem dX1_init_136 : decode cX1_init 136 = .ok (.newarray .int, 2) := by decide +kernel
theorem dX1_init_138 : decode cX1_init 138 = .ok (.putfield 67, 3) := by decide +kernel
theorem dX1_init_141 : decode cX1_init 141 = .ok (.aload_n 0, 1) := by decide +kernel
theorem dX1_init_142 : decode cX1_init 142 = .ok (.bipush 8, 2) := by decide +kernel
theorem dX1_init_144 : decode cX1_init 144 = .ok (.newarray .int, 2) := by decide +kernel
theorem dX1_init_146 : decode cX1_init 146 = .ok (.putfield 70, 3) := by decide +kernel
theorem dX1_init_149 : decode cX1_init 149 = .ok (.iconst 0, 1) := by decide +kernel
theorem dX1_init_150 : decode cX1_init 150 = .ok (.istore_n 1, 1) := by decide +kernel
theorem dX1_init_151 : decode cX1_init 151 = .ok (.iload_n 1, 1) := by decide +kernel
theorem dX1_init_152 : decode cX1_init 152 = .ok (.bipush 28, 2) := by decide +kernel
theorem dX1_init_154 : decode cX1_init 154 = .ok (.if_icmp .ge 30, 3) := by decide +kernel
theorem dX1_init_157 : decode cX1_init 157 = .ok (.aload_n 0, 1) := by decide +kernel
theorem dX1_init_158 : decode cX1_init 158 = .ok (.getfield 55, 3) := by decide +kernel
theorem dX1_init_161 : decode cX1_init 161 = .ok (.iload_n 1, 1) := by decide +kernel
theorem dX1_init_162 : decode cX1_init 162 = .ok (.iconst (-1), 1) := by decide +kernel
theorem dX1_init_163 : decode cX1_init 163 = .ok (.iastore, 1) := by decide +kernel
theorem dX1_init_164 : decode cX1_init 164 = .ok (.aload_n 0, 1) := by decide +kernel
theorem dX1_init_165 : decode cX1_init 165 = .ok (.getfield 58, 3) := by decide +kernel
theorem dX1_init_168 : decode cX1_init 168 = .ok (.iload_n 1, 1) := by decide +kernel
theorem dX1_init_169 : decode cX1_init 169 = .ok (.iconst (-1), 1) := by decide +kernel
theorem dX1_init_170 : decode cX1_init 170 = .ok (.iastore, 1) := by decide +kernel
theorem dX1_init_171 : decode cX1_init 171 = .ok (.aload_n 0, 1) := by decide +kernel
theorem dX1_init_172 : decode cX1_init 172 = .ok (.getfield 61, 3) := by decide +kernel
theorem dX1_init_175 : decode cX1_init 175 = .ok (.iload_n 1, 1) := by decide +kernel
theorem dX1_init_176 : decode cX1_init 176 = .ok (.iconst (-1), 1) := by decide +kernel
theorem dX1_init_177 : decode cX1_init 177 = .ok (.iastore, 1) := by decide +kernel
theorem dX1_init_178 : decode cX1_init 178 = .ok (.iinc 1 1, 3) := by decide +kernel
theorem dX1_init_181 : decode cX1_init 181 = .ok (.goto (-30), 3) := by decide +kernel
theorem dX1_init_184 : decode cX1_init 184 = .ok (.iconst 0, 1) := by decide +kernel
theorem dX1_init_185 : decode cX1_init 185 = .ok (.istore_n 1, 1) := by decide +kernel
theorem dX1_init_186 : decode cX1_init 186 = .ok (.iload_n 1, 1) := by decide +kernel
theorem dX1_init_187 : decode cX1_init 187 = .ok (.bipush 8, 2) := by decide +kernel
theorem dX1_init_189 : decode cX1_init 189 = .ok (.if_icmp .ge 16, 3) := by decide +kernel
theorem dX1_init_192 : decode cX1_init 192 = .ok (.aload_n 0, 1) := by decide +kernel
theorem dX1_init_193 : decode cX1_init 193 = .ok (.getfield 70, 3) := by decide +kernel
theorem dX1_init_196 : decode cX1_init 196 = .ok (.iload_n 1, 1) := by decide +kernel
theorem dX1_init_197 : decode cX1_init 197 = .ok (.iconst (-1), 1) := by decide +kernel
theorem dX1_init_198 : decode cX1_init 198 = .ok (.iastore, 1) := by decide +kernel
theorem dX1_init_199 : decode cX1_init 199 = .ok (.iinc 1 1, 3) := by decide +kernel
theorem dX1_init_202 : decode cX1_init 202 = .ok (.goto (-16), 3) := by decide +kernel
theorem dX1_init_205 : decode cX1_init 205 = .ok (.return_, 1) := by decide +kernel
theorem dX1_become_0 : decode cX1_become 0 = .ok (.aload_n 0, 1) := by decide +kernel
theorem dX1_become_1 : decode cX1_become 1 = .ok (.aload_n 1, 1) := by decide +kernel
theorem dX1_become_2 : decode cX1_become 2 = .ok (.getfield 9, 3) := by decide +kernel
theorem dX1_become_5 : decode cX1_become 5 = .ok (.putfield 9, 3) := by decide +kernel
theorem dX1_become_8 : decode cX1_become 8 = .ok (.aload_n 0, 1) := by decide +kernel
theorem dX1_become_9 : decode cX1_become 9 = .ok (.aload_n 1, 1) := by decide +kernel
theorem dX1_become_10 : decode cX1_become 10 = .ok (.getfield 15, 3) := by decide +kernel
theorem dX1_become_13 : decode cX1_become 13 = .ok (.putfield 15, 3) := by decide +kernel
theorem dX1_become_16 : decode cX1_become 16 = .ok (.aload_n 0, 1) := by decide +kernel
theorem dX1_become_17 : decode cX1_become 17 = .ok (.aload_n 1, 1) := by decide +kernel
theorem dX1_become_18 : decode cX1_become 18 = .ok (.getfield 18, 3) := by decide +kernel
theorem dX1_become_21 : decode cX1_become 21 = .ok (.putfield 18, 3) := by decide +kernel
theorem dX1_become_24 : decode cX1_become 24 = .ok (.aload_n 0, 1) := by decide +kernel
theorem dX1_become_25 : decode cX1_become 25 = .ok (.aload_n 1, 1) := by decide +kernel
theorem dX1_become_26 : decode cX1_become 26 = .ok (.getfield 21, 3) := by decide +kernel
theorem dX1_become_29 : decode cX1_become 29 = .ok (.putfield 21, 3) := by decide +kernel
theorem dX1_become_32 : decode cX1_become 32 = .ok (.aload_n 0, 1) := by decide +kernel
theorem dX1_become_33 : decode cX1_become 33 = .ok (.aload_n 1, 1) := by decide +kernel
theorem dX1_become_34 : decode cX1_become 34 = .ok (.getfield 24, 3) := by decide +kernel
theorem dX1_become_37 : decode cX1_become 37 = .ok (.putfield 24, 3) := by decide +kernel
theorem dX1_become_40 : decode cX1_become 40 = .ok (.aload_n 1, 1) := by decide +kernel
theorem dX1_become_41 : decode cX1_become 41 = .ok (.getfield 27, 3) := by decide +kernel
theorem dX1_become_44 : decode cX1_become 44 = .ok (.iconst 0, 1) := by decide +kernel
theorem dX1_become_45 : decode cX1_become 45 = .ok (.aload_n 0, 1) := by decide +kernel
theorem dX1_become_46 : decode cX1_become 46 = .ok (.getfield 27, 3) := by decide +kernel
theorem dX1_become_49 : decode cX1_become 49 = .ok (.iconst 0, 1) := by decide +kernel
theorem dX1_become_50 : decode cX1_become 50 = .ok (.bipush 12, 2) := by decide +kernel
theorem dX1_become_52 : decode cX1_become 52 = .ok (.invokestatic 73, 3) := by decide +kernel
theorem dX1_become_55 : decode cX1_become 55 = .ok (.aload_n 1, 1) := by decide +kernel
theorem dX1_become_56 : decode cX1_become 56 = .ok (.getfield 31, 3) := by decide +kernel
theorem dX1_become_59 : decode cX1_become 59 = .ok (.iconst 0, 1) := by decide +kernel
theorem dX1_become_60 : decode cX1_become 60 = .ok (.aload_n 0, 1) := by decide +kernel
theorem dX1_become_61 : decode cX1_become 61 = .ok (.getfield 31, 3) := by decide +kernel
theorem dX1_become_64 : decode cX1_become 64 = .ok (.iconst 0, 1) := by decide +kernel
theorem dX1_become_65 : decode cX1_become 65 = .ok (.bipush 12, 2) := by decide +kernel
theorem dX1_become_67 : decode cX1_become 67 = .ok (.invokestatic 73, 3) := by decide +kernel
theorem dX1_become_70 : decode cX1_become 70 = .ok (.aload_n 1, 1) := by decide +kernel
theorem dX1_become_71 : decode cX1_become 71 = .ok (.getfield 34, 3) := by decide +kernel
theorem dX1_become_74 : decode cX1_become 74 = .ok (.iconst 0, 1) := by decide +kernel
theorem dX1_become_75 : decode cX1_become 75 = .ok (.aload_n 0, 1) := by decide +kernel
theorem dX1_become_76 : decode cX1_become 76 = .ok (.getfield 34, 3) := by decide +kernel
theorem dX1_become_79 : decode cX1_become 79 = .ok (.iconst 0, 1) := by decide +kernel
theorem dX1_become_80 : decode cX1_become 80 = .ok (.bipush 12, 2) := by decide +kernel
theorem dX1_become_82 : decode cX1_become 82 = .ok (.invokestatic 73, 3) := by decide +kernel
theorem dX1_become_85 : decode cX1_become 85 = .ok (.aload_n 1, 1) := by decide +kernel
theorem dX1_become_86 : decode cX1_become 86 = .ok (.getfield 37, 3) := by decide +kernel
theorem dX1_become_89 : decode cX1_become 89 = .ok (.iconst 0, 1) := by decide +kernel
theorem dX1_become_90 : decode cX1_become 90 = .ok (.aload_n 0, 1) := by decide +kernel
theorem dX1_become_91 : decode cX1_become 91 = .ok (.getfield 37, 3) := by decide +kernel
theorem dX1_become_94 : decode cX1_become 94 = .ok (.iconst 0, 1) := by decide +kernel
theorem dX1_become_95 : decode cX1_become 95 = .ok (.bipush 12, 2) := by decide +kernel
theorem dX1_become_97 : decode cX1_become 97 = .ok (.invokestatic 73, 3) := by decide +kernel
theorem dX1_become_100 : decode cX1_become 100 = .ok (.aload_n 1, 1) := by decide +kernel
theorem dX1_become_101 : decode cX1_become 101 = .ok (.getfield 40, 3) := by decide +kernel
theorem dX1_become_104 : decode cX1_become 104 = .ok (.iconst 0, 1) := by decide +kernel
theorem dX1_become_105 : decode cX1_become 105 = .ok (.aload_n 0, 1) := by decide +kernel
theorem dX1_become_106 : decode cX1_become 106 = .ok (.getfield 40, 3) := by decide +kernel
theorem dX1_become_109 : decode cX1_become 109 = .ok (.iconst 0, 1) := by decide +kernel
theorem dX1_become_110 : decode cX1_become 110 = .ok (.bipush 12, 2) := by decide +kernel
theorem dX1_become_112 : decode cX1_become 112 = .ok (.invokestatic 73, 3) := by decide +kernel
theorem dX1_become_115 : decode cX1_become 115 = .ok (.aload_n 1, 1) := by decide +kernel
theorem dX1_become_116 : decode cX1_become 116 = .ok (.getfield 43, 3) := by decide +kernel
theorem dX1_become_119 : decode cX1_become 119 = .ok (.iconst 0, 1) := by decide +kernel
theorem dX1_become_120 : decode cX1_become 120 = .ok (.aload_n 0, 1) := by decide +kernel
theorem dX1_become_121 : decode cX1_become 121 = .ok (.getfield 43, 3) := by decide +kernel
theorem dX1_become_124 : decode cX1_become 124 = .ok (.iconst 0, 1) := by decide +kernel
theorem dX1_become_125 : decode cX1_become 125 = .ok (.bipush 12, 2) := by decide +kernel
theorem dX1_become_127 : decode cX1_become 127 = .ok (.invokestatic 73, 3) := by decide +kernel
theorem dX1_become_130 : decode cX1_become 130 = .ok (.aload_n 1, 1) := by decide +kernel
theorem dX1_become_131 : decode cX1_become 131 = .ok (.getfield 46, 3) := by decide +kernel
theorem dX1_become_134 : decode cX1_become 134 = .ok (.iconst 0, 1) := by decide +kernel
theorem dX1_become_135 : decode cX1_become 135 = .ok (.aload_n 0, 1) := by decide +kernel
theorem dX1_become_136 : decode cX1_become 136 = .ok (.getfield 46, 3) := by decide +kernel
theorem dX1_become_139 : decode cX1_become 139 = .ok (.iconst 0, 1) := by decide +kernel
theorem dX1_become_140 : decode cX1_become 140 = .ok (.bipush 12, 2) := by decide +kernel
theorem dX1_become_142 : decode cX1_become 142 = .ok (.invokestatic 73, 3) := by decide +kernel
theorem dX1_become_145 : decode cX1_become 145 = .ok (.aload_n 1, 1) := by decide +kernel
theorem dX1_become_146 : decode cX1_become 146 = .ok (.getfield 49, 3) := by decide +kernel
theorem dX1_become_149 : decode cX1_become 149 = .ok (.iconst 0, 1) := by decide +kernel
theorem dX1_become_150 : decode cX1_become 150 = .ok (.aload_n 0, 1) := by decide +kernel
theorem dX1_become_151 : decode cX1_become 151 = .ok (.getfield 49, 3) := by decide +kernel
theorem dX1_become_154 : decode cX1_become 154 = .ok (.iconst 0, 1) := by decide +kernel
theorem dX1_become_155 : decode cX1_become 155 = .ok (.bipush 12, 2) := by decide +kernel
theorem dX1_become_157 : decode cX1_become 157 = .ok (.invokestatic 73, 3) := by decide +kernel
theorem dX1_become_160 : decode cX1_become 160 = .ok (.aload_n 1, 1) := by decide +kernel
theorem dX1_become_161 : decode cX1_become 161 = .ok (.getfield 52, 3) := by decide +kernel
theorem dX1_become_164 : decode cX1_become 164 = .ok (.iconst 0, 1) := by decide +kernel
theorem dX1_become_165 : decode cX1_become 165 = .ok (.aload_n 0, 1) := by decide +kernel
theorem dX1_become_166 : decode cX1_become 166 = .ok (.getfield 52, 3) := by decide +kernel
theorem dX1_become_169 : decode cX1_become 169 = .ok (.iconst 0, 1) := by decide +kernel
theorem dX1_become_170 : decode cX1_become 170 = .ok (.bipush 12, 2) := by decide +kernel
theorem dX1_become_172 : decode cX1_become 172 = .ok (.invokestatic 73, 3) := by decide +kernel
theorem dX1_become_175 : decode cX1_become 175 = .ok (.aload_n 1, 1) := by decide +kernel
theorem dX1_become_176 : decode cX1_become 176 = .ok (.getfield 55, 3) := by decide +kernel
theorem dX1_become_179 : decode cX1_become 179 = .ok (.iconst 0, 1) := by decide +kernel
theorem dX1_become_180 : decode cX1_become 180 = .ok (.aload_n 0, 1) := by decide +kernel
theorem dX1_become_181 : decode cX1_become 181 = .ok (.getfield 55, 3) := by decide +kernel
theorem dX1_become_184 : decode cX1_become 184 = .ok (.iconst 0, 1) := by decide +kernel
theorem dX1_become_185 : decode cX1_become 185 = .ok (.bipush 28, 2) := by decide +kernel
theorem dX1_become_187 : decode cX1_become 187 = .ok (.invokestatic 73, 3) := by decide +kernel
theorem dX1_become_190 : decode cX1_become 190 = .ok (.aload_n 1, 1) := by decide +kernel
theorem dX1_become_191 : decode cX1_become 191 = .ok (.getfield 58, 3) := by decide +kernel
theorem dX1_become_194 : decode cX1_become 194 = .ok (.iconst 0, 1) := by decide +kernel
theorem dX1_become_195 : decode cX1_become 195 = .ok (.aload_n 0, 1) := by decide +kernel
theorem dX1_become_196 : decode cX1_become 196 = .ok (.getfield 58, 3) := by decide +kernel
theorem dX1_become_199 : decode cX1_become 199 = .ok (.iconst 0, 1) := by decide +kernel
theorem dX1_become_200 : decode cX1_become 200 = .ok (.bipush 28, 2) := by decide +kernel
theorem dX1_become_202 : decode cX1_become 202 = .ok (.invokestatic 73, 3) := by decide +kernel
theorem dX1_become_205 : decode cX1_become 205 = .ok (.aload_n 1, 1) := by decide +kernel
theorem dX1_become_206 : decode cX1_become 206 = .ok (.getfield 61, 3) := by decide +kernel
theorem dX1_become_209 : decode cX1_become 209 = .ok (.iconst 0, 1) := by decide +kernel
theorem dX1_become_210 : decode cX1_become 210 = .ok (.aload_n 0, 1) := by decide +kernel
theorem dX1_become_211 : decode cX1_become 211 = .ok (.getfield 61, 3) := by decide +kernel
theorem dX1_become_214 : decode cX1_become 214 = .ok (.iconst 0, 1) := by decide +kernel
theorem dX1_become_215 : decode cX1_become 215 = .ok (.bipush 28, 2) := by decide +kernel
theorem dX1_become_217 : decode cX1_become 217 = .ok (.invokestatic 73, 3) := by decide +kernel
theorem dX1_become_220 : decode cX1_become 220 = .ok (.aload_n 1, 1) := by decide +kernel
theorem dX1_become_221 : decode cX1_become 221 = .ok (.getfield 64, 3) := by decide +kernel
theorem dX1_become_224 : decode cX1_become 224 = .ok (.iconst 0, 1) := by decide +kernel
theorem dX1_become_225 : decode cX1_become 225 = .ok (.aload_n 0, 1) := by decide +kernel
theorem dX1_become_226 : decode cX1_become 226 = .ok (.getfield 64, 3) := by decide +kernel
theorem dX1_become_229 : decode cX1_become 229 = .ok (.iconst 0, 1) := by decide +kernel
theorem dX1_become_230 : decode cX1_become 230 = .ok (.bipush 8, 2) := by decide +kernel
theorem dX1_become_232 : decode cX1_become 232 = .ok (.invokestatic 73, 3) := by decide +kernel
theorem dX1_become_235 : decode cX1_become 235 = .ok (.aload_n 1, 1) := by decide +kernel
theorem dX1_become_236 : decode cX1_become 236 = .ok (.getfield 67, 3) := by decide +kernel
theorem dX1_become_239 : decode cX1_become 239 = .ok (.iconst 0, 1) := by decide +kernel
theorem dX1_become_240 : decode cX1_become 240 = .ok (.aload_n 0, 1) := by decide +kernel
theorem dX1_become_241 : decode cX1_become 241 = .ok (.getfield 67, 3) := by decide +kernel
theorem dX1_become_244 : decode cX1_become 244 = .ok (.iconst 0, 1) := by decide +kernel
theorem dX1_become_245 : decode cX1_become 245 = .ok (.bipush 8, 2) := by decide +kernel
theorem dX1_become_247 : decode cX1_become 247 = .ok (.invokestatic 73, 3) := by decide +kernel
theorem dX1_become_250 : decode cX1_become 250 = .ok (.aload_n 1, 1) := by decide +kernel
theorem dX1_become_251 : decode cX1_become 251 = .ok (.getfield 70, 3) := by decide +kernel
theorem dX1_become_254 : decode cX1_become 254 = .ok (.iconst 0, 1) := by decide +kernel
theorem dX1_become_255 : decode cX1_become 255 = .ok (.aload_n 0, 1) := by decide +kernel
theorem dX1_become_256 : decode cX1_become 256 = .ok (.getfield 70, 3) := by decide +kernel
theorem dX1_become_259 : decode cX1_become 259 = .ok (.iconst 0, 1) := by decide +kernel
theorem dX1_become_260 : decode cX1_become 260 = .ok (.bipush 8, 2) := by decide +kernel
theorem dX1_become_262 : decode cX1_become 262 = .ok (.invokestatic 73, 3) := by decide +kernel
theorem dX1_become_265 : decode cX1_become 265 = .ok (.return_, 1) := by decide +kernel
theorem dX1_isThere_0 : decode cX1_isThere 0 = .ok (.iload_n 1, 1) := by decide +kernel
theorem dX1_isThere_1 : decode cX1_isThere 1 = .ok (.ifCond .lt 15, 3) := by decide +kernel
theorem dX1_isThere_4 : decode cX1_isThere 4 = .ok (.iload_n 1, 1) := by decide +kernel
theorem dX1_isThere_5 : decode cX1_isThere 5 = .ok (.aload_n 0, 1) := by decide +kernel
theorem dX1_isThere_6 : decode cX1_isThere 6 = .ok (.getfield 21, 3) := by decide +kernel
theorem dX1_isThere_9 : decode cX1_isThere 9 = .ok (.if_icmp .ge 7, 3) := by decide +kernel
theorem dX1_isThere_12 : decode cX1_isThere 12 = .ok (.iconst 1, 1) := by decide +kernel
theorem dX1_isThere_13 : decode cX1_isThere 13 = .ok (.goto 4, 3) := by decide +kernel
theorem dX1_isThere_16 : decode cX1_isThere 16 = .ok (.iconst 0, 1) := by decide +kernel
theorem dX1_isThere_17 : decode cX1_isThere 17 = .ok (.ireturn, 1) := by decide +kernel
theorem dX1_lives_0 : decode cX1_lives 0 = .ok (.aload_n 0, 1) := by decide +kernel
theorem dX1_lives_1 : decode cX1_lives 1 = .ok (.iload_n 1, 1) := by decide +kernel
theorem dX1_lives_2 : decode cX1_lives 2 = .ok (.invokevirtual 79, 3) := by decide +kernel
theorem dX1_lives_5 : decode cX1_lives 5 = .ok (.ifCond .eq 19, 3) := by decide +kernel
theorem dX1_lives_8 : decode cX1_lives 8 = .ok (.aload_n 0, 1) := by decide +kernel
theorem dX1_lives_9 : decode cX1_lives 9 = .ok (.getfield 24, 3) := by decide +kernel
theorem dX1_lives_12 : decode cX1_lives 12 = .ok (.iload_n 1, 1) := by decide +kernel
theorem dX1_lives_13 : decode cX1_lives 13 = .ok (.ishr, 1) := by decide +kernel
theorem dX1_lives_14 : decode cX1_lives 14 = .ok (.iconst 1, 1) := by decide +kernel
theorem dX1_lives_15 : decode cX1_lives 15 = .ok (.iand, 1) := by decide +kernel
theorem dX1_lives_16 : decode cX1_lives 16 = .ok (.iconst 1, 1) := by decide +kernel
theorem dX1_lives_17 : decode cX1_lives 17 = .ok (.if_icmp .ne 7, 3) := by decide +kernel
theorem dX1_lives_20 : decode cX1_lives 20 = .ok (.iconst 1, 1) := by decide +kernel
theorem dX1_lives_21 : decode cX1_lives 21 = .ok (.goto 4, 3) := by decide +kernel
theorem dX1_lives_24 : decode cX1_lives 24 = .ok (.iconst 0, 1) := by decide +kernel
theorem dX1_lives_25 : decode cX1_lives 25 = .ok (.ireturn, 1) := by decide +kernel
theorem dX1_addPerson_0 : decode cX1_addPerson 0 = .ok (.aload_n 0, 1) := by decide +kernel
theorem dX1_addPerson_1 : decode cX1_addPerson 1 = .ok (.getfield 21, 3) := by decide +kernel
theorem dX1_addPerson_4 : decode cX1_addPerson 4 = .ok (.istore 4, 2) := by decide +kernel
theorem dX1_addPerson_6 : decode cX1_addPerson 6 = .ok (.aload_n 0, 1) := by decide +kernel
theorem dX1_addPerson_7 : decode cX1_addPerson 7 = .ok (.dup, 1) := by decide +kernel
theorem dX1_addPerson_8 : decode cX1_addPerson 8 = .ok (.getfield 21, 3) := by decide +kernel
theorem dX1_addPerson_11 : decode cX1_addPerson 11 = .ok (.iconst 1, 1) := by decide +kernel
theorem dX1_addPerson_12 : decode cX1_addPerson 12 = .ok (.iadd, 1) := by decide +kernel
theorem dX1_addPerson_13 : decode cX1_addPerson 13 = .ok (.putfield 21, 3) := by decide +kernel
theorem dX1_addPerson_16 : decode cX1_addPerson 16 = .ok (.aload_n 0, 1) := by decide +kernel
theorem dX1_addPerson_17 : decode cX1_addPerson 17 = .ok (.dup, 1) := by decide +kernel
theorem dX1_addPerson_18 : decode cX1_addPerson 18 = .ok (.getfield 24, 3) := by decide +kernel
theorem dX1_addPerson_21 : decode cX1_addPerson 21 = .ok (.iconst 1, 1) := by decide +kernel
theorem dX1_addPerson_22 : decode cX1_addPerson 22 = .ok (.iload 4, 2) := by decide +kernel
theorem dX1_addPerson_24 : decode cX1_addPerson 24 = .ok (.ishl, 1) := by decide +kernel
theorem dX1_addPerson_25 : decode cX1_addPerson 25 = .ok (.ior, 1) := by decide +kernel
theorem dX1_addPerson_26 : decode cX1_addPerson 26 = .ok (.putfield 24, 3) := by decide +kernel
theorem dX1_addPerson_29 : decode cX1_addPerson 29 = .ok (.aload_n 0, 1) := by decide +kernel
theorem dX1_addPerson_30 : decode cX1_addPerson 30 = .ok (.getfield 27, 3) := by decide +kernel
theorem dX1_addPerson_33 : decode cX1_addPerson 33 = .ok (.iload 4, 2) := by decide +kernel
theorem dX1_addPerson_35 : decode cX1_addPerson 35 = .ok (.iload_n 1, 1) := by decide +kernel
theorem dX1_addPerson_36 : decode cX1_addPerson 36 = .ok (.iastore, 1) := by decide +kernel
theorem dX1_addPerson_37 : decode cX1_addPerson 37 = .ok (.aload_n 0, 1) := by decide +kernel
theorem dX1_addPerson_38 : decode cX1_addPerson 38 = .ok (.getfield 31, 3) := by decide +kernel
theorem dX1_addPerson_41 : decode cX1_addPerson 41 = .ok (.iload 4, 2) := by decide +kernel
theorem dX1_addPerson_43 : decode cX1_addPerson 43 = .ok (.iload_n 2, 1) := by decide +kernel
theorem dX1_addPerson_44 : decode cX1_addPerson 44 = .ok (.iastore, 1) := by decide +kernel
theorem dX1_addPerson_45 : decode cX1_addPerson 45 = .ok (.aload_n 0, 1) := by decide +kernel
theorem dX1_addPerson_46 : decode cX1_addPerson 46 = .ok (.getfield 34, 3) := by decide +kernel
theorem dX1_addPerson_49 : decode cX1_addPerson 49 = .ok (.iload 4, 2) := by decide +kernel
theorem dX1_addPerson_51 : decode cX1_addPerson 51 = .ok (.aload_n 0, 1) := by decide +kernel
theorem dX1_addPerson_52 : decode cX1_addPerson 52 = .ok (.getfield 15, 3) := by decide +kernel
theorem dX1_addPerson_55 : decode cX1_addPerson 55 = .ok (.iastore, 1) := by decide +kernel
theorem dX1_addPerson_56 : decode cX1_addPerson 56 = .ok (.aload_n 0, 1) := by decide +kernel
theorem dX1_addPerson_57 : decode cX1_addPerson 57 = .ok (.getfield 37, 3) := by decide +kernel
theorem dX1_addPerson_60 : decode cX1_addPerson 60 = .ok (.iload 4, 2) := by decide +kernel
theorem dX1_addPerson_62 : decode cX1_addPerson 62 = .ok (.iconst (-1), 1) := by decide +kernel
theorem dX1_addPerson_63 : decode cX1_addPerson 63 = .ok (.iastore, 1) := by decide +kernel
theorem dX1_addPerson_64 : decode cX1_addPerson 64 = .ok (.aload_n 0, 1) := by decide +kernel
theorem dX1_addPerson_65 : decode cX1_addPerson 65 = .ok (.getfield 40, 3) := by decide +kernel
theorem dX1_addPerson_68 : decode cX1_addPerson 68 = .ok (.iload 4, 2) := by decide +kernel
theorem dX1_addPerson_70 : decode cX1_addPerson 70 = .ok (.iconst 0, 1) := by decide +kernel
theorem dX1_addPerson_71 : decode cX1_addPerson 71 = .ok (.iastore, 1) := by decide +kernel
theorem dX1_addPerson_72 : decode cX1_addPerson 72 = .ok (.aload_n 0, 1) := by decide +kernel
theorem dX1_addPerson_73 : decode cX1_addPerson 73 = .ok (.getfield 43, 3) := by decide +kernel
theorem dX1_addPerson_76 : decode cX1_addPerson 76 = .ok (.iload 4, 2) := by decide +kernel
theorem dX1_addPerson_78 : decode cX1_addPerson 78 = .ok (.iconst 0, 1) := by decide +kernel
theorem dX1_addPerson_79 : decode cX1_addPerson 79 = .ok (.iastore, 1) := by decide +kernel
theorem dX1_addPerson_80 : decode cX1_addPerson 80 = .ok (.aload_n 0, 1) := by decide +kernel
theorem dX1_addPerson_81 : decode cX1_addPerson 81 = .ok (.getfield 46, 3) := by decide +kernel
theorem dX1_addPerson_84 : decode cX1_addPerson 84 = .ok (.iload 4, 2) := by decide +kernel
theorem dX1_addPerson_86 : decode cX1_addPerson 86 = .ok (.iload_n 3, 1) := by decide +kernel
theorem dX1_addPerson_87 : decode cX1_addPerson 87 = .ok (.iastore, 1) := by decide +kernel
theorem dX1_addPerson_88 : decode cX1_addPerson 88 = .ok (.aload_n 0, 1) := by decide +kernel
theorem dX1_addPerson_89 : decode cX1_addPerson 89 = .ok (.getfield 49, 3) := by decide +kernel
theorem dX1_addPerson_92 : decode cX1_addPerson 92 = .ok (.iload 4, 2) := by decide +kernel
theorem dX1_addPerson_94 : decode cX1_addPerson 94 = .ok (.iconst (-1), 1) := by decide +kernel
theorem dX1_addPerson_95 : decode cX1_addPerson 95 = .ok (.iastore, 1) := by decide +kernel
theorem dX1_addPerson_96 : decode cX1_addPerson 96 = .ok (.aload_n 0, 1) := by decide +kernel
theorem dX1_addPerson_97 : decode cX1_addPerson 97 = .ok (.getfield 52, 3) := by decide +kernel
theorem dX1_addPerson_100 : decode cX1_addPerson 100 = .ok (.iload 4, 2) := by decide +kernel
theorem dX1_addPerson_102 : decode cX1_addPerson 102 = .ok (.iconst 0, 1) := by decide +kernel
theorem dX1_addPerson_103 : decode cX1_addPerson 103 = .ok (.iastore, 1) := by decide +kernel
theorem dX1_addPerson_104 : decode cX1_addPerson 104 = .ok (.iload_n 1, 1) := by decide +kernel
theorem dX1_addPerson_105 : decode cX1_addPerson 105 = .ok (.iconst (-1), 1) := by decide +kernel
theorem dX1_addPerson_106 : decode cX1_addPerson 106 = .ok (.if_icmp .eq 10, 3) := by decide +kernel
theorem dX1_addPerson_109 : decode cX1_addPerson 109 = .ok (.aload_n 0, 1) := by decide +kernel
theorem dX1_addPerson_110 : decode cX1_addPerson 110 = .ok (.iload 4, 2) := by decide +kernel
theorem dX1_addPerson_112 : decode cX1_addPerson 112 = .ok (.iload_n 1, 1) := by decide +kernel
theorem dX1_addPerson_113 : decode cX1_addPerson 113 = .ok (.invokevirtual 83, 3) := by decide +kernel
theorem dX1_addPerson_116 : decode cX1_addPerson 116 = .ok (.iload_n 2, 1) := by decide +kernel
theorem dX1_addPerson_117 : decode cX1_addPerson 117 = .ok (.iconst (-1), 1) := by decide +kernel
theorem dX1_addPerson_118 : decode cX1_addPerson 118 = .ok (.if_icmp .eq 10, 3) := by decide +kernel
theorem dX1_addPerson_121 : decode cX1_addPerson 121 = .ok (.aload_n 0, 1) := by decide +kernel
theorem dX1_addPerson_122 : decode cX1_addPerson 122 = .ok (.iload 4, 2) := by decide +kernel
theorem dX1_addPerson_124 : decode cX1_addPerson 124 = .ok (.iload_n 2, 1) := by decide +kernel
theorem dX1_addPerson_125 : decode cX1_addPerson 125 = .ok (.invokevirtual 83, 3) := by decide +kernel
theorem dX1_addPerson_128 : decode cX1_addPerson 128 = .ok (.iload 4, 2) := by decide +kernel
theorem dX1_addPerson_130 : decode cX1_addPerson 130 = .ok (.ireturn, 1) := by decide +kernel
theorem dX1_link_0 : decode cX1_link 0 = .ok (.aload_n 0, 1) := by decide +kernel
theorem dX1_link_1 : decode cX1_link 1 = .ok (.getfield 52, 3) := by decide +kernel
theorem dX1_link_4 : decode cX1_link 4 = .ok (.iload_n 1, 1) := by decide +kernel
theorem dX1_link_5 : decode cX1_link 5 = .ok (.dup2, 1) := by decide +kernel
theorem dX1_link_6 : decode cX1_link 6 = .ok (.iaload, 1) := by decide +kernel
theorem dX1_link_7 : decode cX1_link 7 = .ok (.iconst 1, 1) := by decide +kernel
theorem dX1_link_8 : decode cX1_link 8 = .ok (.iload_n 2, 1) := by decide +kernel
theorem dX1_link_9 : decode cX1_link 9 = .ok (.ishl, 1) := by decide +kernel
theorem dX1_link_10 : decode cX1_link 10 = .ok (.ior, 1) := by decide +kernel
theorem dX1_link_11 : decode cX1_link 11 = .ok (.iastore, 1) := by decide +kernel
theorem dX1_link_12 : decode cX1_link 12 = .ok (.aload_n 0, 1) := by decide +kernel
theorem dX1_link_13 : decode cX1_link 13 = .ok (.getfield 52, 3) := by decide +kernel
theorem dX1_link_16 : decode cX1_link 16 = .ok (.iload_n 2, 1) := by decide +kernel
theorem dX1_link_17 : decode cX1_link 17 = .ok (.dup2, 1) := by decide +kernel
theorem dX1_link_18 : decode cX1_link 18 = .ok (.iaload, 1) := by decide +kernel
theorem dX1_link_19 : decode cX1_link 19 = .ok (.iconst 1, 1) := by decide +kernel
theorem dX1_link_20 : decode cX1_link 20 = .ok (.iload_n 1, 1) := by decide +kernel
theorem dX1_link_21 : decode cX1_link 21 = .ok (.ishl, 1) := by decide +kernel
theorem dX1_link_22 : decode cX1_link 22 = .ok (.ior, 1) := by decide +kernel
theorem dX1_link_23 : decode cX1_link 23 = .ok (.iastore, 1) := by decide +kernel
theorem dX1_link_24 : decode cX1_link 24 = .ok (.return_, 1) := by decide +kernel
theorem dX1_unlink_0 : decode cX1_unlink 0 = .ok (.aload_n 0, 1) := by decide +kernel
theorem dX1_unlink_1 : decode cX1_unlink 1 = .ok (.getfield 52, 3) := by decide +kernel
theorem dX1_unlink_4 : decode cX1_unlink 4 = .ok (.iload_n 1, 1) := by decide +kernel
theorem dX1_unlink_5 : decode cX1_unlink 5 = .ok (.dup2, 1) := by decide +kernel
theorem dX1_unlink_6 : decode cX1_unlink 6 = .ok (.iaload, 1) := by decide +kernel
theorem dX1_unlink_7 : decode cX1_unlink 7 = .ok (.iconst 1, 1) := by decide +kernel
theorem dX1_unlink_8 : decode cX1_unlink 8 = .ok (.iload_n 2, 1) := by decide +kernel
theorem dX1_unlink_9 : decode cX1_unlink 9 = .ok (.ishl, 1) := by decide +kernel
theorem dX1_unlink_10 : decode cX1_unlink 10 = .ok (.iconst (-1), 1) := by decide +kernel
theorem dX1_unlink_11 : decode cX1_unlink 11 = .ok (.ixor, 1) := by decide +kernel
theorem dX1_unlink_12 : decode cX1_unlink 12 = .ok (.iand, 1) := by decide +kernel
theorem dX1_unlink_13 : decode cX1_unlink 13 = .ok (.iastore, 1) := by decide +kernel
theorem dX1_unlink_14 : decode cX1_unlink 14 = .ok (.aload_n 0, 1) := by decide +kernel
theorem dX1_unlink_15 : decode cX1_unlink 15 = .ok (.getfield 52, 3) := by decide +kernel
theorem dX1_unlink_18 : decode cX1_unlink 18 = .ok (.iload_n 2, 1) := by decide +kernel
theorem dX1_unlink_19 : decode cX1_unlink 19 = .ok (.dup2, 1) := by decide +kernel
theorem dX1_unlink_20 : decode cX1_unlink 20 = .ok (.iaload, 1) := by decide +kernel
theorem dX1_unlink_21 : decode cX1_unlink 21 = .ok (.iconst 1, 1) := by decide +kernel
theorem dX1_unlink_22 : decode cX1_unlink 22 = .ok (.iload_n 1, 1) := by decide +kernel
theorem dX1_unlink_23 : decode cX1_unlink 23 = .ok (.ishl, 1) := by decide +kernel
theorem dX1_unlink_24 : decode cX1_unlink 24 = .ok (.iconst (-1), 1) := by decide +kernel
theorem dX1_unlink_25 : decode cX1_unlink 25 = .ok (.ixor, 1) := by decide +kernel
theorem dX1_unlink_26 : decode cX1_unlink 26 = .ok (.iand, 1) := by decide +kernel
theorem dX1_unlink_27 : decode cX1_unlink 27 = .ok (.iastore, 1) := by decide +kernel
theorem dX1_unlink_28 : decode cX1_unlink 28 = .ok (.return_, 1) := by decide +kernel
theorem dX1_mayWed_0 : decode cX1_mayWed 0 = .ok (.iload_n 1, 1) := by decide +kernel
theorem dX1_mayWed_1 : decode cX1_mayWed 1 = .ok (.iload_n 2, 1) := by decide +kernel
theorem dX1_mayWed_2 : decode cX1_mayWed 2 = .ok (.if_icmp .eq 19, 3) := by decide +kernel
theorem dX1_mayWed_5 : decode cX1_mayWed 5 = .ok (.aload_n 0, 1) := by decide +kernel
theorem dX1_mayWed_6 : decode cX1_mayWed 6 = .ok (.iload_n 1, 1) := by decide +kernel
theorem dX1_mayWed_7 : decode cX1_mayWed 7 = .ok (.invokevirtual 87, 3) := by decide +kernel
theorem dX1_mayWed_10 : decode cX1_mayWed 10 = .ok (.ifCond .eq 11, 3) := by decide +kernel
theorem dX1_mayWed_13 : decode cX1_mayWed 13 = .ok (.aload_n 0, 1) := by decide +kernel
theorem dX1_mayWed_14 : decode cX1_mayWed 14 = .ok (.iload_n 2, 1) := by decide +kernel
theorem dX1_mayWed_15 : decode cX1_mayWed 15 = .ok (.invokevirtual 87, 3) := by decide +kernel
theorem dX1_mayWed_18 : decode cX1_mayWed 18 = .ok (.ifCond .ne 5, 3) := by decide +kernel
theorem dX1_mayWed_21 : decode cX1_mayWed 21 = .ok (.iconst 0, 1) := by decide +kernel
theorem dX1_mayWed_22 : decode cX1_mayWed 22 = .ok (.ireturn, 1) := by decide +kernel
theorem dX1_mayWed_23 : decode cX1_mayWed 23 = .ok (.aload_n 0, 1) := by decide +kernel
theorem dX1_mayWed_24 : decode cX1_mayWed 24 = .ok (.getfield 49, 3) := by decide +kernel
theorem dX1_mayWed_27 : decode cX1_mayWed 27 = .ok (.iload_n 1, 1) := by decide +kernel
theorem dX1_mayWed_28 : decode cX1_mayWed 28 = .ok (.iaload, 1) := by decide +kernel
theorem dX1_mayWed_29 : decode cX1_mayWed 29 = .ok (.iconst (-1), 1) := by decide +kernel
theorem dX1_mayWed_30 : decode cX1_mayWed 30 = .ok (.if_icmp .ne 13, 3) := by decide +kernel
theorem dX1_mayWed_33 : decode cX1_mayWed 33 = .ok (.aload_n 0, 1) := by decide +kernel
theorem dX1_mayWed_34 : decode cX1_mayWed 34 = .ok (.getfield 49, 3) := by decide +kernel
theorem dX1_mayWed_37 : decode cX1_mayWed 37 = .ok (.iload_n 2, 1) := by decide +kernel
theorem dX1_mayWed_38 : decode cX1_mayWed 38 = .ok (.iaload, 1) := by decide +kernel
theorem dX1_mayWed_39 : decode cX1_mayWed 39 = .ok (.iconst (-1), 1) := by decide +kernel
theorem dX1_mayWed_40 : decode cX1_mayWed 40 = .ok (.if_icmp .eq 5, 3) := by decide +kernel
theorem dX1_mayWed_43 : decode cX1_mayWed 43 = .ok (.iconst 0, 1) := by decide +kernel
theorem dX1_mayWed_44 : decode cX1_mayWed 44 = .ok (.ireturn, 1) := by decide +kernel
theorem dX1_mayWed_45 : decode cX1_mayWed 45 = .ok (.aload_n 0, 1) := by decide +kernel
theorem dX1_mayWed_46 : decode cX1_mayWed 46 = .ok (.iload_n 1, 1) := by decide +kernel
theorem dX1_mayWed_47 : decode cX1_mayWed 47 = .ok (.iload_n 2, 1) := by decide +kernel
theorem dX1_mayWed_48 : decode cX1_mayWed 48 = .ok (.invokevirtual 90, 3) := by decide +kernel
theorem dX1_mayWed_51 : decode cX1_mayWed 51 = .ok (.ifCond .ne 44, 3) := by decide +kernel
theorem dX1_mayWed_54 : decode cX1_mayWed 54 = .ok (.aload_n 0, 1) := by decide +kernel
theorem dX1_mayWed_55 : decode cX1_mayWed 55 = .ok (.iload_n 2, 1) := by decide +kernel
theorem dX1_mayWed_56 : decode cX1_mayWed 56 = .ok (.iload_n 1, 1) := by decide +kernel
theorem dX1_mayWed_57 : decode cX1_mayWed 57 = .ok (.invokevirtual 90, 3) := by decide +kernel
theorem dX1_mayWed_60 : decode cX1_mayWed 60 = .ok (.ifCond .ne 35, 3) := by decide +kernel
theorem dX1_mayWed_63 : decode cX1_mayWed 63 = .ok (.aload_n 0, 1) := by decide +kernel
theorem dX1_mayWed_64 : decode cX1_mayWed 64 = .ok (.aload_n 0, 1) := by decide +kernel
theorem dX1_mayWed_65 : decode cX1_mayWed 65 = .ok (.getfield 27, 3) := by decide +kernel
theorem dX1_mayWed_68 : decode cX1_mayWed 68 = .ok (.iload_n 1, 1) := by decide +kernel
theorem dX1_mayWed_69 : decode cX1_mayWed 69 = .ok (.iaload, 1) := by decide +kernel
theorem dX1_mayWed_70 : decode cX1_mayWed 70 = .ok (.iload_n 2, 1) := by decide +kernel
theorem dX1_mayWed_71 : decode cX1_mayWed 71 = .ok (.invokevirtual 90, 3) := by decide +kernel
theorem dX1_mayWed_74 : decode cX1_mayWed 74 = .ok (.ifCond .ne 21, 3) := by decide +kernel
theorem dX1_mayWed_77 : decode cX1_mayWed 77 = .ok (.aload_n 0, 1) := by decide +kernel
theorem dX1_mayWed_78 : decode cX1_mayWed 78 = .ok (.aload_n 0, 1) := by decide +kernel
theorem dX1_mayWed_79 : decode cX1_mayWed 79 = .ok (.getfield 31, 3) := by decide +kernel
theorem dX1_mayWed_82 : decode cX1_mayWed 82 = .ok (.iload_n 1, 1) := by decide +kernel
theorem dX1_mayWed_83 : decode cX1_mayWed 83 = .ok (.iaload, 1) := by decide +kernel
theorem dX1_mayWed_84 : decode cX1_mayWed 84 = .ok (.iload_n 2, 1) := by decide +kernel
theorem dX1_mayWed_85 : decode cX1_mayWed 85 = .ok (.invokevirtual 90, 3) := by decide +kernel
theorem dX1_mayWed_88 : decode cX1_mayWed 88 = .ok (.ifCond .ne 7, 3) := by decide +kernel
theorem dX1_mayWed_91 : decode cX1_mayWed 91 = .ok (.iconst 1, 1) := by decide +kernel
theorem dX1_mayWed_92 : decode cX1_mayWed 92 = .ok (.goto 4, 3) := by decide +kernel
theorem dX1_mayWed_95 : decode cX1_mayWed 95 = .ok (.iconst 0, 1) := by decide +kernel
theorem dX1_mayWed_96 : decode cX1_mayWed 96 = .ok (.ireturn, 1) := by decide +kernel
theorem dX1_isParent_0 : decode cX1_isParent 0 = .ok (.iload_n 1, 1) := by decide +kernel
theorem dX1_isParent_1 : decode cX1_isParent 1 = .ok (.iconst (-1), 1) := by decide +kernel
theorem dX1_isParent_2 : decode cX1_isParent 2 = .ok (.if_icmp .eq 27, 3) := by decide +kernel
theorem dX1_isParent_5 : decode cX1_isParent 5 = .ok (.aload_n 0, 1) := by decide +kernel
theorem dX1_isParent_6 : decode cX1_isParent 6 = .ok (.getfield 27, 3) := by decide +kernel
theorem dX1_isParent_9 : decode cX1_isParent 9 = .ok (.iload_n 2, 1) := by decide +kernel
theorem dX1_isParent_10 : decode cX1_isParent 10 = .ok (.iaload, 1) := by decide +kernel
theorem dX1_isParent_11 : decode cX1_isParent 11 = .ok (.iload_n 1, 1) := by decide +kernel
theorem dX1_isParent_12 : decode cX1_isParent 12 = .ok (.if_icmp .eq 13, 3) := by decide +kernel
theorem dX1_isParent_15 : decode cX1_isParent 15 = .ok (.aload_n 0, 1) := by decide +kernel
theorem dX1_isParent_16 : decode cX1_isParent 16 = .ok (.getfield 31, 3) := by decide +kernel
theorem dX1_isParent_19 : decode cX1_isParent 19 = .ok (.iload_n 2, 1) := by decide +kernel
theorem dX1_isParent_20 : decode cX1_isParent 20 = .ok (.iaload, 1) := by decide +kernel
theorem dX1_isParent_21 : decode cX1_isParent 21 = .ok (.iload_n 1, 1) := by decide +kernel
theorem dX1_isParent_22 : decode cX1_isParent 22 = .ok (.if_icmp .ne 7, 3) := by decide +kernel
theorem dX1_isParent_25 : decode cX1_isParent 25 = .ok (.iconst 1, 1) := by decide +kernel
theorem dX1_isParent_26 : decode cX1_isParent 26 = .ok (.goto 4, 3) := by decide +kernel
theorem dX1_isParent_29 : decode cX1_isParent 29 = .ok (.iconst 0, 1) := by decide +kernel
theorem dX1_isParent_30 : decode cX1_isParent 30 = .ok (.ireturn, 1) := by decide +kernel
theorem dX1_join_0 : decode cX1_join 0 = .ok (.aload_n 0, 1) := by decide +kernel
theorem dX1_join_1 : decode cX1_join 1 = .ok (.getfield 49, 3) := by decide +kernel
theorem dX1_join_4 : decode cX1_join 4 = .ok (.iload_n 1, 1) := by decide +kernel
theorem dX1_join_5 : decode cX1_join 5 = .ok (.iload_n 2, 1) := by decide +kernel
theorem dX1_join_6 : decode cX1_join 6 = .ok (.iastore, 1) := by decide +kernel
theorem dX1_join_7 : decode cX1_join 7 = .ok (.aload_n 0, 1) := by decide +kernel
theorem dX1_join_8 : decode cX1_join 8 = .ok (.getfield 49, 3) := by decide +kernel
theorem dX1_join_11 : decode cX1_join 11 = .ok (.iload_n 2, 1) := by decide +kernel
theorem dX1_join_12 : decode cX1_join 12 = .ok (.iload_n 1, 1) := by decide +kernel
theorem dX1_join_13 : decode cX1_join 13 = .ok (.iastore, 1) := by decide +kernel
theorem dX1_join_14 : decode cX1_join 14 = .ok (.aload_n 0, 1) := by decide +kernel
theorem dX1_join_15 : decode cX1_join 15 = .ok (.iload_n 1, 1) := by decide +kernel
theorem dX1_join_16 : decode cX1_join 16 = .ok (.iload_n 2, 1) := by decide +kernel
theorem dX1_join_17 : decode cX1_join 17 = .ok (.invokevirtual 83, 3) := by decide +kernel
theorem dX1_join_20 : decode cX1_join 20 = .ok (.return_, 1) := by decide +kernel
theorem dX1_separate_0 : decode cX1_separate 0 = .ok (.aload_n 0, 1) := by decide +kernel
theorem dX1_separate_1 : decode cX1_separate 1 = .ok (.getfield 49, 3) := by decide +kernel
theorem dX1_separate_4 : decode cX1_separate 4 = .ok (.iload_n 1, 1) := by decide +kernel
theorem dX1_separate_5 : decode cX1_separate 5 = .ok (.iconst (-1), 1) := by decide +kernel
theorem dX1_separate_6 : decode cX1_separate 6 = .ok (.iastore, 1) := by decide +kernel
theorem dX1_separate_7 : decode cX1_separate 7 = .ok (.aload_n 0, 1) := by decide +kernel
theorem dX1_separate_8 : decode cX1_separate 8 = .ok (.getfield 49, 3) := by decide +kernel
theorem dX1_separate_11 : decode cX1_separate 11 = .ok (.iload_n 2, 1) := by decide +kernel
theorem dX1_separate_12 : decode cX1_separate 12 = .ok (.iconst (-1), 1) := by decide +kernel
theorem dX1_separate_13 : decode cX1_separate 13 = .ok (.iastore, 1) := by decide +kernel
theorem dX1_separate_14 : decode cX1_separate 14 = .ok (.aload_n 0, 1) := by decide +kernel
theorem dX1_separate_15 : decode cX1_separate 15 = .ok (.iload_n 1, 1) := by decide +kernel
theorem dX1_separate_16 : decode cX1_separate 16 = .ok (.iload_n 2, 1) := by decide +kernel
theorem dX1_separate_17 : decode cX1_separate 17 = .ok (.invokevirtual 94, 3) := by decide +kernel
theorem dX1_separate_20 : decode cX1_separate 20 = .ok (.return_, 1) := by decide +kernel
theorem dX1_within_0 : decode cX1_within 0 = .ok (.iconst 1, 1) := by decide +kernel
theorem dX1_within_1 : decode cX1_within 1 = .ok (.iload_n 1, 1) := by decide +kernel
theorem dX1_within_2 : decode cX1_within 2 = .ok (.ishl, 1) := by decide +kernel
theorem dX1_within_3 : decode cX1_within 3 = .ok (.istore_n 3, 1) := by decide +kernel
theorem dX1_within_4 : decode cX1_within 4 = .ok (.iconst 0, 1) := by decide +kernel
theorem dX1_within_5 : decode cX1_within 5 = .ok (.istore 4, 2) := by decide +kernel
theorem dX1_within_7 : decode cX1_within 7 = .ok (.iload 4, 2) := by decide +kernel
theorem dX1_within_9 : decode cX1_within 9 = .ok (.iload_n 2, 1) := by decide +kernel
theorem dX1_within_10 : decode cX1_within 10 = .ok (.if_icmp .ge 55, 3) := by decide +kernel
theorem dX1_within_13 : decode cX1_within 13 = .ok (.iload_n 3, 1) := by decide +kernel
theorem dX1_within_14 : decode cX1_within 14 = .ok (.istore 5, 2) := by decide +kernel
theorem dX1_within_16 : decode cX1_within 16 = .ok (.iconst 0, 1) := by decide +kernel
theorem dX1_within_17 : decode cX1_within 17 = .ok (.istore 6, 2) := by decide +kernel
theorem dX1_within_19 : decode cX1_within 19 = .ok (.iload 6, 2) := by decide +kernel
theorem dX1_within_21 : decode cX1_within 21 = .ok (.aload_n 0, 1) := by decide +kernel
theorem dX1_within_22 : decode cX1_within 22 = .ok (.getfield 21, 3) := by decide +kernel
theorem dX1_within_25 : decode cX1_within 25 = .ok (.if_icmp .ge 31, 3) := by decide +kernel
theorem dX1_within_28 : decode cX1_within 28 = .ok (.iload_n 3, 1) := by decide +kernel
theorem dX1_within_29 : decode cX1_within 29 = .ok (.iload 6, 2) := by decide +kernel
theorem dX1_within_31 : decode cX1_within 31 = .ok (.ishr, 1) := by decide +kernel
theorem dX1_within_32 : decode cX1_within 32 = .ok (.iconst 1, 1) := by decide +kernel
theorem dX1_within_33 : decode cX1_within 33 = .ok (.iand, 1) := by decide +kernel
theorem dX1_within_34 : decode cX1_within 34 = .ok (.iconst 1, 1) := by decide +kernel
theorem dX1_within_35 : decode cX1_within 35 = .ok (.if_icmp .ne 15, 3) := by decide +kernel
theorem dX1_within_38 : decode cX1_within 38 = .ok (.iload 5, 2) := by decide +kernel
theorem dX1_within_40 : decode cX1_within 40 = .ok (.aload_n 0, 1) := by decide +kernel
theorem dX1_within_41 : decode cX1_within 41 = .ok (.getfield 52, 3) := by decide +kernel
theorem dX1_within_44 : decode cX1_within 44 = .ok (.iload 6, 2) := by decide +kernel
theorem dX1_within_46 : decode cX1_within 46 = .ok (.iaload, 1) := by decide +kernel
theorem dX1_within_47 : decode cX1_within 47 = .ok (.ior, 1) := by decide +kernel
theorem dX1_within_48 : decode cX1_within 48 = .ok (.istore 5, 2) := by decide +kernel
theorem dX1_within_50 : decode cX1_within 50 = .ok (.iinc 6 1, 3) := by decide +kernel
theorem dX1_within_53 : decode cX1_within 53 = .ok (.goto (-34), 3) := by decide +kernel
theorem dX1_within_56 : decode cX1_within 56 = .ok (.iload 5, 2) := by decide +kernel
theorem dX1_within_58 : decode cX1_within 58 = .ok (.istore_n 3, 1) := by decide +kernel
theorem dX1_within_59 : decode cX1_within 59 = .ok (.iinc 4 1, 3) := by decide +kernel
theorem dX1_within_62 : decode cX1_within 62 = .ok (.goto (-55), 3) := by decide +kernel
theorem dX1_within_65 : decode cX1_within 65 = .ok (.iload_n 3, 1) := by decide +kernel
theorem dX1_within_66 : decode cX1_within 66 = .ok (.ireturn, 1) := by decide +kernel
theorem dX1_stepsBetween_0 : decode cX1_stepsBetween 0 = .ok (.iconst 0, 1) := by decide +kernel
theorem dX1_stepsBetween_1 : decode cX1_stepsBetween 1 = .ok (.istore_n 3, 1) := by decide +kernel
theorem dX1_stepsBetween_2 : decode cX1_stepsBetween 2 = .ok (.iload_n 3, 1) := by decide +kernel
theorem dX1_stepsBetween_3 : decode cX1_stepsBetween 3 = .ok (.aload_n 0, 1) := by decide +kernel
theorem dX1_stepsBetween_4 : decode cX1_stepsBetween 4 = .ok (.getfield 21, 3) := by decide +kernel
theorem dX1_stepsBetween_7 : decode cX1_stepsBetween 7 = .ok (.if_icmp .ge 25, 3) := by decide +kernel
theorem dX1_stepsBetween_10 : decode cX1_stepsBetween 10 = .ok (.aload_n 0, 1) := by decide +kernel
theorem dX1_stepsBetween_11 : decode cX1_stepsBetween 11 = .ok (.iload_n 1, 1) := by decide +kernel
theorem dX1_stepsBetween_12 : decode cX1_stepsBetween 12 = .ok (.iload_n 3, 1) := by decide +kernel
theorem dX1_stepsBetween_13 : decode cX1_stepsBetween 13 = .ok (.invokevirtual 97, 3) := by decide +kernel
theorem dX1_stepsBetween_16 : decode cX1_stepsBetween 16 = .ok (.iload_n 2, 1) := by decide +kernel
theorem dX1_stepsBetween_17 : decode cX1_stepsBetween 17 = .ok (.ishr, 1) := by decide +kernel
theorem dX1_stepsBetween_18 : decode cX1_stepsBetween 18 = .ok (.iconst 1, 1) := by decide +kernel
theorem dX1_stepsBetween_19 : decode cX1_stepsBetween 19 = .ok (.iand, 1) := by decide +kernel
theorem dX1_stepsBetween_20 : decode cX1_stepsBetween 20 = .ok (.iconst 1, 1) := by decide +kernel
theorem dX1_stepsBetween_21 : decode cX1_stepsBetween 21 = .ok (.if_icmp .ne 5, 3) := by decide +kernel
theorem dX1_stepsBetween_24 : decode cX1_stepsBetween 24 = .ok (.iload_n 3, 1) := by decide +kernel
theorem dX1_stepsBetween_25 : decode cX1_stepsBetween 25 = .ok (.ireturn, 1) := by decide +kernel
theorem dX1_stepsBetween_26 : decode cX1_stepsBetween 26 = .ok (.iinc 3 1, 3) := by decide +kernel
theorem dX1_stepsBetween_29 : decode cX1_stepsBetween 29 = .ok (.goto (-27), 3) := by decide +kernel
theorem dX1_stepsBetween_32 : decode cX1_stepsBetween 32 = .ok (.bipush 99, 2) := by decide +kernel
theorem dX1_stepsBetween_34 : decode cX1_stepsBetween 34 = .ok (.ireturn, 1) := by decide +kernel
theorem dX1_ownedBy_0 : decode cX1_ownedBy 0 = .ok (.iconst 0, 1) := by decide +kernel
theorem dX1_ownedBy_1 : decode cX1_ownedBy 1 = .ok (.istore_n 2, 1) := by decide +kernel
theorem dX1_ownedBy_2 : decode cX1_ownedBy 2 = .ok (.iconst 0, 1) := by decide +kernel
theorem dX1_ownedBy_3 : decode cX1_ownedBy 3 = .ok (.istore_n 3, 1) := by decide +kernel
theorem dX1_ownedBy_4 : decode cX1_ownedBy 4 = .ok (.iload_n 3, 1) := by decide +kernel
theorem dX1_ownedBy_5 : decode cX1_ownedBy 5 = .ok (.bipush 28, 2) := by decide +kernel
theorem dX1_ownedBy_7 : decode cX1_ownedBy 7 = .ok (.if_icmp .ge 25, 3) := by decide +kernel
theorem dX1_ownedBy_10 : decode cX1_ownedBy 10 = .ok (.aload_n 0, 1) := by decide +kernel
theorem dX1_ownedBy_11 : decode cX1_ownedBy 11 = .ok (.getfield 55, 3) := by decide +kernel
theorem dX1_ownedBy_14 : decode cX1_ownedBy 14 = .ok (.iload_n 3, 1) := by decide +kernel
theorem dX1_ownedBy_15 : decode cX1_ownedBy 15 = .ok (.iaload, 1) := by decide +kernel
theorem dX1_ownedBy_16 : decode cX1_ownedBy 16 = .ok (.iload_n 1, 1) := by decide +kernel
theorem dX1_ownedBy_17 : decode cX1_ownedBy 17 = .ok (.if_icmp .ne 9, 3) := by decide +kernel
theorem dX1_ownedBy_20 : decode cX1_ownedBy 20 = .ok (.iload_n 2, 1) := by decide +kernel
theorem dX1_ownedBy_21 : decode cX1_ownedBy 21 = .ok (.iconst 1, 1) := by decide +kernel
theorem dX1_ownedBy_22 : decode cX1_ownedBy 22 = .ok (.iload_n 3, 1) := by decide +kernel
theorem dX1_ownedBy_23 : decode cX1_ownedBy 23 = .ok (.ishl, 1) := by decide +kernel
theorem dX1_ownedBy_24 : decode cX1_ownedBy 24 = .ok (.ior, 1) := by decide +kernel
theorem dX1_ownedBy_25 : decode cX1_ownedBy 25 = .ok (.istore_n 2, 1) := by decide +kernel
theorem dX1_ownedBy_26 : decode cX1_ownedBy 26 = .ok (.iinc 3 1, 3) := by decide +kernel
theorem dX1_ownedBy_29 : decode cX1_ownedBy 29 = .ok (.goto (-25), 3) := by decide +kernel
theorem dX1_ownedBy_32 : decode cX1_ownedBy 32 = .ok (.iload_n 2, 1) := by decide +kernel
theorem dX1_ownedBy_33 : decode cX1_ownedBy 33 = .ok (.ireturn, 1) := by decide +kernel
theorem dX1_writableBy_0 : decode cX1_writableBy 0 = .ok (.aload_n 0, 1) := by decide +kernel
theorem dX1_writableBy_1 : decode cX1_writableBy 1 = .ok (.iload_n 1, 1) := by decide +kernel
theorem dX1_writableBy_2 : decode cX1_writableBy 2 = .ok (.invokevirtual 87, 3) := by decide +kernel
theorem dX1_writableBy_5 : decode cX1_writableBy 5 = .ok (.ifCond .ne 5, 3) := by decide +kernel
theorem dX1_writableBy_8 : decode cX1_writableBy 8 = .ok (.iconst 0, 1) := by decide +kernel
theorem dX1_writableBy_9 : decode cX1_writableBy 9 = .ok (.ireturn, 1) := by decide +kernel
theorem dX1_writableBy_10 : decode cX1_writableBy 10 = .ok (.aload_n 0, 1) := by decide +kernel
theorem dX1_writableBy_11 : decode cX1_writableBy 11 = .ok (.iload_n 1, 1) := by decide +kernel
theorem dX1_writableBy_12 : decode cX1_writableBy 12 = .ok (.aload_n 0, 1) := by decide +kernel
theorem dX1_writableBy_13 : decode cX1_writableBy 13 = .ok (.getfield 18, 3) := by decide +kernel
theorem dX1_writableBy_16 : decode cX1_writableBy 16 = .ok (.invokevirtual 97, 3) := by decide +kernel
theorem dX1_writableBy_19 : decode cX1_writableBy 19 = .ok (.aload_n 0, 1) := by decide +kernel
theorem dX1_writableBy_20 : decode cX1_writableBy 20 = .ok (.getfield 24, 3) := by decide +kernel
theorem dX1_writableBy_23 : decode cX1_writableBy 23 = .ok (.iand, 1) := by decide +kernel
theorem dX1_writableBy_24 : decode cX1_writableBy 24 = .ok (.istore_n 2, 1) := by decide +kernel
theorem dX1_writableBy_25 : decode cX1_writableBy 25 = .ok (.iconst 0, 1) := by decide +kernel
theorem dX1_writableBy_26 : decode cX1_writableBy 26 = .ok (.istore_n 3, 1) := by decide +kernel
theorem dX1_writableBy_27 : decode cX1_writableBy 27 = .ok (.iconst 0, 1) := by decide +kernel
theorem dX1_writableBy_28 : decode cX1_writableBy 28 = .ok (.istore 4, 2) := by decide +kernel
theorem dX1_writableBy_30 : decode cX1_writableBy 30 = .ok (.iload 4, 2) := by decide +kernel
theorem dX1_writableBy_32 : decode cX1_writableBy 32 = .ok (.bipush 28, 2) := by decide +kernel
theorem dX1_writableBy_34 : decode cX1_writableBy 34 = .ok (.if_icmp .ge 74, 3) := by decide +kernel
theorem dX1_writableBy_37 : decode cX1_writableBy 37 = .ok (.aload_n 0, 1) := by decide +kernel
theorem dX1_writableBy_38 : decode cX1_writableBy 38 = .ok (.getfield 58, 3) := by decide +kernel
theorem dX1_writableBy_41 : decode cX1_writableBy 41 = .ok (.iload 4, 2) := by decide +kernel
theorem dX1_writableBy_43 : decode cX1_writableBy 43 = .ok (.iaload, 1) := by decide +kernel
theorem dX1_writableBy_44 : decode cX1_writableBy 44 = .ok (.istore 5, 2) := by decide +kernel
theorem dX1_writableBy_46 : decode cX1_writableBy 46 = .ok (.aload_n 0, 1) := by decide +kernel
theorem dX1_writableBy_47 : decode cX1_writableBy 47 = .ok (.getfield 55, 3) := by decide +kernel
theorem dX1_writableBy_50 : decode cX1_writableBy 50 = .ok (.iload 4, 2) := by decide +kernel
theorem dX1_writableBy_52 : decode cX1_writableBy 52 = .ok (.iaload, 1) := by decide +kernel
theorem dX1_writableBy_53 : decode cX1_writableBy 53 = .ok (.istore 6, 2) := by decide +kernel
theorem dX1_writableBy_55 : decode cX1_writableBy 55 = .ok (.iload 5, 2) := by decide +kernel
theorem dX1_writableBy_57 : decode cX1_writableBy 57 = .ok (.iload_n 1, 1) := by decide +kernel
theorem dX1_writableBy_58 : decode cX1_writableBy 58 = .ok (.if_icmp .eq 25, 3) := by decide +kernel
theorem dX1_writableBy_61 : decode cX1_writableBy 61 = .ok (.iload 5, 2) := by decide +kernel
theorem dX1_writableBy_63 : decode cX1_writableBy 63 = .ok (.iconst (-1), 1) := by decide +kernel
theorem dX1_writableBy_64 : decode cX1_writableBy 64 = .ok (.if_icmp .ne 23, 3) := by decide +kernel
theorem dX1_writableBy_67 : decode cX1_writableBy 67 = .ok (.iload 6, 2) := by decide +kernel
theorem dX1_writableBy_69 : decode cX1_writableBy 69 = .ok (.iconst (-1), 1) := by decide +kernel
theorem dX1_writableBy_70 : decode cX1_writableBy 70 = .ok (.if_icmp .eq 17, 3) := by decide +kernel
theorem dX1_writableBy_73 : decode cX1_writableBy 73 = .ok (.iload_n 2, 1) := by decide +kernel
theorem dX1_writableBy_74 : decode cX1_writableBy 74 = .ok (.iload 6, 2) := by decide +kernel
theorem dX1_writableBy_76 : decode cX1_writableBy 76 = .ok (.ishr, 1) := by decide +kernel
theorem dX1_writableBy_77 : decode cX1_writableBy 77 = .ok (.iconst 1, 1) := by decide +kernel
theorem dX1_writableBy_78 : decode cX1_writableBy 78 = .ok (.iand, 1) := by decide +kernel
theorem dX1_writableBy_79 : decode cX1_writableBy 79 = .ok (.iconst 1, 1) := by decide +kernel
theorem dX1_writableBy_80 : decode cX1_writableBy 80 = .ok (.if_icmp .ne 7, 3) := by decide +kernel
theorem dX1_writableBy_83 : decode cX1_writableBy 83 = .ok (.iconst 1, 1) := by decide +kernel
theorem dX1_writableBy_84 : decode cX1_writableBy 84 = .ok (.goto 4, 3) := by decide +kernel
theorem dX1_writableBy_87 : decode cX1_writableBy 87 = .ok (.iconst 0, 1) := by decide +kernel
theorem dX1_writableBy_88 : decode cX1_writableBy 88 = .ok (.istore 7, 2) := by decide +kernel
theorem dX1_writableBy_90 : decode cX1_writableBy 90 = .ok (.iload 7, 2) := by decide +kernel
theorem dX1_writableBy_92 : decode cX1_writableBy 92 = .ok (.ifCond .eq 10, 3) := by decide +kernel
theorem dX1_writableBy_95 : decode cX1_writableBy 95 = .ok (.iload_n 3, 1) := by decide +kernel
theorem dX1_writableBy_96 : decode cX1_writableBy 96 = .ok (.iconst 1, 1) := by decide +kernel
theorem dX1_writableBy_97 : decode cX1_writableBy 97 = .ok (.iload 4, 2) := by decide +kernel
theorem dX1_writableBy_99 : decode cX1_writableBy 99 = .ok (.ishl, 1) := by decide +kernel
theorem dX1_writableBy_100 : decode cX1_writableBy 100 = .ok (.ior, 1) := by decide +kernel
theorem dX1_writableBy_101 : decode cX1_writableBy 101 = .ok (.istore_n 3, 1) := by decide +kernel
theorem dX1_writableBy_102 : decode cX1_writableBy 102 = .ok (.iinc 4 1, 3) := by decide +kernel
theorem dX1_writableBy_105 : decode cX1_writableBy 105 = .ok (.goto (-75), 3) := by decide +kernel
theorem dX1_writableBy_108 : decode cX1_writableBy 108 = .ok (.iload_n 3, 1) := by decide +kernel
theorem dX1_writableBy_109 : decode cX1_writableBy 109 = .ok (.ireturn, 1) := by decide +kernel
theorem dX1_loans_0 : decode cX1_loans 0 = .ok (.iconst 0, 1) := by decide +kernel
theorem dX1_loans_1 : decode cX1_loans 1 = .ok (.istore_n 1, 1) := by decide +kernel
theorem dX1_loans_2 : decode cX1_loans 2 = .ok (.iconst 0, 1) := by decide +kernel
theorem dX1_loans_3 : decode cX1_loans 3 = .ok (.istore_n 2, 1) := by decide +kernel
theorem dX1_loans_4 : decode cX1_loans 4 = .ok (.iload_n 2, 1) := by decide +kernel
theorem dX1_loans_5 : decode cX1_loans 5 = .ok (.bipush 28, 2) := by decide +kernel
theorem dX1_loans_7 : decode cX1_loans 7 = .ok (.if_icmp .ge 22, 3) := by decide +kernel
theorem dX1_loans_10 : decode cX1_loans 10 = .ok (.aload_n 0, 1) := by decide +kernel
theorem dX1_loans_11 : decode cX1_loans 11 = .ok (.getfield 58, 3) := by decide +kernel
theorem dX1_loans_14 : decode cX1_loans 14 = .ok (.iload_n 2, 1) := by decide +kernel
theorem dX1_loans_15 : decode cX1_loans 15 = .ok (.iaload, 1) := by decide +kernel
theorem dX1_loans_16 : decode cX1_loans 16 = .ok (.iconst (-1), 1) := by decide +kernel
theorem dX1_loans_17 : decode cX1_loans 17 = .ok (.if_icmp .eq 6, 3) := by decide +kernel
theorem dX1_loans_20 : decode cX1_loans 20 = .ok (.iinc 1 1, 3) := by decide +kernel
theorem dX1_loans_23 : decode cX1_loans 23 = .ok (.iinc 2 1, 3) := by decide +kernel
theorem dX1_loans_26 : decode cX1_loans 26 = .ok (.goto (-22), 3) := by decide +kernel
theorem dX1_loans_29 : decode cX1_loans 29 = .ok (.iload_n 1, 1) := by decide +kernel
theorem dX1_loans_30 : decode cX1_loans 30 = .ok (.ireturn, 1) := by decide +kernel
theorem dX1_endLoan_0 : decode cX1_endLoan 0 = .ok (.aload_n 0, 1) := by decide +kernel
theorem dX1_endLoan_1 : decode cX1_endLoan 1 = .ok (.getfield 58, 3) := by decide +kernel
theorem dX1_endLoan_4 : decode cX1_endLoan 4 = .ok (.iload_n 1, 1) := by decide +kernel
theorem dX1_endLoan_5 : decode cX1_endLoan 5 = .ok (.iconst (-1), 1) := by decide +kernel
theorem dX1_endLoan_6 : decode cX1_endLoan 6 = .ok (.iastore, 1) := by decide +kernel
theorem dX1_endLoan_7 : decode cX1_endLoan 7 = .ok (.aload_n 0, 1) := by decide +kernel
theorem dX1_endLoan_8 : decode cX1_endLoan 8 = .ok (.getfield 61, 3) := by decide +kernel
theorem dX1_endLoan_11 : decode cX1_endLoan 11 = .ok (.iload_n 1, 1) := by decide +kernel
theorem dX1_endLoan_12 : decode cX1_endLoan 12 = .ok (.iconst (-1), 1) := by decide +kernel
theorem dX1_endLoan_13 : decode cX1_endLoan 13 = .ok (.iastore, 1) := by decide +kernel
theorem dX1_endLoan_14 : decode cX1_endLoan 14 = .ok (.return_, 1) := by decide +kernel
theorem dX1_pass_0 : decode cX1_pass 0 = .ok (.aload 4, 2) := by decide +kernel
theorem dX1_pass_2 : decode cX1_pass 2 = .ok (.ifnull 31, 3) := by decide +kernel
theorem dX1_pass_5 : decode cX1_pass 5 = .ok (.aload_n 0, 1) := by decide +kernel
theorem dX1_pass_6 : decode cX1_pass 6 = .ok (.getfield 55, 3) := by decide +kernel
theorem dX1_pass_9 : decode cX1_pass 9 = .ok (.iload_n 1, 1) := by decide +kernel
theorem dX1_pass_10 : decode cX1_pass 10 = .ok (.iaload, 1) := by decide +kernel
theorem dX1_pass_11 : decode cX1_pass 11 = .ok (.iload_n 2, 1) := by decide +kernel
theorem dX1_pass_12 : decode cX1_pass 12 = .ok (.if_icmp .eq 21, 3) := by decide +kernel
theorem dX1_pass_15 : decode cX1_pass 15 = .ok (.aload 4, 2) := by decide +kernel
theorem dX1_pass_17 : decode cX1_pass 17 = .ok (.iload_n 1, 1) := by decide +kernel
theorem dX1_pass_18 : decode cX1_pass 18 = .ok (.aload_n 0, 1) := by decide +kernel
theorem dX1_pass_19 : decode cX1_pass 19 = .ok (.getfield 55, 3) := by decide +kernel
theorem dX1_pass_22 : decode cX1_pass 22 = .ok (.iload_n 1, 1) := by decide +kernel
theorem dX1_pass_23 : decode cX1_pass 23 = .ok (.iaload, 1) := by decide +kernel
theorem dX1_pass_24 : decode cX1_pass 24 = .ok (.iload_n 2, 1) := by decide +kernel
theorem dX1_pass_25 : decode cX1_pass 25 = .ok (.aload_n 0, 1) := by decide +kernel
theorem dX1_pass_26 : decode cX1_pass 26 = .ok (.getfield 15, 3) := by decide +kernel
theorem dX1_pass_29 : decode cX1_pass 29 = .ok (.iload_n 3, 1) := by decide +kernel
theorem dX1_pass_30 : decode cX1_pass 30 = .ok (.invokevirtual 101, 3) := by decide +kernel
theorem dX1_pass_33 : decode cX1_pass 33 = .ok (.aload_n 0, 1) := by decide +kernel
theorem dX1_pass_34 : decode cX1_pass 34 = .ok (.getfield 55, 3) := by decide +kernel
theorem dX1_pass_37 : decode cX1_pass 37 = .ok (.iload_n 1, 1) := by decide +kernel
theorem dX1_pass_38 : decode cX1_pass 38 = .ok (.iload_n 2, 1) := by decide +kernel
theorem dX1_pass_39 : decode cX1_pass 39 = .ok (.iastore, 1) := by decide +kernel
theorem dX1_pass_40 : decode cX1_pass 40 = .ok (.return_, 1) := by decide +kernel
theorem dX1_draw_0 : decode cX1_draw 0 = .ok (.aload_n 0, 1) := by decide +kernel
theorem dX1_draw_1 : decode cX1_draw 1 = .ok (.aload_n 0, 1) := by decide +kernel
theorem dX1_draw_2 : decode cX1_draw 2 = .ok (.getfield 9, 3) := by decide +kernel
theorem dX1_draw_5 : decode cX1_draw 5 = .ok (.ldc 107, 2) := by decide +kernel
theorem dX1_draw_7 : decode cX1_draw 7 = .ok (.imul, 1) := by decide +kernel
theorem dX1_draw_8 : decode cX1_draw 8 = .ok (.ldc 108, 2) := by decide +kernel
theorem dX1_draw_10 : decode cX1_draw 10 = .ok (.iadd, 1) := by decide +kernel
theorem dX1_draw_11 : decode cX1_draw 11 = .ok (.putfield 9, 3) := by decide +kernel
theorem dX1_draw_14 : decode cX1_draw 14 = .ok (.iload_n 1, 1) := by decide +kernel
theorem dX1_draw_15 : decode cX1_draw 15 = .ok (.ifCond .le 15, 3) := by decide +kernel
theorem dX1_draw_18 : decode cX1_draw 18 = .ok (.aload_n 0, 1) := by decide +kernel
theorem dX1_draw_19 : decode cX1_draw 19 = .ok (.getfield 9, 3) := by decide +kernel
theorem dX1_draw_22 : decode cX1_draw 22 = .ok (.bipush 8, 2) := by decide +kernel
theorem dX1_draw_24 : decode cX1_draw 24 = .ok (.iushr, 1) := by decide +kernel
theorem dX1_draw_25 : decode cX1_draw 25 = .ok (.iload_n 1, 1) := by decide +kernel
theorem dX1_draw_26 : decode cX1_draw 26 = .ok (.irem, 1) := by decide +kernel
theorem dX1_draw_27 : decode cX1_draw 27 = .ok (.goto 4, 3) := by decide +kernel
theorem dX1_draw_30 : decode cX1_draw 30 = .ok (.iconst 0, 1) := by decide +kernel
theorem dX1_draw_31 : decode cX1_draw 31 = .ok (.ireturn, 1) := by decide +kernel
theorem dX1_endDay_0 : decode cX1_endDay 0 = .ok (.aload_n 0, 1) := by decide +kernel
theorem dX1_endDay_1 : decode cX1_endDay 1 = .ok (.dup, 1) := by decide +kernel
theorem dX1_endDay_2 : decode cX1_endDay 2 = .ok (.getfield 15, 3) := by decide +kernel
theorem dX1_endDay_5 : decode cX1_endDay 5 = .ok (.iconst 1, 1) := by decide +kernel
theorem dX1_endDay_6 : decode cX1_endDay 6 = .ok (.iadd, 1) := by decide +kernel
theorem dX1_endDay_7 : decode cX1_endDay 7 = .ok (.putfield 15, 3) := by decide +kernel
theorem dX1_endDay_10 : decode cX1_endDay 10 = .ok (.iconst 0, 1) := by decide +kernel
theorem dX1_endDay_11 : decode cX1_endDay 11 = .ok (.istore 4, 2) := by decide +kernel
theorem dX1_endDay_13 : decode cX1_endDay 13 = .ok (.iload 4, 2) := by decide +kernel
theorem dX1_endDay_15 : decode cX1_endDay 15 = .ok (.bipush 28, 2) := by decide +kernel
theorem dX1_endDay_17 : decode cX1_endDay 17 = .ok (.if_icmp .ge 40, 3) := by decide +kernel
theorem dX1_endDay_20 : decode cX1_endDay 20 = .ok (.aload_n 0, 1) := by decide +kernel
theorem dX1_endDay_21 : decode cX1_endDay 21 = .ok (.getfield 58, 3) := by decide +kernel
theorem dX1_endDay_24 : decode cX1_endDay 24 = .ok (.iload 4, 2) := by decide +kernel
theorem dX1_endDay_26 : decode cX1_endDay 26 = .ok (.iaload, 1) := by decide +kernel
theorem dX1_endDay_27 : decode cX1_endDay 27 = .ok (.iconst (-1), 1) := by decide +kernel
theorem dX1_endDay_28 : decode cX1_endDay 28 = .ok (.if_icmp .eq 23, 3) := by decide +kernel
theorem dX1_endDay_31 : decode cX1_endDay 31 = .ok (.aload_n 0, 1) := by decide +kernel
theorem dX1_endDay_32 : decode cX1_endDay 32 = .ok (.getfield 61, 3) := by decide +kernel
theorem dX1_endDay_35 : decode cX1_endDay 35 = .ok (.iload 4, 2) := by decide +kernel
theorem dX1_endDay_37 : decode cX1_endDay 37 = .ok (.iaload, 1) := by decide +kernel
theorem dX1_endDay_38 : decode cX1_endDay 38 = .ok (.aload_n 0, 1) := by decide +kernel
theorem dX1_endDay_39 : decode cX1_endDay 39 = .ok (.getfield 15, 3) := by decide +kernel
theorem dX1_endDay_42 : decode cX1_endDay 42 = .ok (.if_icmp .ge 9, 3) := by decide +kernel
theorem dX1_endDay_45 : decode cX1_endDay 45 = .ok (.aload_n 0, 1) := by decide +kernel
theorem dX1_endDay_46 : decode cX1_endDay 46 = .ok (.iload 4, 2) := by decide +kernel
theorem dX1_endDay_48 : decode cX1_endDay 48 = .ok (.invokevirtual 109, 3) := by decide +kernel
theorem dX1_endDay_51 : decode cX1_endDay 51 = .ok (.iinc 4 1, 3) := by decide +kernel
theorem dX1_endDay_54 : decode cX1_endDay 54 = .ok (.goto (-41), 3) := by decide +kernel
theorem dX1_endDay_57 : decode cX1_endDay 57 = .ok (.iconst 0, 1) := by decide +kernel
theorem dX1_endDay_58 : decode cX1_endDay 58 = .ok (.istore 4, 2) := by decide +kernel
theorem dX1_endDay_60 : decode cX1_endDay 60 = .ok (.iconst 0, 1) := by decide +kernel
theorem dX1_endDay_61 : decode cX1_endDay 61 = .ok (.istore 5, 2) := by decide +kernel
theorem dX1_endDay_63 : decode cX1_endDay 63 = .ok (.iload 5, 2) := by decide +kernel
theorem dX1_endDay_65 : decode cX1_endDay 65 = .ok (.aload_n 0, 1) := by decide +kernel
theorem dX1_endDay_66 : decode cX1_endDay 66 = .ok (.getfield 21, 3) := by decide +kernel
theorem dX1_endDay_69 : decode cX1_endDay 69 = .ok (.if_icmp .ge 115, 3) := by decide +kernel
theorem dX1_endDay_72 : decode cX1_endDay 72 = .ok (.aload_n 0, 1) := by decide +kernel
theorem dX1_endDay_73 : decode cX1_endDay 73 = .ok (.iload 5, 2) := by decide +kernel
theorem dX1_endDay_75 : decode cX1_endDay 75 = .ok (.invokevirtual 87, 3) := by decide +kernel
theorem dX1_endDay_78 : decode cX1_endDay 78 = .ok (.ifCond .ne 6, 3) := by decide +kernel
theorem dX1_endDay_81 : decode cX1_endDay 81 = .ok (.goto 97, 3) := by decide +kernel
theorem dX1_endDay_84 : decode cX1_endDay 84 = .ok (.aload_n 0, 1) := by decide +kernel
theorem dX1_endDay_85 : decode cX1_endDay 85 = .ok (.getfield 37, 3) := by decide +kernel
theorem dX1_endDay_88 : decode cX1_endDay 88 = .ok (.iload 5, 2) := by decide +kernel
theorem dX1_endDay_90 : decode cX1_endDay 90 = .ok (.iaload, 1) := by decide +kernel
theorem dX1_endDay_91 : decode cX1_endDay 91 = .ok (.aload_n 0, 1) := by decide +kernel
theorem dX1_endDay_92 : decode cX1_endDay 92 = .ok (.getfield 15, 3) := by decide +kernel
theorem dX1_endDay_95 : decode cX1_endDay 95 = .ok (.if_icmp .ne 7, 3) := by decide +kernel
theorem dX1_endDay_98 : decode cX1_endDay 98 = .ok (.iconst 1, 1) := by decide +kernel
theorem dX1_endDay_99 : decode cX1_endDay 99 = .ok (.goto 4, 3) := by decide +kernel
theorem dX1_endDay_102 : decode cX1_endDay 102 = .ok (.iconst 0, 1) := by decide +kernel
theorem dX1_endDay_103 : decode cX1_endDay 103 = .ok (.istore 6, 2) := by decide +kernel
theorem dX1_endDay_105 : decode cX1_endDay 105 = .ok (.iload 6, 2) := by decide +kernel
theorem dX1_endDay_107 : decode cX1_endDay 107 = .ok (.ifCond .ne 41, 3) := by decide +kernel
theorem dX1_endDay_110 : decode cX1_endDay 110 = .ok (.iload_n 3, 1) := by decide +kernel
theorem dX1_endDay_111 : decode cX1_endDay 111 = .ok (.ifCond .eq 37, 3) := by decide +kernel
theorem dX1_endDay_114 : decode cX1_endDay 114 = .ok (.aload_n 0, 1) := by decide +kernel
theorem dX1_endDay_115 : decode cX1_endDay 115 = .ok (.getfield 40, 3) := by decide +kernel
theorem dX1_endDay_118 : decode cX1_endDay 118 = .ok (.iload 5, 2) := by decide +kernel
theorem dX1_endDay_120 : decode cX1_endDay 120 = .ok (.iaload, 1) := by decide +kernel
theorem dX1_endDay_121 : decode cX1_endDay 121 = .ok (.ifCond .le 27, 3) := by decide +kernel
theorem dX1_endDay_124 : decode cX1_endDay 124 = .ok (.aload_n 0, 1) := by decide +kernel
theorem dX1_endDay_125 : decode cX1_endDay 125 = .ok (.sipush 10000, 3) := by decide +kernel
theorem dX1_endDay_128 : decode cX1_endDay 128 = .ok (.invokevirtual 113, 3) := by decide +kernel
theorem dX1_endDay_131 : decode cX1_endDay 131 = .ok (.aload_n 0, 1) := by decide +kernel
theorem dX1_endDay_132 : decode cX1_endDay 132 = .ok (.getfield 40, 3) := by decide +kernel
theorem dX1_endDay_135 : decode cX1_endDay 135 = .ok (.iload 5, 2) := by decide +kernel
theorem dX1_endDay_137 : decode cX1_endDay 137 = .ok (.iaload, 1) := by decide +kernel
theorem dX1_endDay_138 : decode cX1_endDay 138 = .ok (.if_icmp .ge 7, 3) := by decide +kernel
theorem dX1_endDay_141 : decode cX1_endDay 141 = .ok (.iconst 1, 1) := by decide +kernel
theorem dX1_endDay_142 : decode cX1_endDay 142 = .ok (.goto 4, 3) := by decide +kernel
theorem dX1_endDay_145 : decode cX1_endDay 145 = .ok (.iconst 0, 1) := by decide +kernel
theorem dX1_endDay_146 : decode cX1_endDay 146 = .ok (.istore 6, 2) := by decide +kernel
theorem dX1_endDay_148 : decode cX1_endDay 148 = .ok (.iload 6, 2) := by decide +kernel
theorem dX1_endDay_150 : decode cX1_endDay 150 = .ok (.ifCond .ne 6, 3) := by decide +kernel
theorem dX1_endDay_153 : decode cX1_endDay 153 = .ok (.goto 25, 3) := by decide +kernel
theorem dX1_endDay_156 : decode cX1_endDay 156 = .ok (.aload_n 0, 1) := by decide +kernel
theorem dX1_endDay_157 : decode cX1_endDay 157 = .ok (.getfield 37, 3) := by decide +kernel
theorem dX1_endDay_160 : decode cX1_endDay 160 = .ok (.iload 5, 2) := by decide +kernel
theorem dX1_endDay_162 : decode cX1_endDay 162 = .ok (.aload_n 0, 1) := by decide +kernel
theorem dX1_endDay_163 : decode cX1_endDay 163 = .ok (.getfield 15, 3) := by decide +kernel
theorem dX1_endDay_166 : decode cX1_endDay 166 = .ok (.iastore, 1) := by decide +kernel
theorem dX1_endDay_167 : decode cX1_endDay 167 = .ok (.aload_n 0, 1) := by decide +kernel
theorem dX1_endDay_168 : decode cX1_endDay 168 = .ok (.iload 5, 2) := by decide +kernel
theorem dX1_endDay_170 : decode cX1_endDay 170 = .ok (.aload_n 1, 1) := by decide +kernel
theorem dX1_endDay_171 : decode cX1_endDay 171 = .ok (.aload_n 2, 1) := by decide +kernel
theorem dX1_endDay_172 : decode cX1_endDay 172 = .ok (.invokevirtual 117, 3) := by decide +kernel
theorem dX1_endDay_175 : decode cX1_endDay 175 = .ok (.iinc 4 1, 3) := by decide +kernel
theorem dX1_endDay_178 : decode cX1_endDay 178 = .ok (.iinc 5 1, 3) := by decide +kernel
theorem dX1_endDay_181 : decode cX1_endDay 181 = .ok (.goto (-118), 3) := by decide +kernel
theorem dX1_endDay_184 : decode cX1_endDay 184 = .ok (.iload 4, 2) := by decide +kernel
theorem dX1_endDay_186 : decode cX1_endDay 186 = .ok (.ireturn, 1) := by decide +kernel
theorem dX1_die_0 : decode cX1_die 0 = .ok (.aload_n 0, 1) := by decide +kernel
theorem dX1_die_1 : decode cX1_die 1 = .ok (.dup, 1) := by decide +kernel
theorem dX1_die_2 : decode cX1_die 2 = .ok (.getfield 24, 3) := by decide +kernel
theorem dX1_die_5 : decode cX1_die 5 = .ok (.iconst 1, 1) := by decide +kernel
theorem dX1_die_6 : decode cX1_die 6 = .ok (.iload_n 1, 1) := by decide +kernel
theorem dX1_die_7 : decode cX1_die 7 = .ok (.ishl, 1) := by decide +kernel
theorem dX1_die_8 : decode cX1_die 8 = .ok (.iconst (-1), 1) := by decide +kernel
theorem dX1_die_9 : decode cX1_die 9 = .ok (.ixor, 1) := by decide +kernel
theorem dX1_die_10 : decode cX1_die 10 = .ok (.iand, 1) := by decide +kernel
theorem dX1_die_11 : decode cX1_die 11 = .ok (.putfield 24, 3) := by decide +kernel
theorem dX1_die_14 : decode cX1_die 14 = .ok (.iconst 0, 1) := by decide +kernel
theorem dX1_die_15 : decode cX1_die 15 = .ok (.istore 4, 2) := by decide +kernel
theorem dX1_die_17 : decode cX1_die 17 = .ok (.iload 4, 2) := by decide +kernel
theorem dX1_die_19 : decode cX1_die 19 = .ok (.bipush 28, 2) := by decide +kernel
theorem dX1_die_21 : decode cX1_die 21 = .ok (.if_icmp .ge 93, 3) := by decide +kernel
theorem dX1_die_24 : decode cX1_die 24 = .ok (.aload_n 0, 1) := by decide +kernel
theorem dX1_die_25 : decode cX1_die 25 = .ok (.getfield 55, 3) := by decide +kernel
theorem dX1_die_28 : decode cX1_die 28 = .ok (.iload 4, 2) := by decide +kernel
theorem dX1_die_30 : decode cX1_die 30 = .ok (.iaload, 1) := by decide +kernel
theorem dX1_die_31 : decode cX1_die 31 = .ok (.iload_n 1, 1) := by decide +kernel
theorem dX1_die_32 : decode cX1_die 32 = .ok (.if_icmp .ne 59, 3) := by decide +kernel
theorem dX1_die_35 : decode cX1_die 35 = .ok (.aload_n 2, 1) := by decide +kernel
theorem dX1_die_36 : decode cX1_die 36 = .ok (.iload_n 1, 1) := by decide +kernel
theorem dX1_die_37 : decode cX1_die 37 = .ok (.iload 4, 2) := by decide +kernel
theorem dX1_die_39 : decode cX1_die 39 = .ok (.aload_n 0, 1) := by decide +kernel
theorem dX1_die_40 : decode cX1_die 40 = .ok (.getfield 24, 3) := by decide +kernel
theorem dX1_die_43 : decode cX1_die 43 = .ok (.invokevirtual 121, 3) := by decide +kernel
theorem dX1_die_46 : decode cX1_die 46 = .ok (.istore 5, 2) := by decide +kernel
theorem dX1_die_48 : decode cX1_die 48 = .ok (.iload 5, 2) := by decide +kernel
theorem dX1_die_50 : decode cX1_die 50 = .ok (.iconst (-1), 1) := by decide +kernel
theorem dX1_die_51 : decode cX1_die 51 = .ok (.if_icmp .ne 7, 3) := by decide +kernel
theorem dX1_die_54 : decode cX1_die 54 = .ok (.iconst 4, 1) := by decide +kernel
theorem dX1_die_55 : decode cX1_die 55 = .ok (.goto 4, 3) := by decide +kernel
theorem dX1_die_58 : decode cX1_die 58 = .ok (.iconst 3, 1) := by decide +kernel
theorem dX1_die_59 : decode cX1_die 59 = .ok (.istore 6, 2) := by decide +kernel
theorem dX1_die_61 : decode cX1_die 61 = .ok (.iload 5, 2) := by decide +kernel
theorem dX1_die_63 : decode cX1_die 63 = .ok (.iconst (-1), 1) := by decide +kernel
theorem dX1_die_64 : decode cX1_die 64 = .ok (.if_icmp .ne 16, 3) := by decide +kernel
theorem dX1_die_67 : decode cX1_die 67 = .ok (.aload_n 2, 1) := by decide +kernel
theorem dX1_die_68 : decode cX1_die 68 = .ok (.getfield 127, 3) := by decide +kernel
theorem dX1_die_71 : decode cX1_die 71 = .ok (.aload_n 0, 1) := by decide +kernel
theorem dX1_die_72 : decode cX1_die 72 = .ok (.iload_n 1, 1) := by decide +kernel
theorem dX1_die_73 : decode cX1_die 73 = .ok (.iload 4, 2) := by decide +kernel
theorem dX1_die_75 : decode cX1_die 75 = .ok (.invokevirtual 131, 3) := by decide +kernel
theorem dX1_die_78 : decode cX1_die 78 = .ok (.istore 5, 2) := by decide +kernel
theorem dX1_die_80 : decode cX1_die 80 = .ok (.aload_n 0, 1) := by decide +kernel
theorem dX1_die_81 : decode cX1_die 81 = .ok (.iload 4, 2) := by decide +kernel
theorem dX1_die_83 : decode cX1_die 83 = .ok (.iload 5, 2) := by decide +kernel
theorem dX1_die_85 : decode cX1_die 85 = .ok (.iload 6, 2) := by decide +kernel
theorem dX1_die_87 : decode cX1_die 87 = .ok (.aload_n 3, 1) := by decide +kernel
theorem dX1_die_88 : decode cX1_die 88 = .ok (.invokevirtual 137, 3) := by decide +kernel
theorem dX1_die_91 : decode cX1_die 91 = .ok (.aload_n 0, 1) := by decide +kernel
theorem dX1_die_92 : decode cX1_die 92 = .ok (.getfield 58, 3) := by decide +kernel
theorem dX1_die_95 : decode cX1_die 95 = .ok (.iload 4, 2) := by decide +kernel
theorem dX1_die_97 : decode cX1_die 97 = .ok (.iaload, 1) := by decide +kernel
theorem dX1_die_98 : decode cX1_die 98 = .ok (.iload_n 1, 1) := by decide +kernel
theorem dX1_die_99 : decode cX1_die 99 = .ok (.if_icmp .ne 9, 3) := by decide +kernel
theorem dX1_die_102 : decode cX1_die 102 = .ok (.aload_n 0, 1) := by decide +kernel
theorem dX1_die_103 : decode cX1_die 103 = .ok (.iload 4, 2) := by decide +kernel
theorem dX1_die_105 : decode cX1_die 105 = .ok (.invokevirtual 109, 3) := by decide +kernel
theorem dX1_die_108 : decode cX1_die 108 = .ok (.iinc 4 1, 3) := by decide +kernel
theorem dX1_die_111 : decode cX1_die 111 = .ok (.goto (-94), 3) := by decide +kernel
theorem dX1_die_114 : decode cX1_die 114 = .ok (.aload_n 0, 1) := by decide +kernel
theorem dX1_die_115 : decode cX1_die 115 = .ok (.getfield 49, 3) := by decide +kernel
theorem dX1_die_118 : decode cX1_die 118 = .ok (.iload_n 1, 1) := by decide +kernel
theorem dX1_die_119 : decode cX1_die 119 = .ok (.iaload, 1) := by decide +kernel
theorem dX1_die_120 : decode cX1_die 120 = .ok (.iconst (-1), 1) := by decide +kernel
theorem dX1_die_121 : decode cX1_die 121 = .ok (.if_icmp .eq 15, 3) := by decide +kernel
theorem dX1_die_124 : decode cX1_die 124 = .ok (.aload_n 0, 1) := by decide +kernel
theorem dX1_die_125 : decode cX1_die 125 = .ok (.getfield 49, 3) := by decide +kernel
theorem dX1_die_128 : decode cX1_die 128 = .ok (.aload_n 0, 1) := by decide +kernel
theorem dX1_die_129 : decode cX1_die 129 = .ok (.getfield 49, 3) := by decide +kernel
theorem dX1_die_132 : decode cX1_die 132 = .ok (.iload_n 1, 1) := by decide +kernel
theorem dX1_die_133 : decode cX1_die 133 = .ok (.iaload, 1) := by decide +kernel
theorem dX1_die_134 : decode cX1_die 134 = .ok (.iconst (-1), 1) := by decide +kernel
theorem dX1_die_135 : decode cX1_die 135 = .ok (.iastore, 1) := by decide +kernel
theorem dX1_die_136 : decode cX1_die 136 = .ok (.return_, 1) := by decide +kernel
theorem dX2_init_0 : decode cX2_init 0 = .ok (.aload_n 0, 1) := by decide +kernel
theorem dX2_init_1 : decode cX2_init 1 = .ok (.invokespecial 1, 3) := by decide +kernel
theorem dX2_init_4 : decode cX2_init 4 = .ok (.aload_n 0, 1) := by decide +kernel
theorem dX2_init_5 : decode cX2_init 5 = .ok (.bipush 8, 2) := by decide +kernel
theorem dX2_init_7 : decode cX2_init 7 = .ok (.anewarray 9, 3) := by decide +kernel
theorem dX2_init_10 : decode cX2_init 10 = .ok (.putfield 11, 3) := by decide +kernel
theorem dX2_init_13 : decode cX2_init 13 = .ok (.aload_n 0, 1) := by decide +kernel
theorem dX2_init_14 : decode cX2_init 14 = .ok (.bipush 8, 2) := by decide +kernel
theorem dX2_init_16 : decode cX2_init 16 = .ok (.newarray .int, 2) := by decide +kernel
theorem dX2_init_18 : decode cX2_init 18 = .ok (.putfield 15, 3) := by decide +kernel
theorem dX2_init_21 : decode cX2_init 21 = .ok (.aload_n 0, 1) := by decide +kernel
theorem dX2_init_22 : decode cX2_init 22 = .ok (.iconst 0, 1) := by decide +kernel
theorem dX2_init_23 : decode cX2_init 23 = .ok (.putfield 19, 3) := by decide +kernel
theorem dX2_init_26 : decode cX2_init 26 = .ok (.aload_n 0, 1) := by decide +kernel
theorem dX2_init_27 : decode cX2_init 27 = .ok (.iconst 0, 1) := by decide +kernel
theorem dX2_init_28 : decode cX2_init 28 = .ok (.putfield 23, 3) := by decide +kernel
theorem dX2_init_31 : decode cX2_init 31 = .ok (.iconst 0, 1) := by decide +kernel
theorem dX2_init_32 : decode cX2_init 32 = .ok (.istore_n 1, 1) := by decide +kernel
theorem dX2_init_33 : decode cX2_init 33 = .ok (.iload_n 1, 1) := by decide +kernel
theorem dX2_init_34 : decode cX2_init 34 = .ok (.bipush 8, 2) := by decide +kernel
theorem dX2_init_36 : decode cX2_init 36 = .ok (.if_icmp .ge 22, 3) := by decide +kernel
theorem dX2_init_39 : decode cX2_init 39 = .ok (.aload_n 0, 1) := by decide +kernel
theorem dX2_init_40 : decode cX2_init 40 = .ok (.getfield 11, 3) := by decide +kernel
theorem dX2_init_43 : decode cX2_init 43 = .ok (.iload_n 1, 1) := by decide +kernel
theorem dX2_init_44 : decode cX2_init 44 = .ok (.new 9, 3) := by decide +kernel
theorem dX2_init_47 : decode cX2_init 47 = .ok (.dup, 1) := by decide +kernel
theorem dX2_init_48 : decode cX2_init 48 = .ok (.invokespecial 26, 3) := by decide +kernel
theorem dX2_init_51 : decode cX2_init 51 = .ok (.aastore, 1) := by decide +kernel
theorem dX2_init_52 : decode cX2_init 52 = .ok (.iinc 1 1, 3) := by decide +kernel
theorem dX2_init_55 : decode cX2_init 55 = .ok (.goto (-22), 3) := by decide +kernel
theorem dX2_init_58 : decode cX2_init 58 = .ok (.return_, 1) := by decide +kernel
theorem dX2_forget_0 : decode cX2_forget 0 = .ok (.aload_n 0, 1) := by decide +kernel
theorem dX2_forget_1 : decode cX2_forget 1 = .ok (.iconst 0, 1) := by decide +kernel
theorem dX2_forget_2 : decode cX2_forget 2 = .ok (.putfield 23, 3) := by decide +kernel
theorem dX2_forget_5 : decode cX2_forget 5 = .ok (.return_, 1) := by decide +kernel
theorem dX2_keep_0 : decode cX2_keep 0 = .ok (.aload_n 0, 1) := by decide +kernel
theorem dX2_keep_1 : decode cX2_keep 1 = .ok (.getfield 11, 3) := by decide +kernel
theorem dX2_keep_4 : decode cX2_keep 4 = .ok (.aload_n 0, 1) := by decide +kernel
theorem dX2_keep_5 : decode cX2_keep 5 = .ok (.getfield 19, 3) := by decide +kernel
theorem dX2_keep_8 : decode cX2_keep 8 = .ok (.aaload, 1) := by decide +kernel
theorem dX2_keep_9 : decode cX2_keep 9 = .ok (.aload_n 1, 1) := by decide +kernel
theorem dX2_keep_10 : decode cX2_keep 10 = .ok (.invokevirtual 27, 3) := by decide +kernel
theorem dX2_keep_13 : decode cX2_keep 13 = .ok (.aload_n 0, 1) := by decide +kernel
theorem dX2_keep_14 : decode cX2_keep 14 = .ok (.getfield 15, 3) := by decide +kernel
theorem dX2_keep_17 : decode cX2_keep 17 = .ok (.aload_n 0, 1) := by decide +kernel
theorem dX2_keep_18 : decode cX2_keep 18 = .ok (.getfield 19, 3) := by decide +kernel
theorem dX2_keep_21 : decode cX2_keep 21 = .ok (.aload_n 2, 1) := by decide +kernel
theorem dX2_keep_22 : decode cX2_keep 22 = .ok (.getfield 31, 3) := by decide +kernel
theorem dX2_keep_25 : decode cX2_keep 25 = .ok (.iastore, 1) := by decide +kernel
theorem dX2_keep_26 : decode cX2_keep 26 = .ok (.aload_n 0, 1) := by decide +kernel
theorem dX2_keep_27 : decode cX2_keep 27 = .ok (.aload_n 0, 1) := by decide +kernel
theorem dX2_keep_28 : decode cX2_keep 28 = .ok (.getfield 19, 3) := by decide +kernel
theorem dX2_keep_31 : decode cX2_keep 31 = .ok (.iconst 1, 1) := by decide +kernel
theorem dX2_keep_32 : decode cX2_keep 32 = .ok (.iadd, 1) := by decide +kernel
theorem dX2_keep_33 : decode cX2_keep 33 = .ok (.bipush 8, 2) := by decide +kernel
theorem dX2_keep_35 : decode cX2_keep 35 = .ok (.irem, 1) := by decide +kernel
theorem dX2_keep_36 : decode cX2_keep 36 = .ok (.putfield 19, 3) := by decide +kernel
theorem dX2_keep_39 : decode cX2_keep 39 = .ok (.aload_n 0, 1) := by decide +kernel
theorem dX2_keep_40 : decode cX2_keep 40 = .ok (.getfield 23, 3) := by decide +kernel
theorem dX2_keep_43 : decode cX2_keep 43 = .ok (.bipush 8, 2) := by decide +kernel
theorem dX2_keep_45 : decode cX2_keep 45 = .ok (.if_icmp .ge 13, 3) := by decide +kernel
theorem dX2_keep_48 : decode cX2_keep 48 = .ok (.aload_n 0, 1) := by decide +kernel
theorem dX2_keep_49 : decode cX2_keep 49 = .ok (.dup, 1) := by decide +kernel
theorem dX2_keep_50 : decode cX2_keep 50 = .ok (.getfield 23, 3) := by decide +kernel
theorem dX2_keep_53 : decode cX2_keep 53 = .ok (.iconst 1, 1) := by decide +kernel
theorem dX2_keep_54 : decode cX2_keep 54 = .ok (.iadd, 1) := by decide +kernel
theorem dX2_keep_55 : decode cX2_keep 55 = .ok (.putfield 23, 3) := by decide +kernel
theorem dX2_keep_58 : decode cX2_keep 58 = .ok (.return_, 1) := by decide +kernel
theorem dX2_goBack_0 : decode cX2_goBack 0 = .ok (.aload_n 0, 1) := by decide +kernel
theorem dX2_goBack_1 : decode cX2_goBack 1 = .ok (.getfield 23, 3) := by decide +kernel
theorem dX2_goBack_4 : decode cX2_goBack 4 = .ok (.ifCond .ne 5, 3) := by decide +kernel
theorem dX2_goBack_7 : decode cX2_goBack 7 = .ok (.iconst 0, 1) := by decide +kernel
theorem dX2_goBack_8 : decode cX2_goBack 8 = .ok (.ireturn, 1) := by decide +kernel
theorem dX2_goBack_9 : decode cX2_goBack 9 = .ok (.aload_n 0, 1) := by decide +kernel
theorem dX2_goBack_10 : decode cX2_goBack 10 = .ok (.dup, 1) := by decide +kernel
theorem dX2_goBack_11 : decode cX2_goBack 11 = .ok (.getfield 23, 3) := by decide +kernel
theorem dX2_goBack_14 : decode cX2_goBack 14 = .ok (.iconst 1, 1) := by decide +kernel
theorem dX2_goBack_15 : decode cX2_goBack 15 = .ok (.isub, 1) := by decide +kernel
theorem dX2_goBack_16 : decode cX2_goBack 16 = .ok (.putfield 23, 3) := by decide +kernel
theorem dX2_goBack_19 : decode cX2_goBack 19 = .ok (.aload_n 0, 1) := by decide +kernel
theorem dX2_goBack_20 : decode cX2_goBack 20 = .ok (.aload_n 0, 1) := by decide +kernel
theorem dX2_goBack_21 : decode cX2_goBack 21 = .ok (.getfield 19, 3) := by decide +kernel
theorem dX2_goBack_24 : decode cX2_goBack 24 = .ok (.bipush 8, 2) := by decide +kernel
theorem dX2_goBack_26 : decode cX2_goBack 26 = .ok (.iadd, 1) := by decide +kernel
theorem dX2_goBack_27 : decode cX2_goBack 27 = .ok (.iconst 1, 1) := by decide +kernel
theorem dX2_goBack_28 : decode cX2_goBack 28 = .ok (.isub, 1) := by decide +kernel
theorem dX2_goBack_29 : decode cX2_goBack 29 = .ok (.bipush 8, 2) := by decide +kernel
theorem dX2_goBack_31 : decode cX2_goBack 31 = .ok (.irem, 1) := by decide +kernel
theorem dX2_goBack_32 : decode cX2_goBack 32 = .ok (.putfield 19, 3) := by decide +kernel
theorem dX2_goBack_35 : decode cX2_goBack 35 = .ok (.aload_n 1, 1) := by decide +kernel
theorem dX2_goBack_36 : decode cX2_goBack 36 = .ok (.aload_n 0, 1) := by decide +kernel
theorem dX2_goBack_37 : decode cX2_goBack 37 = .ok (.getfield 11, 3) := by decide +kernel
theorem dX2_goBack_40 : decode cX2_goBack 40 = .ok (.aload_n 0, 1) := by decide +kernel
theorem dX2_goBack_41 : decode cX2_goBack 41 = .ok (.getfield 19, 3) := by decide +kernel
theorem dX2_goBack_44 : decode cX2_goBack 44 = .ok (.aaload, 1) := by decide +kernel
theorem dX2_goBack_45 : decode cX2_goBack 45 = .ok (.invokevirtual 27, 3) := by decide +kernel
theorem dX2_goBack_48 : decode cX2_goBack 48 = .ok (.aload_n 2, 1) := by decide +kernel
theorem dX2_goBack_49 : decode cX2_goBack 49 = .ok (.aload_n 0, 1) := by decide +kernel
theorem dX2_goBack_50 : decode cX2_goBack 50 = .ok (.getfield 15, 3) := by decide +kernel
theorem dX2_goBack_53 : decode cX2_goBack 53 = .ok (.aload_n 0, 1) := by decide +kernel
theorem dX2_goBack_54 : decode cX2_goBack 54 = .ok (.getfield 19, 3) := by decide +kernel
theorem dX2_goBack_57 : decode cX2_goBack 57 = .ok (.iaload, 1) := by decide +kernel
theorem dX2_goBack_58 : decode cX2_goBack 58 = .ok (.putfield 31, 3) := by decide +kernel
theorem dX2_goBack_61 : decode cX2_goBack 61 = .ok (.iconst 1, 1) := by decide +kernel
theorem dX2_goBack_62 : decode cX2_goBack 62 = .ok (.ireturn, 1) := by decide +kernel
theorem dX3_init_0 : decode cX3_init 0 = .ok (.aload_n 0, 1) := by decide +kernel
theorem dX3_init_1 : decode cX3_init 1 = .ok (.invokespecial 3, 3) := by decide +kernel
theorem dX3_init_4 : decode cX3_init 4 = .ok (.aload_n 0, 1) := by decide +kernel
theorem dX3_init_5 : decode cX3_init 5 = .ok (.sipush 400, 3) := by decide +kernel
theorem dX3_init_8 : decode cX3_init 8 = .ok (.newarray .int, 2) := by decide +kernel
theorem dX3_init_10 : decode cX3_init 10 = .ok (.putfield 9, 3) := by decide +kernel
theorem dX3_init_13 : decode cX3_init 13 = .ok (.aload_n 0, 1) := by decide +kernel
theorem dX3_init_14 : decode cX3_init 14 = .ok (.iconst 0, 1) := by decide +kernel
theorem dX3_init_15 : decode cX3_init 15 = .ok (.putfield 15, 3) := by decide +kernel
theorem dX3_init_18 : decode cX3_init 18 = .ok (.aload_n 0, 1) := by decide +kernel
theorem dX3_init_19 : decode cX3_init 19 = .ok (.iconst 0, 1) := by decide +kernel
theorem dX3_init_20 : decode cX3_init 20 = .ok (.putfield 19, 3) := by decide +kernel
theorem dX3_init_23 : decode cX3_init 23 = .ok (.aload_n 0, 1) := by decide +kernel
theorem dX3_init_24 : decode cX3_init 24 = .ok (.bipush 16, 2) := by decide +kernel
theorem dX3_init_26 : decode cX3_init 26 = .ok (.newarray .int, 2) := by decide +kernel
theorem dX3_init_28 : decode cX3_init 28 = .ok (.putfield 22, 3) := by decide +kernel
theorem dX3_init_31 : decode cX3_init 31 = .ok (.aload_n 0, 1) := by decide +kernel
theorem dX3_init_32 : decode cX3_init 32 = .ok (.bipush 16, 2) := by decide +kernel
theorem dX3_init_34 : decode cX3_init 34 = .ok (.newarray .int, 2) := by decide +kernel
theorem dX3_init_36 : decode cX3_init 36 = .ok (.putfield 25, 3) := by decide +kernel
theorem dX3_init_39 : decode cX3_init 39 = .ok (.aload_n 0, 1) := by decide +kernel
theorem dX3_init_40 : decode cX3_init 40 = .ok (.bipush 16, 2) := by decide +kernel
theorem dX3_init_42 : decode cX3_init 42 = .ok (.newarray .int, 2) := by decide +kernel
theorem dX3_init_44 : decode cX3_init 44 = .ok (.putfield 28, 3) := by decide +kernel
theorem dX3_init_47 : decode cX3_init 47 = .ok (.aload_n 0, 1) := by decide +kernel
theorem dX3_init_48 : decode cX3_init 48 = .ok (.bipush 10, 2) := by decide +kernel
theorem dX3_init_50 : decode cX3_init 50 = .ok (.newarray .int, 2) := by decide +kernel
theorem dX3_init_52 : decode cX3_init 52 = .ok (.putfield 31, 3) := by decide +kernel
theorem dX3_init_55 : decode cX3_init 55 = .ok (.aload_n 0, 1) := by decide +kernel
theorem dX3_init_56 : decode cX3_init 56 = .ok (.bipush 64, 2) := by decide +kernel
theorem dX3_init_58 : decode cX3_init 58 = .ok (.newarray .int, 2) := by decide +kernel
theorem dX3_init_60 : decode cX3_init 60 = .ok (.putfield 34, 3) := by decide +kernel
theorem dX3_init_63 : decode cX3_init 63 = .ok (.return_, 1) := by decide +kernel
theorem dX3_become_0 : decode cX3_become 0 = .ok (.aload_n 0, 1) := by decide +kernel
theorem dX3_become_1 : decode cX3_become 1 = .ok (.aload_n 1, 1) := by decide +kernel
theorem dX3_become_2 : decode cX3_become 2 = .ok (.getfield 15, 3) := by decide +kernel
theorem dX3_become_5 : decode cX3_become 5 = .ok (.putfield 15, 3) := by decide +kernel
theorem dX3_become_8 : decode cX3_become 8 = .ok (.aload_n 0, 1) := by decide +kernel
theorem dX3_become_9 : decode cX3_become 9 = .ok (.aload_n 1, 1) := by decide +kernel
theorem dX3_become_10 : decode cX3_become 10 = .ok (.getfield 19, 3) := by decide +kernel
theorem dX3_become_13 : decode cX3_become 13 = .ok (.putfield 19, 3) := by decide +kernel
theorem dX3_become_16 : decode cX3_become 16 = .ok (.aload_n 1, 1) := by decide +kernel
theorem dX3_become_17 : decode cX3_become 17 = .ok (.getfield 9, 3) := by decide +kernel
theorem dX3_become_20 : decode cX3_become 20 = .ok (.iconst 0, 1) := by decide +kernel
theorem dX3_become_21 : decode cX3_become 21 = .ok (.aload_n 0, 1) := by decide +kernel
theorem dX3_become_22 : decode cX3_become 22 = .ok (.getfield 9, 3) := by decide +kernel
theorem dX3_become_25 : decode cX3_become 25 = .ok (.iconst 0, 1) := by decide +kernel
theorem dX3_become_26 : decode cX3_become 26 = .ok (.aload_n 0, 1) := by decide +kernel
theorem dX3_become_27 : decode cX3_become 27 = .ok (.getfield 9, 3) := by decide +kernel
theorem dX3_become_30 : decode cX3_become 30 = .ok (.arraylength, 1) := by decide +kernel
theorem dX3_become_31 : decode cX3_become 31 = .ok (.invokestatic 37, 3) := by decide +kernel
theorem dX3_become_34 : decode cX3_become 34 = .ok (.aload_n 1, 1) := by decide +kernel
theorem dX3_become_35 : decode cX3_become 35 = .ok (.getfield 22, 3) := by decide +kernel
theorem dX3_become_38 : decode cX3_become 38 = .ok (.iconst 0, 1) := by decide +kernel
theorem dX3_become_39 : decode cX3_become 39 = .ok (.aload_n 0, 1) := by decide +kernel
theorem dX3_become_40 : decode cX3_become 40 = .ok (.getfield 22, 3) := by decide +kernel
theorem dX3_become_43 : decode cX3_become 43 = .ok (.iconst 0, 1) := by decide +kernel
theorem dX3_become_44 : decode cX3_become 44 = .ok (.bipush 16, 2) := by decide +kernel
theorem dX3_become_46 : decode cX3_become 46 = .ok (.invokestatic 37, 3) := by decide +kernel
theorem dX3_become_49 : decode cX3_become 49 = .ok (.aload_n 1, 1) := by decide +kernel
theorem dX3_become_50 : decode cX3_become 50 = .ok (.getfield 25, 3) := by decide +kernel
theorem dX3_become_53 : decode cX3_become 53 = .ok (.iconst 0, 1) := by decide +kernel
theorem dX3_become_54 : decode cX3_become 54 = .ok (.aload_n 0, 1) := by decide +kernel
theorem dX3_become_55 : decode cX3_become 55 = .ok (.getfield 25, 3) := by decide +kernel
theorem dX3_become_58 : decode cX3_become 58 = .ok (.iconst 0, 1) := by decide +kernel
theorem dX3_become_59 : decode cX3_become 59 = .ok (.bipush 16, 2) := by decide +kernel
theorem dX3_become_61 : decode cX3_become 61 = .ok (.invokestatic 37, 3) := by decide +kernel
theorem dX3_become_64 : decode cX3_become 64 = .ok (.aload_n 1, 1) := by decide +kernel
theorem dX3_become_65 : decode cX3_become 65 = .ok (.getfield 28, 3) := by decide +kernel
theorem dX3_become_68 : decode cX3_become 68 = .ok (.iconst 0, 1) := by decide +kernel
theorem dX3_become_69 : decode cX3_become 69 = .ok (.aload_n 0, 1) := by decide +kernel
theorem dX3_become_70 : decode cX3_become 70 = .ok (.getfield 28, 3) := by decide +kernel
theorem dX3_become_73 : decode cX3_become 73 = .ok (.iconst 0, 1) := by decide +kernel
theorem dX3_become_74 : decode cX3_become 74 = .ok (.bipush 16, 2) := by decide +kernel
theorem dX3_become_76 : decode cX3_become 76 = .ok (.invokestatic 37, 3) := by decide +kernel
theorem dX3_become_79 : decode cX3_become 79 = .ok (.return_, 1) := by decide +kernel
theorem dX3_add_0 : decode cX3_add 0 = .ok (.aload_n 0, 1) := by decide +kernel
theorem dX3_add_1 : decode cX3_add 1 = .ok (.getfield 15, 3) := by decide +kernel
theorem dX3_add_4 : decode cX3_add 4 = .ok (.aload_n 0, 1) := by decide +kernel
theorem dX3_add_5 : decode cX3_add 5 = .ok (.getfield 9, 3) := by decide +kernel
theorem dX3_add_8 : decode cX3_add 8 = .ok (.arraylength, 1) := by decide +kernel
theorem dX3_add_9 : decode cX3_add 9 = .ok (.if_icmp .lt 4, 3) := by decide +kernel
theorem dX3_add_12 : decode cX3_add 12 = .ok (.return_, 1) := by decide +kernel
theorem dX3_add_13 : decode cX3_add 13 = .ok (.aload_n 0, 1) := by decide +kernel
theorem dX3_add_14 : decode cX3_add 14 = .ok (.getfield 9, 3) := by decide +kernel
theorem dX3_add_17 : decode cX3_add 17 = .ok (.aload_n 0, 1) := by decide +kernel
theorem dX3_add_18 : decode cX3_add 18 = .ok (.getfield 15, 3) := by decide +kernel
theorem dX3_add_21 : decode cX3_add 21 = .ok (.iload_n 1, 1) := by decide +kernel
theorem dX3_add_22 : decode cX3_add 22 = .ok (.iastore, 1) := by decide +kernel
theorem dX3_add_23 : decode cX3_add 23 = .ok (.aload_n 0, 1) := by decide +kernel
theorem dX3_add_24 : decode cX3_add 24 = .ok (.dup, 1) := by decide +kernel
theorem dX3_add_25 : decode cX3_add 25 = .ok (.getfield 15, 3) := by decide +kernel
theorem dX3_add_28 : decode cX3_add 28 = .ok (.iconst 1, 1) := by decide +kernel
theorem dX3_add_29 : decode cX3_add 29 = .ok (.iadd, 1) := by decide +kernel
theorem dX3_add_30 : decode cX3_add 30 = .ok (.putfield 15, 3) := by decide +kernel
theorem dX3_add_33 : decode cX3_add 33 = .ok (.return_, 1) := by decide +kernel
theorem dX3_heirOf_0 : decode cX3_heirOf 0 = .ok (.iconst (-1), 1) := by decide +kernel
theorem dX3_heirOf_1 : decode cX3_heirOf 1 = .ok (.istore 4, 2) := by decide +kernel
theorem dX3_heirOf_3 : decode cX3_heirOf 3 = .ok (.iconst 0, 1) := by decide +kernel
theorem dX3_heirOf_4 : decode cX3_heirOf 4 = .ok (.istore 5, 2) := by decide +kernel
theorem dX3_heirOf_6 : decode cX3_heirOf 6 = .ok (.iconst 0, 1) := by decide +kernel
theorem dX3_heirOf_7 : decode cX3_heirOf 7 = .ok (.istore 6, 2) := by decide +kernel
theorem dX3_heirOf_9 : decode cX3_heirOf 9 = .ok (.iload 6, 2) := by decide +kernel
theorem dX3_heirOf_11 : decode cX3_heirOf 11 = .ok (.aload_n 1, 1) := by decide +kernel
theorem dX3_heirOf_12 : decode cX3_heirOf 12 = .ok (.getfield 43, 3) := by decide +kernel
theorem dX3_heirOf_15 : decode cX3_heirOf 15 = .ok (.if_icmp .ge 47, 3) := by decide +kernel
theorem dX3_heirOf_18 : decode cX3_heirOf 18 = .ok (.aload_n 1, 1) := by decide +kernel
theorem dX3_heirOf_19 : decode cX3_heirOf 19 = .ok (.iload 6, 2) := by decide +kernel
theorem dX3_heirOf_21 : decode cX3_heirOf 21 = .ok (.invokevirtual 48, 3) := by decide +kernel
theorem dX3_heirOf_24 : decode cX3_heirOf 24 = .ok (.ifCond .ne 6, 3) := by decide +kernel
theorem dX3_heirOf_27 : decode cX3_heirOf 27 = .ok (.goto 29, 3) := by decide +kernel
theorem dX3_heirOf_30 : decode cX3_heirOf 30 = .ok (.aload_n 0, 1) := by decide +kernel
theorem dX3_heirOf_31 : decode cX3_heirOf 31 = .ok (.aload_n 1, 1) := by decide +kernel
theorem dX3_heirOf_32 : decode cX3_heirOf 32 = .ok (.iload_n 2, 1) := by decide +kernel
theorem dX3_heirOf_33 : decode cX3_heirOf 33 = .ok (.iload 6, 2) := by decide +kernel
theorem dX3_heirOf_35 : decode cX3_heirOf 35 = .ok (.iload_n 3, 1) := by decide +kernel
theorem dX3_heirOf_36 : decode cX3_heirOf 36 = .ok (.invokevirtual 52, 3) := by decide +kernel
theorem dX3_heirOf_39 : decode cX3_heirOf 39 = .ok (.istore 7, 2) := by decide +kernel
theorem dX3_heirOf_41 : decode cX3_heirOf 41 = .ok (.iload 7, 2) := by decide +kernel
theorem dX3_heirOf_43 : decode cX3_heirOf 43 = .ok (.iload 5, 2) := by decide +kernel
theorem dX3_heirOf_45 : decode cX3_heirOf 45 = .ok (.if_icmp .le 11, 3) := by decide +kernel
theorem dX3_heirOf_48 : decode cX3_heirOf 48 = .ok (.iload 7, 2) := by decide +kernel
theorem dX3_heirOf_50 : decode cX3_heirOf 50 = .ok (.istore 5, 2) := by decide +kernel
theorem dX3_heirOf_52 : decode cX3_heirOf 52 = .ok (.iload 6, 2) := by decide +kernel
theorem dX3_heirOf_54 : decode cX3_heirOf 54 = .ok (.istore 4, 2) := by decide +kernel
theorem dX3_heirOf_56 : decode cX3_heirOf 56 = .ok (.iinc 6 1, 3) := by decide +kernel
theorem dX3_heirOf_59 : decode cX3_heirOf 59 = .ok (.goto (-50), 3) := by decide +kernel
theorem dX3_heirOf_62 : decode cX3_heirOf 62 = .ok (.iload 4, 2) := by decide +kernel
theorem dX3_heirOf_64 : decode cX3_heirOf 64 = .ok (.ireturn, 1) := by decide +kernel
theorem dX3_worthOf_0 : decode cX3_worthOf 0 = .ok (.aload_n 0, 1) := by decide +kernel
theorem dX3_worthOf_1 : decode cX3_worthOf 1 = .ok (.getfield 31, 3) := by decide +kernel
theorem dX3_worthOf_4 : decode cX3_worthOf 4 = .ok (.iconst 0, 1) := by decide +kernel
theorem dX3_worthOf_5 : decode cX3_worthOf 5 = .ok (.iload 4, 2) := by decide +kernel
theorem dX3_worthOf_7 : decode cX3_worthOf 7 = .ok (.iastore, 1) := by decide +kernel
theorem dX3_worthOf_8 : decode cX3_worthOf 8 = .ok (.aload_n 0, 1) := by decide +kernel
theorem dX3_worthOf_9 : decode cX3_worthOf 9 = .ok (.getfield 31, 3) := by decide +kernel
theorem dX3_worthOf_12 : decode cX3_worthOf 12 = .ok (.iconst 1, 1) := by decide +kernel
theorem dX3_worthOf_13 : decode cX3_worthOf 13 = .ok (.iload 4, 2) := by decide +kernel
theorem dX3_worthOf_15 : decode cX3_worthOf 15 = .ok (.ifCond .eq 30, 3) := by decide +kernel
theorem dX3_worthOf_18 : decode cX3_worthOf 18 = .ok (.iload 4, 2) := by decide +kernel
theorem dX3_worthOf_20 : decode cX3_worthOf 20 = .ok (.iconst 4, 1) := by decide +kernel
theorem dX3_worthOf_21 : decode cX3_worthOf 21 = .ok (.if_icmp .eq 24, 3) := by decide +kernel
theorem dX3_worthOf_24 : decode cX3_worthOf 24 = .ok (.iload 4, 2) := by decide +kernel
theorem dX3_worthOf_26 : decode cX3_worthOf 26 = .ok (.bipush 8, 2) := by decide +kernel
theorem dX3_worthOf_28 : decode cX3_worthOf 28 = .ok (.if_icmp .eq 17, 3) := by decide +kernel
theorem dX3_worthOf_31 : decode cX3_worthOf 31 = .ok (.iload 4, 2) := by decide +kernel
theorem dX3_worthOf_33 : decode cX3_worthOf 33 = .ok (.bipush 14, 2) := by decide +kernel
theorem dX3_worthOf_35 : decode cX3_worthOf 35 = .ok (.if_icmp .eq 10, 3) := by decide +kernel
theorem dX3_worthOf_38 : decode cX3_worthOf 38 = .ok (.iload 4, 2) := by decide +kernel
theorem dX3_worthOf_40 : decode cX3_worthOf 40 = .ok (.bipush 20, 2) := by decide +kernel
theorem dX3_worthOf_42 : decode cX3_worthOf 42 = .ok (.if_icmp .ne 7, 3) := by decide +kernel
theorem dX3_worthOf_45 : decode cX3_worthOf 45 = .ok (.iconst 1, 1) := by decide +kernel
theorem dX3_worthOf_46 : decode cX3_worthOf 46 = .ok (.goto 4, 3) := by decide +kernel
theorem dX3_worthOf_49 : decode cX3_worthOf 49 = .ok (.iconst 0, 1) := by decide +kernel
theorem dX3_worthOf_50 : decode cX3_worthOf 50 = .ok (.iastore, 1) := by decide +kernel
theorem dX3_worthOf_51 : decode cX3_worthOf 51 = .ok (.aload_n 0, 1) := by decide +kernel
theorem dX3_worthOf_52 : decode cX3_worthOf 52 = .ok (.getfield 31, 3) := by decide +kernel
theorem dX3_worthOf_55 : decode cX3_worthOf 55 = .ok (.iconst 2, 1) := by decide +kernel
theorem dX3_worthOf_56 : decode cX3_worthOf 56 = .ok (.aload_n 1, 1) := by decide +kernel
theorem dX3_worthOf_57 : decode cX3_worthOf 57 = .ok (.getfield 56, 3) := by decide +kernel
theorem dX3_worthOf_60 : decode cX3_worthOf 60 = .ok (.aload_n 1, 1) := by decide +kernel
theorem dX3_worthOf_61 : decode cX3_worthOf 61 = .ok (.getfield 59, 3) := by decide +kernel
theorem dX3_worthOf_64 : decode cX3_worthOf 64 = .ok (.iload_n 3, 1) := by decide +kernel
theorem dX3_worthOf_65 : decode cX3_worthOf 65 = .ok (.iaload, 1) := by decide +kernel
theorem dX3_worthOf_66 : decode cX3_worthOf 66 = .ok (.isub, 1) := by decide +kernel
theorem dX3_worthOf_67 : decode cX3_worthOf 67 = .ok (.iastore, 1) := by decide +kernel
theorem dX3_worthOf_68 : decode cX3_worthOf 68 = .ok (.aload_n 0, 1) := by decide +kernel
theorem dX3_worthOf_69 : decode cX3_worthOf 69 = .ok (.getfield 31, 3) := by decide +kernel
theorem dX3_worthOf_72 : decode cX3_worthOf 72 = .ok (.iconst 3, 1) := by decide +kernel
theorem dX3_worthOf_73 : decode cX3_worthOf 73 = .ok (.aload_n 1, 1) := by decide +kernel
theorem dX3_worthOf_74 : decode cX3_worthOf 74 = .ok (.iload_n 2, 1) := by decide +kernel
theorem dX3_worthOf_75 : decode cX3_worthOf 75 = .ok (.iload_n 3, 1) := by decide +kernel
theorem dX3_worthOf_76 : decode cX3_worthOf 76 = .ok (.invokevirtual 62, 3) := by decide +kernel
theorem dX3_worthOf_79 : decode cX3_worthOf 79 = .ok (.iastore, 1) := by decide +kernel
theorem dX3_worthOf_80 : decode cX3_worthOf 80 = .ok (.aload_n 0, 1) := by decide +kernel
theorem dX3_worthOf_81 : decode cX3_worthOf 81 = .ok (.getfield 31, 3) := by decide +kernel
theorem dX3_worthOf_84 : decode cX3_worthOf 84 = .ok (.iconst 4, 1) := by decide +kernel
theorem dX3_worthOf_85 : decode cX3_worthOf 85 = .ok (.aload_n 1, 1) := by decide +kernel
theorem dX3_worthOf_86 : decode cX3_worthOf 86 = .ok (.iload_n 2, 1) := by decide +kernel
theorem dX3_worthOf_87 : decode cX3_worthOf 87 = .ok (.iload_n 3, 1) := by decide +kernel
theorem dX3_worthOf_88 : decode cX3_worthOf 88 = .ok (.invokevirtual 66, 3) := by decide +kernel
theorem dX3_worthOf_91 : decode cX3_worthOf 91 = .ok (.ifCond .eq 7, 3) := by decide +kernel
theorem dX3_worthOf_94 : decode cX3_worthOf 94 = .ok (.iconst 1, 1) := by decide +kernel
theorem dX3_worthOf_95 : decode cX3_worthOf 95 = .ok (.goto 4, 3) := by decide +kernel
theorem dX3_worthOf_98 : decode cX3_worthOf 98 = .ok (.iconst 0, 1) := by decide +kernel
theorem dX3_worthOf_99 : decode cX3_worthOf 99 = .ok (.iastore, 1) := by decide +kernel
theorem dX3_worthOf_100 : decode cX3_worthOf 100 = .ok (.aload_n 0, 1) := by decide +kernel
theorem dX3_worthOf_101 : decode cX3_worthOf 101 = .ok (.getfield 31, 3) := by decide +kernel
theorem dX3_worthOf_104 : decode cX3_worthOf 104 = .ok (.iconst 5, 1) := by decide +kernel
theorem dX3_worthOf_105 : decode cX3_worthOf 105 = .ok (.aload_n 1, 1) := by decide +kernel
theorem dX3_worthOf_106 : decode cX3_worthOf 106 = .ok (.getfield 70, 3) := by decide +kernel
theorem dX3_worthOf_109 : decode cX3_worthOf 109 = .ok (.iload_n 2, 1) := by decide +kernel
theorem dX3_worthOf_110 : decode cX3_worthOf 110 = .ok (.iaload, 1) := by decide +kernel
theorem dX3_worthOf_111 : decode cX3_worthOf 111 = .ok (.iload_n 3, 1) := by decide +kernel
theorem dX3_worthOf_112 : decode cX3_worthOf 112 = .ok (.if_icmp .ne 7, 3) := by decide +kernel
theorem dX3_worthOf_115 : decode cX3_worthOf 115 = .ok (.iconst 1, 1) := by decide +kernel
theorem dX3_worthOf_116 : decode cX3_worthOf 116 = .ok (.goto 4, 3) := by decide +kernel
theorem dX3_worthOf_119 : decode cX3_worthOf 119 = .ok (.iconst 0, 1) := by decide +kernel
theorem dX3_worthOf_120 : decode cX3_worthOf 120 = .ok (.iastore, 1) := by decide +kernel
theorem dX3_worthOf_121 : decode cX3_worthOf 121 = .ok (.aload_n 0, 1) := by decide +kernel
theorem dX3_worthOf_122 : decode cX3_worthOf 122 = .ok (.getfield 31, 3) := by decide +kernel
theorem dX3_worthOf_125 : decode cX3_worthOf 125 = .ok (.bipush 6, 2) := by decide +kernel
theorem dX3_worthOf_127 : decode cX3_worthOf 127 = .ok (.aload_n 1, 1) := by decide +kernel
theorem dX3_worthOf_128 : decode cX3_worthOf 128 = .ok (.iload_n 3, 1) := by decide +kernel
theorem dX3_worthOf_129 : decode cX3_worthOf 129 = .ok (.invokevirtual 73, 3) := by decide +kernel
theorem dX3_worthOf_132 : decode cX3_worthOf 132 = .ok (.invokestatic 77, 3) := by decide +kernel
theorem dX3_worthOf_135 : decode cX3_worthOf 135 = .ok (.iastore, 1) := by decide +kernel
theorem dX3_worthOf_136 : decode cX3_worthOf 136 = .ok (.aload_n 0, 1) := by decide +kernel
theorem dX3_worthOf_137 : decode cX3_worthOf 137 = .ok (.getfield 31, 3) := by decide +kernel
theorem dX3_worthOf_140 : decode cX3_worthOf 140 = .ok (.bipush 7, 2) := by decide +kernel
theorem dX3_worthOf_142 : decode cX3_worthOf 142 = .ok (.aload_n 1, 1) := by decide +kernel
theorem dX3_worthOf_143 : decode cX3_worthOf 143 = .ok (.getfield 82, 3) := by decide +kernel
theorem dX3_worthOf_146 : decode cX3_worthOf 146 = .ok (.iload_n 3, 1) := by decide +kernel
theorem dX3_worthOf_147 : decode cX3_worthOf 147 = .ok (.iaload, 1) := by decide +kernel
theorem dX3_worthOf_148 : decode cX3_worthOf 148 = .ok (.iastore, 1) := by decide +kernel
theorem dX3_worthOf_149 : decode cX3_worthOf 149 = .ok (.aload_n 0, 1) := by decide +kernel
theorem dX3_worthOf_150 : decode cX3_worthOf 150 = .ok (.getfield 31, 3) := by decide +kernel
theorem dX3_worthOf_153 : decode cX3_worthOf 153 = .ok (.bipush 8, 2) := by decide +kernel
theorem dX3_worthOf_155 : decode cX3_worthOf 155 = .ok (.aload_n 1, 1) := by decide +kernel
theorem dX3_worthOf_156 : decode cX3_worthOf 156 = .ok (.getfield 85, 3) := by decide +kernel
theorem dX3_worthOf_159 : decode cX3_worthOf 159 = .ok (.iload_n 3, 1) := by decide +kernel
theorem dX3_worthOf_160 : decode cX3_worthOf 160 = .ok (.iaload, 1) := by decide +kernel
theorem dX3_worthOf_161 : decode cX3_worthOf 161 = .ok (.iastore, 1) := by decide +kernel
theorem dX3_worthOf_162 : decode cX3_worthOf 162 = .ok (.aload_n 0, 1) := by decide +kernel
theorem dX3_worthOf_163 : decode cX3_worthOf 163 = .ok (.getfield 31, 3) := by decide +kernel
theorem dX3_worthOf_166 : decode cX3_worthOf 166 = .ok (.bipush 9, 2) := by decide +kernel
theorem dX3_worthOf_168 : decode cX3_worthOf 168 = .ok (.aload_n 1, 1) := by decide +kernel
theorem dX3_worthOf_169 : decode cX3_worthOf 169 = .ok (.getfield 56, 3) := by decide +kernel
theorem dX3_worthOf_172 : decode cX3_worthOf 172 = .ok (.iastore, 1) := by decide +kernel
theorem dX3_worthOf_173 : decode cX3_worthOf 173 = .ok (.iconst 0, 1) := by decide +kernel
theorem dX3_worthOf_174 : decode cX3_worthOf 174 = .ok (.istore 5, 2) := by decide +kernel
theorem dX3_worthOf_176 : decode cX3_worthOf 176 = .ok (.iload 5, 2) := by decide +kernel
theorem dX3_worthOf_178 : decode cX3_worthOf 178 = .ok (.aload_n 0, 1) := by decide +kernel
theorem dX3_worthOf_179 : decode cX3_worthOf 179 = .ok (.getfield 19, 3) := by decide +kernel
theorem dX3_worthOf_182 : decode cX3_worthOf 182 = .ok (.if_icmp .ge 78, 3) := by decide +kernel
theorem dX3_worthOf_185 : decode cX3_worthOf 185 = .ok (.aload_n 0, 1) := by decide +kernel
theorem dX3_worthOf_186 : decode cX3_worthOf 186 = .ok (.getfield 25, 3) := by decide +kernel
theorem dX3_worthOf_189 : decode cX3_worthOf 189 = .ok (.iload 5, 2) := by decide +kernel
theorem dX3_worthOf_191 : decode cX3_worthOf 191 = .ok (.iaload, 1) := by decide +kernel
theorem dX3_worthOf_192 : decode cX3_worthOf 192 = .ok (.aload_n 0, 1) := by decide +kernel
theorem dX3_worthOf_193 : decode cX3_worthOf 193 = .ok (.getfield 28, 3) := by decide +kernel
theorem dX3_worthOf_196 : decode cX3_worthOf 196 = .ok (.iload 5, 2) := by decide +kernel
theorem dX3_worthOf_198 : decode cX3_worthOf 198 = .ok (.iaload, 1) := by decide +kernel
theorem dX3_worthOf_199 : decode cX3_worthOf 199 = .ok (.if_icmp .ne 7, 3) := by decide +kernel
theorem dX3_worthOf_202 : decode cX3_worthOf 202 = .ok (.iconst 1, 1) := by decide +kernel
theorem dX3_worthOf_203 : decode cX3_worthOf 203 = .ok (.goto 4, 3) := by decide +kernel
theorem dX3_worthOf_206 : decode cX3_worthOf 206 = .ok (.iconst 0, 1) := by decide +kernel
theorem dX3_worthOf_207 : decode cX3_worthOf 207 = .ok (.istore 6, 2) := by decide +kernel
theorem dX3_worthOf_209 : decode cX3_worthOf 209 = .ok (.iload 6, 2) := by decide +kernel
theorem dX3_worthOf_211 : decode cX3_worthOf 211 = .ok (.ifCond .ne 24, 3) := by decide +kernel
theorem dX3_worthOf_214 : decode cX3_worthOf 214 = .ok (.aload_n 0, 1) := by decide +kernel
theorem dX3_worthOf_215 : decode cX3_worthOf 215 = .ok (.aload_n 0, 1) := by decide +kernel
theorem dX3_worthOf_216 : decode cX3_worthOf 216 = .ok (.getfield 25, 3) := by decide +kernel
theorem dX3_worthOf_219 : decode cX3_worthOf 219 = .ok (.iload 5, 2) := by decide +kernel
theorem dX3_worthOf_221 : decode cX3_worthOf 221 = .ok (.iaload, 1) := by decide +kernel
theorem dX3_worthOf_222 : decode cX3_worthOf 222 = .ok (.aload_n 0, 1) := by decide +kernel
theorem dX3_worthOf_223 : decode cX3_worthOf 223 = .ok (.getfield 28, 3) := by decide +kernel
theorem dX3_worthOf_226 : decode cX3_worthOf 226 = .ok (.iload 5, 2) := by decide +kernel
theorem dX3_worthOf_228 : decode cX3_worthOf 228 = .ok (.iaload, 1) := by decide +kernel
theorem dX3_worthOf_229 : decode cX3_worthOf 229 = .ok (.invokevirtual 88, 3) := by decide +kernel
theorem dX3_worthOf_232 : decode cX3_worthOf 232 = .ok (.ifCond .eq 22, 3) := by decide +kernel
theorem dX3_worthOf_235 : decode cX3_worthOf 235 = .ok (.aload_n 0, 1) := by decide +kernel
theorem dX3_worthOf_236 : decode cX3_worthOf 236 = .ok (.aload_n 0, 1) := by decide +kernel
theorem dX3_worthOf_237 : decode cX3_worthOf 237 = .ok (.getfield 22, 3) := by decide +kernel
theorem dX3_worthOf_240 : decode cX3_worthOf 240 = .ok (.iload 5, 2) := by decide +kernel
theorem dX3_worthOf_242 : decode cX3_worthOf 242 = .ok (.iaload, 1) := by decide +kernel
theorem dX3_worthOf_243 : decode cX3_worthOf 243 = .ok (.aload_n 0, 1) := by decide +kernel
theorem dX3_worthOf_244 : decode cX3_worthOf 244 = .ok (.getfield 25, 3) := by decide +kernel
theorem dX3_worthOf_247 : decode cX3_worthOf 247 = .ok (.iload 5, 2) := by decide +kernel
theorem dX3_worthOf_249 : decode cX3_worthOf 249 = .ok (.iaload, 1) := by decide +kernel
theorem dX3_worthOf_250 : decode cX3_worthOf 250 = .ok (.invokevirtual 88, 3) := by decide +kernel
theorem dX3_worthOf_253 : decode cX3_worthOf 253 = .ok (.ireturn, 1) := by decide +kernel
theorem dX3_worthOf_254 : decode cX3_worthOf 254 = .ok (.iinc 5 1, 3) := by decide +kernel
theorem dX3_worthOf_257 : decode cX3_worthOf 257 = .ok (.goto (-81), 3) := by decide +kernel
theorem dX3_worthOf_260 : decode cX3_worthOf 260 = .ok (.iconst 0, 1) := by decide +kernel
theorem dX3_worthOf_261 : decode cX3_worthOf 261 = .ok (.ireturn, 1) := by decide +kernel
theorem dX3_run_0 : decode cX3_run 0 = .ok (.iconst 0, 1) := by decide +kernel
theorem dX3_run_1 : decode cX3_run 1 = .ok (.istore_n 3, 1) := by decide +kernel
theorem dX3_run_2 : decode cX3_run 2 = .ok (.iload_n 1, 1) := by decide +kernel
theorem dX3_run_3 : decode cX3_run 3 = .ok (.istore 4, 2) := by decide +kernel
theorem dX3_run_5 : decode cX3_run 5 = .ok (.iload 4, 2) := by decide +kernel
theorem dX3_run_7 : decode cX3_run 7 = .ok (.iload_n 2, 1) := by decide +kernel
theorem dX3_run_8 : decode cX3_run 8 = .ok (.if_icmp .ge 143, 3) := by decide +kernel
theorem dX3_run_11 : decode cX3_run 11 = .ok (.aload_n 0, 1) := by decide +kernel
theorem dX3_run_12 : decode cX3_run 12 = .ok (.getfield 9, 3) := by decide +kernel
theorem dX3_run_15 : decode cX3_run 15 = .ok (.iload 4, 2) := by decide +kernel
theorem dX3_run_17 : decode cX3_run 17 = .ok (.iaload, 1) := by decide +kernel
theorem dX3_run_18 : decode cX3_run 18 = .ok (.istore 5, 2) := by decide +kernel
theorem dX3_run_20 : decode cX3_run 20 = .ok (.iload 5, 2) := by decide +kernel
theorem dX3_run_22 : decode cX3_run 22 = .ok (.sipush 20000, 3) := by decide +kernel
theorem dX3_run_25 : decode cX3_run 25 = .ok (.if_icmp .ge 47, 3) := by decide +kernel
theorem dX3_run_28 : decode cX3_run 28 = .ok (.iload_n 3, 1) := by decide +kernel
theorem dX3_run_29 : decode cX3_run 29 = .ok (.bipush 64, 2) := by decide +kernel
theorem dX3_run_31 : decode cX3_run 31 = .ok (.if_icmp .lt 5, 3) := by decide +kernel
theorem dX3_run_34 : decode cX3_run 34 = .ok (.iconst 0, 1) := by decide +kernel
theorem dX3_run_35 : decode cX3_run 35 = .ok (.ireturn, 1) := by decide +kernel
theorem dX3_run_36 : decode cX3_run 36 = .ok (.aload_n 0, 1) := by decide +kernel
theorem dX3_run_37 : decode cX3_run 37 = .ok (.getfield 34, 3) := by decide +kernel
theorem dX3_run_40 : decode cX3_run 40 = .ok (.iload_n 3, 1) := by decide +kernel
theorem dX3_run_41 : decode cX3_run 41 = .ok (.iload 5, 2) := by decide +kernel
theorem dX3_run_43 : decode cX3_run 43 = .ok (.sipush 10000, 3) := by decide +kernel
theorem dX3_run_46 : decode cX3_run 46 = .ok (.if_icmp .ge 8, 3) := by decide +kernel
theorem dX3_run_49 : decode cX3_run 49 = .ok (.iload 5, 2) := by decide +kernel
theorem dX3_run_51 : decode cX3_run 51 = .ok (.goto 14, 3) := by decide +kernel
theorem dX3_run_54 : decode cX3_run 54 = .ok (.aload_n 0, 1) := by decide +kernel
theorem dX3_run_55 : decode cX3_run 55 = .ok (.getfield 31, 3) := by decide +kernel
theorem dX3_run_58 : decode cX3_run 58 = .ok (.iload 5, 2) := by decide +kernel
theorem dX3_run_60 : decode cX3_run 60 = .ok (.sipush 10000, 3) := by decide +kernel
theorem dX3_run_63 : decode cX3_run 63 = .ok (.isub, 1) := by decide +kernel
theorem dX3_run_64 : decode cX3_run 64 = .ok (.iaload, 1) := by decide +kernel
theorem dX3_run_65 : decode cX3_run 65 = .ok (.iastore, 1) := by decide +kernel
theorem dX3_run_66 : decode cX3_run 66 = .ok (.iinc 3 1, 3) := by decide +kernel
theorem dX3_run_69 : decode cX3_run 69 = .ok (.goto 76, 3) := by decide +kernel
theorem dX3_run_72 : decode cX3_run 72 = .ok (.iload 5, 2) := by decide +kernel
theorem dX3_run_74 : decode cX3_run 74 = .ok (.sipush 20007, 3) := by decide +kernel
theorem dX3_run_77 : decode cX3_run 77 = .ok (.if_icmp .ne 31, 3) := by decide +kernel
theorem dX3_run_80 : decode cX3_run 80 = .ok (.iload_n 3, 1) := by decide +kernel
theorem dX3_run_81 : decode cX3_run 81 = .ok (.iconst 1, 1) := by decide +kernel
theorem dX3_run_82 : decode cX3_run 82 = .ok (.if_icmp .ge 5, 3) := by decide +kernel
theorem dX3_run_85 : decode cX3_run 85 = .ok (.iconst 0, 1) := by decide +kernel
theorem dX3_run_86 : decode cX3_run 86 = .ok (.ireturn, 1) := by decide +kernel
theorem dX3_run_87 : decode cX3_run 87 = .ok (.aload_n 0, 1) := by decide +kernel
theorem dX3_run_88 : decode cX3_run 88 = .ok (.getfield 34, 3) := by decide +kernel
theorem dX3_run_91 : decode cX3_run 91 = .ok (.iload_n 3, 1) := by decide +kernel
theorem dX3_run_92 : decode cX3_run 92 = .ok (.iconst 1, 1) := by decide +kernel
theorem dX3_run_93 : decode cX3_run 93 = .ok (.isub, 1) := by decide +kernel
theorem dX3_run_94 : decode cX3_run 94 = .ok (.iconst 1, 1) := by decide +kernel
theorem dX3_run_95 : decode cX3_run 95 = .ok (.aload_n 0, 1) := by decide +kernel
theorem dX3_run_96 : decode cX3_run 96 = .ok (.getfield 34, 3) := by decide +kernel
theorem dX3_run_99 : decode cX3_run 99 = .ok (.iload_n 3, 1) := by decide +kernel
theorem dX3_run_100 : decode cX3_run 100 = .ok (.iconst 1, 1) := by decide +kernel
theorem dX3_run_101 : decode cX3_run 101 = .ok (.isub, 1) := by decide +kernel
theorem dX3_run_102 : decode cX3_run 102 = .ok (.iaload, 1) := by decide +kernel
theorem dX3_run_103 : decode cX3_run 103 = .ok (.isub, 1) := by decide +kernel
theorem dX3_run_104 : decode cX3_run 104 = .ok (.iastore, 1) := by decide +kernel
theorem dX3_run_105 : decode cX3_run 105 = .ok (.goto 40, 3) := by decide +kernel
theorem dX3_run_108 : decode cX3_run 108 = .ok (.iload_n 3, 1) := by decide +kernel
theorem dX3_run_109 : decode cX3_run 109 = .ok (.iconst 2, 1) := by decide +kernel
theorem dX3_run_110 : decode cX3_run 110 = .ok (.if_icmp .ge 5, 3) := by decide +kernel
theorem dX3_run_113 : decode cX3_run 113 = .ok (.iconst 0, 1) := by decide +kernel
theorem dX3_run_114 : decode cX3_run 114 = .ok (.ireturn, 1) := by decide +kernel
theorem dX3_run_115 : decode cX3_run 115 = .ok (.iinc 3 (-1), 3) := by decide +kernel
theorem dX3_run_118 : decode cX3_run 118 = .ok (.aload_n 0, 1) := by decide +kernel
theorem dX3_run_119 : decode cX3_run 119 = .ok (.getfield 34, 3) := by decide +kernel
theorem dX3_run_122 : decode cX3_run 122 = .ok (.iload_n 3, 1) := by decide +kernel
theorem dX3_run_123 : decode cX3_run 123 = .ok (.iconst 1, 1) := by decide +kernel
theorem dX3_run_124 : decode cX3_run 124 = .ok (.isub, 1) := by decide +kernel
theorem dX3_run_125 : decode cX3_run 125 = .ok (.iload 5, 2) := by decide +kernel
theorem dX3_run_127 : decode cX3_run 127 = .ok (.aload_n 0, 1) := by decide +kernel
theorem dX3_run_128 : decode cX3_run 128 = .ok (.getfield 34, 3) := by decide +kernel
theorem dX3_run_131 : decode cX3_run 131 = .ok (.iload_n 3, 1) := by decide +kernel
theorem dX3_run_132 : decode cX3_run 132 = .ok (.iconst 1, 1) := by decide +kernel
theorem dX3_run_133 : decode cX3_run 133 = .ok (.isub, 1) := by decide +kernel
theorem dX3_run_134 : decode cX3_run 134 = .ok (.iaload, 1) := by decide +kernel
theorem dX3_run_135 : decode cX3_run 135 = .ok (.aload_n 0, 1) := by decide +kernel
theorem dX3_run_136 : decode cX3_run 136 = .ok (.getfield 34, 3) := by decide +kernel
theorem dX3_run_139 : decode cX3_run 139 = .ok (.iload_n 3, 1) := by decide +kernel
theorem dX3_run_140 : decode cX3_run 140 = .ok (.iaload, 1) := by decide +kernel
theorem dX3_run_141 : decode cX3_run 141 = .ok (.invokestatic 91, 3) := by decide +kernel
theorem dX3_run_144 : decode cX3_run 144 = .ok (.iastore, 1) := by decide +kernel
theorem dX3_run_145 : decode cX3_run 145 = .ok (.iinc 4 1, 3) := by decide +kernel
theorem dX3_run_148 : decode cX3_run 148 = .ok (.goto (-143), 3) := by decide +kernel
theorem dX3_run_151 : decode cX3_run 151 = .ok (.iload_n 3, 1) := by decide +kernel
theorem dX3_run_152 : decode cX3_run 152 = .ok (.ifCond .le 14, 3) := by decide +kernel
theorem dX3_run_155 : decode cX3_run 155 = .ok (.aload_n 0, 1) := by decide +kernel
theorem dX3_run_156 : decode cX3_run 156 = .ok (.getfield 34, 3) := by decide +kernel
theorem dX3_run_159 : decode cX3_run 159 = .ok (.iload_n 3, 1) := by decide +kernel
theorem dX3_run_160 : decode cX3_run 160 = .ok (.iconst 1, 1) := by decide +kernel
theorem dX3_run_161 : decode cX3_run 161 = .ok (.isub, 1) := by decide +kernel
theorem dX3_run_162 : decode cX3_run 162 = .ok (.iaload, 1) := by decide +kernel
theorem dX3_run_163 : decode cX3_run 163 = .ok (.goto 4, 3) := by decide +kernel
theorem dX3_run_166 : decode cX3_run 166 = .ok (.iconst 0, 1) := by decide +kernel
theorem dX3_run_167 : decode cX3_run 167 = .ok (.ireturn, 1) := by decide +kernel
theorem dX3_combined_0 : decode cX3_combined 0 = .ok (.iload_n 0, 1) := by decide +kernel
theorem dX3_combined_1 : decode cX3_combined 1 = .ok (.tableswitch 120 20000 20009 #[55, 59, 63, 67, 79, 90, 101, 120, 112, 116], 55) := by decide +kernel
theorem dX3_combined_56 : decode cX3_combined 56 = .ok (.iload_n 1, 1) := by decide +kernel
theorem dX3_combined_57 : decode cX3_combined 57 = .ok (.iload_n 2, 1) := by decide +kernel
theorem dX3_combined_58 : decode cX3_combined 58 = .ok (.iadd, 1) := by decide +kernel
theorem dX3_combined_59 : decode cX3_combined 59 = .ok (.ireturn, 1) := by decide +kernel
theorem dX3_combined_60 : decode cX3_combined 60 = .ok (.iload_n 1, 1) := by decide +kernel
theorem dX3_combined_61 : decode cX3_combined 61 = .ok (.iload_n 2, 1) := by decide +kernel
theorem dX3_combined_62 : decode cX3_combined 62 = .ok (.isub, 1) := by decide +kernel
theorem dX3_combined_63 : decode cX3_combined 63 = .ok (.ireturn, 1) := by decide +kernel
theorem dX3_combined_64 : decode cX3_combined 64 = .ok (.iload_n 1, 1) := by decide +kernel
theorem dX3_combined_65 : decode cX3_combined 65 = .ok (.iload_n 2, 1) := by decide +kernel
theorem dX3_combined_66 : decode cX3_combined 66 = .ok (.imul, 1) := by decide +kernel
theorem dX3_combined_67 : decode cX3_combined 67 = .ok (.ireturn, 1) := by decide +kernel
theorem dX3_combined_68 : decode cX3_combined 68 = .ok (.iload_n 2, 1) := by decide +kernel
theorem dX3_combined_69 : decode cX3_combined 69 = .ok (.ifCond .eq 9, 3) := by decide +kernel
theorem dX3_combined_72 : decode cX3_combined 72 = .ok (.iload_n 1, 1) := by decide +kernel
theorem dX3_combined_73 : decode cX3_combined 73 = .ok (.iload_n 2, 1) := by decide +kernel
theorem dX3_combined_74 : decode cX3_combined 74 = .ok (.idiv, 1) := by decide +kernel
theorem dX3_combined_75 : decode cX3_combined 75 = .ok (.goto 4, 3) := by decide +kernel
theorem dX3_combined_78 : decode cX3_combined 78 = .ok (.iconst 0, 1) := by decide +kernel
theorem dX3_combined_79 : decode cX3_combined 79 = .ok (.ireturn, 1) := by decide +kernel
theorem dX3_combined_80 : decode cX3_combined 80 = .ok (.iload_n 1, 1) := by decide +kernel
theorem dX3_combined_81 : decode cX3_combined 81 = .ok (.iload_n 2, 1) := by decide +kernel
theorem dX3_combined_82 : decode cX3_combined 82 = .ok (.if_icmp .ge 7, 3) := by decide +kernel
theorem dX3_combined_85 : decode cX3_combined 85 = .ok (.iconst 1, 1) := by decide +kernel
theorem dX3_combined_86 : decode cX3_combined 86 = .ok (.goto 4, 3) := by decide +kernel
theorem dX3_combined_89 : decode cX3_combined 89 = .ok (.iconst 0, 1) := by decide +kernel
theorem dX3_combined_90 : decode cX3_combined 90 = .ok (.ireturn, 1) := by decide +kernel
theorem dX3_combined_91 : decode cX3_combined 91 = .ok (.iload_n 1, 1) := by decide +kernel
theorem dX3_combined_92 : decode cX3_combined 92 = .ok (.iload_n 2, 1) := by decide +kernel
theorem dX3_combined_93 : decode cX3_combined 93 = .ok (.if_icmp .ne 7, 3) := by decide +kernel
theorem dX3_combined_96 : decode cX3_combined 96 = .ok (.iconst 1, 1) := by decide +kernel
theorem dX3_combined_97 : decode cX3_combined 97 = .ok (.goto 4, 3) := by decide +kernel
theorem dX3_combined_100 : decode cX3_combined 100 = .ok (.iconst 0, 1) := by decide +kernel
theorem dX3_combined_101 : decode cX3_combined 101 = .ok (.ireturn, 1) := by decide +kernel
theorem dX3_combined_102 : decode cX3_combined 102 = .ok (.iload_n 1, 1) := by decide +kernel
theorem dX3_combined_103 : decode cX3_combined 103 = .ok (.iload_n 2, 1) := by decide +kernel
theorem dX3_combined_104 : decode cX3_combined 104 = .ok (.if_icmp .le 7, 3) := by decide +kernel
theorem dX3_combined_107 : decode cX3_combined 107 = .ok (.iconst 1, 1) := by decide +kernel
theorem dX3_combined_108 : decode cX3_combined 108 = .ok (.goto 4, 3) := by decide +kernel
theorem dX3_combined_111 : decode cX3_combined 111 = .ok (.iconst 0, 1) := by decide +kernel
theorem dX3_combined_112 : decode cX3_combined 112 = .ok (.ireturn, 1) := by decide +kernel
theorem dX3_combined_113 : decode cX3_combined 113 = .ok (.iload_n 1, 1) := by decide +kernel
theorem dX3_combined_114 : decode cX3_combined 114 = .ok (.iload_n 2, 1) := by decide +kernel
theorem dX3_combined_115 : decode cX3_combined 115 = .ok (.iand, 1) := by decide +kernel
theorem dX3_combined_116 : decode cX3_combined 116 = .ok (.ireturn, 1) := by decide +kernel
theorem dX3_combined_117 : decode cX3_combined 117 = .ok (.iload_n 1, 1) := by decide +kernel
theorem dX3_combined_118 : decode cX3_combined 118 = .ok (.iload_n 2, 1) := by decide +kernel
theorem dX3_combined_119 : decode cX3_combined 119 = .ok (.ior, 1) := by decide +kernel
theorem dX3_combined_120 : decode cX3_combined 120 = .ok (.ireturn, 1) := by decide +kernel
theorem dX3_combined_121 : decode cX3_combined 121 = .ok (.iconst 0, 1) := by decide +kernel
theorem dX3_combined_122 : decode cX3_combined 122 = .ok (.ireturn, 1) := by decide +kernel
theorem dX4_init_0 : decode cX4_init 0 = .ok (.aload_n 0, 1) := by decide +kernel
theorem dX4_init_1 : decode cX4_init 1 = .ok (.invokespecial 3, 3) := by decide +kernel
theorem dX4_init_4 : decode cX4_init 4 = .ok (.aload_n 0, 1) := by decide +kernel
theorem dX4_init_5 : decode cX4_init 5 = .ok (.new 9, 3) := by decide +kernel
theorem dX4_init_8 : decode cX4_init 8 = .ok (.dup, 1) := by decide +kernel
theorem dX4_init_9 : decode cX4_init 9 = .ok (.invokespecial 11, 3) := by decide +kernel
theorem dX4_init_12 : decode cX4_init 12 = .ok (.putfield 12, 3) := by decide +kernel
theorem dX4_init_15 : decode cX4_init 15 = .ok (.aload_n 0, 1) := by decide +kernel
theorem dX4_init_16 : decode cX4_init 16 = .ok (.new 18, 3) := by decide +kernel
theorem dX4_init_19 : decode cX4_init 19 = .ok (.dup, 1) := by decide +kernel
theorem dX4_init_20 : decode cX4_init 20 = .ok (.aload_n 1, 1) := by decide +kernel
theorem dX4_init_21 : decode cX4_init 21 = .ok (.ldc 20, 2) := by decide +kernel
theorem dX4_init_23 : decode cX4_init 23 = .ok (.ldc 22, 2) := by decide +kernel
theorem dX4_init_25 : decode cX4_init 25 = .ok (.invokespecial 24, 3) := by decide +kernel
theorem dX4_init_28 : decode cX4_init 28 = .ok (.putfield 27, 3) := by decide +kernel
theorem dX4_init_31 : decode cX4_init 31 = .ok (.return_, 1) := by decide +kernel
theorem dX4_read_0 : decode cX4_read 0 = .ok (.aload_n 0, 1) := by decide +kernel
theorem dX4_read_1 : decode cX4_read 1 = .ok (.getfield 27, 3) := by decide +kernel
theorem dX4_read_4 : decode cX4_read 4 = .ok (.invokevirtual 31, 3) := by decide +kernel
theorem dX4_read_7 : decode cX4_read 7 = .ok (.aload_n 0, 1) := by decide +kernel
theorem dX4_read_8 : decode cX4_read 8 = .ok (.getfield 12, 3) := by decide +kernel
theorem dX4_read_11 : decode cX4_read 11 = .ok (.iconst 0, 1) := by decide +kernel
theorem dX4_read_12 : decode cX4_read 12 = .ok (.putfield 34, 3) := by decide +kernel
theorem dX4_read_15 : decode cX4_read 15 = .ok (.aload_n 0, 1) := by decide +kernel
theorem dX4_read_16 : decode cX4_read 16 = .ok (.getfield 12, 3) := by decide +kernel
theorem dX4_read_19 : decode cX4_read 19 = .ok (.iconst 0, 1) := by decide +kernel
theorem dX4_read_20 : decode cX4_read 20 = .ok (.putfield 38, 3) := by decide +kernel
theorem dX4_read_23 : decode cX4_read 23 = .ok (.iconst 0, 1) := by decide +kernel
theorem dX4_read_24 : decode cX4_read 24 = .ok (.istore_n 2, 1) := by decide +kernel
theorem dX4_read_25 : decode cX4_read 25 = .ok (.iload_n 2, 1) := by decide +kernel
theorem dX4_read_26 : decode cX4_read 26 = .ok (.sipush 400, 3) := by decide +kernel
theorem dX4_read_29 : decode cX4_read 29 = .ok (.if_icmp .ge 28, 3) := by decide +kernel
theorem dX4_read_32 : decode cX4_read 32 = .ok (.aload_n 0, 1) := by decide +kernel
theorem dX4_read_33 : decode cX4_read 33 = .ok (.getfield 27, 3) := by decide +kernel
theorem dX4_read_36 : decode cX4_read 36 = .ok (.invokevirtual 41, 3) := by decide +kernel
theorem dX4_read_39 : decode cX4_read 39 = .ok (.ifCond .eq 18, 3) := by decide +kernel
theorem dX4_read_42 : decode cX4_read 42 = .ok (.aload_n 0, 1) := by decide +kernel
theorem dX4_read_43 : decode cX4_read 43 = .ok (.invokevirtual 45, 3) := by decide +kernel
theorem dX4_read_46 : decode cX4_read 46 = .ok (.ifCond .ne 5, 3) := by decide +kernel
theorem dX4_read_49 : decode cX4_read 49 = .ok (.iconst (-1), 1) := by decide +kernel
theorem dX4_read_50 : decode cX4_read 50 = .ok (.ireturn, 1) := by decide +kernel
theorem dX4_read_51 : decode cX4_read 51 = .ok (.iinc 2 1, 3) := by decide +kernel
theorem dX4_read_54 : decode cX4_read 54 = .ok (.goto (-29), 3) := by decide +kernel
theorem dX4_read_57 : decode cX4_read 57 = .ok (.aload_n 1, 1) := by decide +kernel
theorem dX4_read_58 : decode cX4_read 58 = .ok (.aload_n 0, 1) := by decide +kernel
theorem dX4_read_59 : decode cX4_read 59 = .ok (.getfield 12, 3) := by decide +kernel
theorem dX4_read_62 : decode cX4_read 62 = .ok (.invokevirtual 49, 3) := by decide +kernel
theorem dX4_read_65 : decode cX4_read 65 = .ok (.aload_n 1, 1) := by decide +kernel
theorem dX4_read_66 : decode cX4_read 66 = .ok (.getfield 38, 3) := by decide +kernel
theorem dX4_read_69 : decode cX4_read 69 = .ok (.ireturn, 1) := by decide +kernel
theorem dX4_readLine_0 : decode cX4_readLine 0 = .ok (.aload_n 0, 1) := by decide +kernel
theorem dX4_readLine_1 : decode cX4_readLine 1 = .ok (.getfield 27, 3) := by decide +kernel
theorem dX4_readLine_4 : decode cX4_readLine 4 = .ok (.iconst 0, 1) := by decide +kernel
theorem dX4_readLine_5 : decode cX4_readLine 5 = .ok (.invokevirtual 53, 3) := by decide +kernel
theorem dX4_readLine_8 : decode cX4_readLine 8 = .ok (.ifCond .ne 12, 3) := by decide +kernel
theorem dX4_readLine_11 : decode cX4_readLine 11 = .ok (.aload_n 0, 1) := by decide +kernel
theorem dX4_readLine_12 : decode cX4_readLine 12 = .ok (.getfield 27, 3) := by decide +kernel
theorem dX4_readLine_15 : decode cX4_readLine 15 = .ok (.iconst 1, 1) := by decide +kernel
theorem dX4_readLine_16 : decode cX4_readLine 16 = .ok (.invokevirtual 57, 3) := by decide +kernel
theorem dX4_readLine_19 : decode cX4_readLine 19 = .ok (.ireturn, 1) := by decide +kernel
theorem dX4_readLine_20 : decode cX4_readLine 20 = .ok (.aload_n 0, 1) := by decide +kernel
theorem dX4_readLine_21 : decode cX4_readLine 21 = .ok (.getfield 12, 3) := by decide +kernel
theorem dX4_readLine_24 : decode cX4_readLine 24 = .ok (.getfield 38, 3) := by decide +kernel
theorem dX4_readLine_27 : decode cX4_readLine 27 = .ok (.istore_n 1, 1) := by decide +kernel
theorem dX4_readLine_28 : decode cX4_readLine 28 = .ok (.iload_n 1, 1) := by decide +kernel
theorem dX4_readLine_29 : decode cX4_readLine 29 = .ok (.bipush 16, 2) := by decide +kernel
theorem dX4_readLine_31 : decode cX4_readLine 31 = .ok (.if_icmp .lt 12, 3) := by decide +kernel
theorem dX4_readLine_34 : decode cX4_readLine 34 = .ok (.aload_n 0, 1) := by decide +kernel
theorem dX4_readLine_35 : decode cX4_readLine 35 = .ok (.getfield 27, 3) := by decide +kernel
theorem dX4_readLine_38 : decode cX4_readLine 38 = .ok (.iconst 3, 1) := by decide +kernel
theorem dX4_readLine_39 : decode cX4_readLine 39 = .ok (.invokevirtual 57, 3) := by decide +kernel
theorem dX4_readLine_42 : decode cX4_readLine 42 = .ok (.ireturn, 1) := by decide +kernel
theorem dX4_readLine_43 : decode cX4_readLine 43 = .ok (.aload_n 0, 1) := by decide +kernel
theorem dX4_readLine_44 : decode cX4_readLine 44 = .ok (.getfield 27, 3) := by decide +kernel
theorem dX4_readLine_47 : decode cX4_readLine 47 = .ok (.invokevirtual 60, 3) := by decide +kernel
theorem dX4_readLine_50 : decode cX4_readLine 50 = .ok (.aload_n 0, 1) := by decide +kernel
theorem dX4_readLine_51 : decode cX4_readLine 51 = .ok (.getfield 12, 3) := by decide +kernel
theorem dX4_readLine_54 : decode cX4_readLine 54 = .ok (.getfield 63, 3) := by decide +kernel
theorem dX4_readLine_57 : decode cX4_readLine 57 = .ok (.iload_n 1, 1) := by decide +kernel
theorem dX4_readLine_58 : decode cX4_readLine 58 = .ok (.aload_n 0, 1) := by decide +kernel
theorem dX4_readLine_59 : decode cX4_readLine 59 = .ok (.getfield 12, 3) := by decide +kernel
theorem dX4_readLine_62 : decode cX4_readLine 62 = .ok (.getfield 34, 3) := by decide +kernel
theorem dX4_readLine_65 : decode cX4_readLine 65 = .ok (.iastore, 1) := by decide +kernel
theorem dX4_readLine_66 : decode cX4_readLine 66 = .ok (.aload_n 0, 1) := by decide +kernel
theorem dX4_readLine_67 : decode cX4_readLine 67 = .ok (.invokevirtual 67, 3) := by decide +kernel
theorem dX4_readLine_70 : decode cX4_readLine 70 = .ok (.ifCond .ne 5, 3) := by decide +kernel
theorem dX4_readLine_73 : decode cX4_readLine 73 = .ok (.iconst 0, 1) := by decide +kernel
theorem dX4_readLine_74 : decode cX4_readLine 74 = .ok (.ireturn, 1) := by decide +kernel
theorem dX4_readLine_75 : decode cX4_readLine 75 = .ok (.aload_n 0, 1) := by decide +kernel
theorem dX4_readLine_76 : decode cX4_readLine 76 = .ok (.getfield 12, 3) := by decide +kernel
theorem dX4_readLine_79 : decode cX4_readLine 79 = .ok (.getfield 70, 3) := by decide +kernel
theorem dX4_readLine_82 : decode cX4_readLine 82 = .ok (.iload_n 1, 1) := by decide +kernel
theorem dX4_readLine_83 : decode cX4_readLine 83 = .ok (.aload_n 0, 1) := by decide +kernel
theorem dX4_readLine_84 : decode cX4_readLine 84 = .ok (.getfield 12, 3) := by decide +kernel
theorem dX4_readLine_87 : decode cX4_readLine 87 = .ok (.getfield 34, 3) := by decide +kernel
theorem dX4_readLine_90 : decode cX4_readLine 90 = .ok (.iastore, 1) := by decide +kernel
theorem dX4_readLine_91 : decode cX4_readLine 91 = .ok (.aload_n 0, 1) := by decide +kernel
theorem dX4_readLine_92 : decode cX4_readLine 92 = .ok (.getfield 27, 3) := by decide +kernel
theorem dX4_readLine_95 : decode cX4_readLine 95 = .ok (.iconst 1, 1) := by decide +kernel
theorem dX4_readLine_96 : decode cX4_readLine 96 = .ok (.invokevirtual 53, 3) := by decide +kernel
theorem dX4_readLine_99 : decode cX4_readLine 99 = .ok (.ifCond .eq 20, 3) := by decide +kernel
theorem dX4_readLine_102 : decode cX4_readLine 102 = .ok (.aload_n 0, 1) := by decide +kernel
theorem dX4_readLine_103 : decode cX4_readLine 103 = .ok (.getfield 27, 3) := by decide +kernel
theorem dX4_readLine_106 : decode cX4_readLine 106 = .ok (.invokevirtual 60, 3) := by decide +kernel
theorem dX4_readLine_109 : decode cX4_readLine 109 = .ok (.aload_n 0, 1) := by decide +kernel
theorem dX4_readLine_110 : decode cX4_readLine 110 = .ok (.iconst 0, 1) := by decide +kernel
theorem dX4_readLine_111 : decode cX4_readLine 111 = .ok (.invokevirtual 73, 3) := by decide +kernel
theorem dX4_readLine_114 : decode cX4_readLine 114 = .ok (.ifCond .ne 5, 3) := by decide +kernel
theorem dX4_readLine_117 : decode cX4_readLine 117 = .ok (.iconst 0, 1) := by decide +kernel
theorem dX4_readLine_118 : decode cX4_readLine 118 = .ok (.ireturn, 1) := by decide +kernel
theorem dX4_readLine_119 : decode cX4_readLine 119 = .ok (.aload_n 0, 1) := by decide +kernel
theorem dX4_readLine_120 : decode cX4_readLine 120 = .ok (.getfield 12, 3) := by decide +kernel
theorem dX4_readLine_123 : decode cX4_readLine 123 = .ok (.getfield 76, 3) := by decide +kernel
theorem dX4_readLine_126 : decode cX4_readLine 126 = .ok (.iload_n 1, 1) := by decide +kernel
theorem dX4_readLine_127 : decode cX4_readLine 127 = .ok (.aload_n 0, 1) := by decide +kernel
theorem dX4_readLine_128 : decode cX4_readLine 128 = .ok (.getfield 12, 3) := by decide +kernel
theorem dX4_readLine_131 : decode cX4_readLine 131 = .ok (.getfield 34, 3) := by decide +kernel
theorem dX4_readLine_134 : decode cX4_readLine 134 = .ok (.iastore, 1) := by decide +kernel
theorem dX4_readLine_135 : decode cX4_readLine 135 = .ok (.aload_n 0, 1) := by decide +kernel
theorem dX4_readLine_136 : decode cX4_readLine 136 = .ok (.getfield 12, 3) := by decide +kernel
theorem dX4_readLine_139 : decode cX4_readLine 139 = .ok (.dup, 1) := by decide +kernel
theorem dX4_readLine_140 : decode cX4_readLine 140 = .ok (.getfield 38, 3) := by decide +kernel
theorem dX4_readLine_143 : decode cX4_readLine 143 = .ok (.iconst 1, 1) := by decide +kernel
theorem dX4_readLine_144 : decode cX4_readLine 144 = .ok (.iadd, 1) := by decide +kernel
theorem dX4_readLine_145 : decode cX4_readLine 145 = .ok (.putfield 38, 3) := by decide +kernel
theorem dX4_readLine_148 : decode cX4_readLine 148 = .ok (.aload_n 0, 1) := by decide +kernel
theorem dX4_readLine_149 : decode cX4_readLine 149 = .ok (.getfield 27, 3) := by decide +kernel
theorem dX4_readLine_152 : decode cX4_readLine 152 = .ok (.bipush 59, 2) := by decide +kernel
theorem dX4_readLine_154 : decode cX4_readLine 154 = .ok (.invokevirtual 79, 3) := by decide +kernel
theorem dX4_readLine_157 : decode cX4_readLine 157 = .ok (.ireturn, 1) := by decide +kernel
theorem dX4_readCondition_0 : decode cX4_readCondition 0 = .ok (.aload_n 0, 1) := by decide +kernel
theorem dX4_readCondition_1 : decode cX4_readCondition 1 = .ok (.iload_n 1, 1) := by decide +kernel
theorem dX4_readCondition_2 : decode cX4_readCondition 2 = .ok (.invokevirtual 83, 3) := by decide +kernel
theorem dX4_readCondition_5 : decode cX4_readCondition 5 = .ok (.ifCond .ne 5, 3) := by decide +kernel
theorem dX4_readCondition_8 : decode cX4_readCondition 8 = .ok (.iconst 0, 1) := by decide +kernel
theorem dX4_readCondition_9 : decode cX4_readCondition 9 = .ok (.ireturn, 1) := by decide +kernel
theorem dX4_readCondition_10 : decode cX4_readCondition 10 = .ok (.iconst 0, 1) := by decide +kernel
theorem dX4_readCondition_11 : decode cX4_readCondition 11 = .ok (.istore_n 2, 1) := by decide +kernel
theorem dX4_readCondition_12 : decode cX4_readCondition 12 = .ok (.iconst 0, 1) := by decide +kernel
theorem dX4_readCondition_13 : decode cX4_readCondition 13 = .ok (.istore_n 3, 1) := by decide +kernel
theorem dX4_readCondition_14 : decode cX4_readCondition 14 = .ok (.iload_n 3, 1) := by decide +kernel
theorem dX4_readCondition_15 : decode cX4_readCondition 15 = .ok (.sipush 400, 3) := by decide +kernel
theorem dX4_readCondition_18 : decode cX4_readCondition 18 = .ok (.if_icmp .ge 94, 3) := by decide +kernel
theorem dX4_readCondition_21 : decode cX4_readCondition 21 = .ok (.aload_n 0, 1) := by decide +kernel
theorem dX4_readCondition_22 : decode cX4_readCondition 22 = .ok (.getfield 27, 3) := by decide +kernel
theorem dX4_readCondition_25 : decode cX4_readCondition 25 = .ok (.iconst 3, 1) := by decide +kernel
theorem dX4_readCondition_26 : decode cX4_readCondition 26 = .ok (.invokevirtual 53, 3) := by decide +kernel
theorem dX4_readCondition_29 : decode cX4_readCondition 29 = .ok (.ifCond .eq 33, 3) := by decide +kernel
theorem dX4_readCondition_32 : decode cX4_readCondition 32 = .ok (.aload_n 0, 1) := by decide +kernel
theorem dX4_readCondition_33 : decode cX4_readCondition 33 = .ok (.getfield 27, 3) := by decide +kernel
theorem dX4_readCondition_36 : decode cX4_readCondition 36 = .ok (.invokevirtual 60, 3) := by decide +kernel
theorem dX4_readCondition_39 : decode cX4_readCondition 39 = .ok (.aload_n 0, 1) := by decide +kernel
theorem dX4_readCondition_40 : decode cX4_readCondition 40 = .ok (.iload_n 1, 1) := by decide +kernel
theorem dX4_readCondition_41 : decode cX4_readCondition 41 = .ok (.invokevirtual 83, 3) := by decide +kernel
theorem dX4_readCondition_44 : decode cX4_readCondition 44 = .ok (.ifCond .ne 5, 3) := by decide +kernel
theorem dX4_readCondition_47 : decode cX4_readCondition 47 = .ok (.iconst 0, 1) := by decide +kernel
theorem dX4_readCondition_48 : decode cX4_readCondition 48 = .ok (.ireturn, 1) := by decide +kernel
theorem dX4_readCondition_49 : decode cX4_readCondition 49 = .ok (.aload_n 0, 1) := by decide +kernel
theorem dX4_readCondition_50 : decode cX4_readCondition 50 = .ok (.getfield 12, 3) := by decide +kernel
theorem dX4_readCondition_53 : decode cX4_readCondition 53 = .ok (.sipush 20008, 3) := by decide +kernel
theorem dX4_readCondition_56 : decode cX4_readCondition 56 = .ok (.invokevirtual 86, 3) := by decide +kernel
theorem dX4_readCondition_59 : decode cX4_readCondition 59 = .ok (.goto 47, 3) := by decide +kernel
theorem dX4_readCondition_62 : decode cX4_readCondition 62 = .ok (.aload_n 0, 1) := by decide +kernel
theorem dX4_readCondition_63 : decode cX4_readCondition 63 = .ok (.getfield 27, 3) := by decide +kernel
theorem dX4_readCondition_66 : decode cX4_readCondition 66 = .ok (.iconst 2, 1) := by decide +kernel
theorem dX4_readCondition_67 : decode cX4_readCondition 67 = .ok (.invokevirtual 53, 3) := by decide +kernel
theorem dX4_readCondition_70 : decode cX4_readCondition 70 = .ok (.ifCond .eq 42, 3) := by decide +kernel
theorem dX4_readCondition_73 : decode cX4_readCondition 73 = .ok (.iload_n 2, 1) := by decide +kernel
theorem dX4_readCondition_74 : decode cX4_readCondition 74 = .ok (.ifCond .eq 13, 3) := by decide +kernel
theorem dX4_readCondition_77 : decode cX4_readCondition 77 = .ok (.aload_n 0, 1) := by decide +kernel
theorem dX4_readCondition_78 : decode cX4_readCondition 78 = .ok (.getfield 12, 3) := by decide +kernel
theorem dX4_readCondition_81 : decode cX4_readCondition 81 = .ok (.sipush 20009, 3) := by decide +kernel
theorem dX4_readCondition_84 : decode cX4_readCondition 84 = .ok (.invokevirtual 86, 3) := by decide +kernel
theorem dX4_readCondition_87 : decode cX4_readCondition 87 = .ok (.iconst 1, 1) := by decide +kernel
theorem dX4_readCondition_88 : decode cX4_readCondition 88 = .ok (.istore_n 2, 1) := by decide +kernel
theorem dX4_readCondition_89 : decode cX4_readCondition 89 = .ok (.aload_n 0, 1) := by decide +kernel
theorem dX4_readCondition_90 : decode cX4_readCondition 90 = .ok (.getfield 27, 3) := by decide +kernel
theorem dX4_readCondition_93 : decode cX4_readCondition 93 = .ok (.invokevirtual 60, 3) := by decide +kernel
theorem dX4_readCondition_96 : decode cX4_readCondition 96 = .ok (.aload_n 0, 1) := by decide +kernel
theorem dX4_readCondition_97 : decode cX4_readCondition 97 = .ok (.iload_n 1, 1) := by decide +kernel
theorem dX4_readCondition_98 : decode cX4_readCondition 98 = .ok (.invokevirtual 83, 3) := by decide +kernel
theorem dX4_readCondition_101 : decode cX4_readCondition 101 = .ok (.ifCond .ne 5, 3) := by decide +kernel
theorem dX4_readCondition_104 : decode cX4_readCondition 104 = .ok (.iconst 0, 1) := by decide +kernel
theorem dX4_readCondition_105 : decode cX4_readCondition 105 = .ok (.ireturn, 1) := by decide +kernel
theorem dX4_readCondition_106 : decode cX4_readCondition 106 = .ok (.iinc 3 1, 3) := by decide +kernel
theorem dX4_readCondition_109 : decode cX4_readCondition 109 = .ok (.goto (-95), 3) := by decide +kernel
theorem dX4_readCondition_112 : decode cX4_readCondition 112 = .ok (.iload_n 2, 1) := by decide +kernel
theorem dX4_readCondition_113 : decode cX4_readCondition 113 = .ok (.ifCond .eq 13, 3) := by decide +kernel
theorem dX4_readCondition_116 : decode cX4_readCondition 116 = .ok (.aload_n 0, 1) := by decide +kernel
theorem dX4_readCondition_117 : decode cX4_readCondition 117 = .ok (.getfield 12, 3) := by decide +kernel
theorem dX4_readCondition_120 : decode cX4_readCondition 120 = .ok (.sipush 20009, 3) := by decide +kernel
theorem dX4_readCondition_123 : decode cX4_readCondition 123 = .ok (.invokevirtual 86, 3) := by decide +kernel
theorem dX4_readCondition_126 : decode cX4_readCondition 126 = .ok (.iconst 1, 1) := by decide +kernel
theorem dX4_readCondition_127 : decode cX4_readCondition 127 = .ok (.ireturn, 1) := by decide +kernel
theorem dX4_readClaim_0 : decode cX4_readClaim 0 = .ok (.aload_n 0, 1) := by decide +kernel
theorem dX4_readClaim_1 : decode cX4_readClaim 1 = .ok (.getfield 27, 3) := by decide +kernel
theorem dX4_readClaim_4 : decode cX4_readClaim 4 = .ok (.iconst 4, 1) := by decide +kernel
theorem dX4_readClaim_5 : decode cX4_readClaim 5 = .ok (.invokevirtual 53, 3) := by decide +kernel
theorem dX4_readClaim_8 : decode cX4_readClaim 8 = .ok (.istore_n 2, 1) := by decide +kernel
theorem dX4_readClaim_9 : decode cX4_readClaim 9 = .ok (.iload_n 2, 1) := by decide +kernel
theorem dX4_readClaim_10 : decode cX4_readClaim 10 = .ok (.ifCond .ne 15, 3) := by decide +kernel
theorem dX4_readClaim_13 : decode cX4_readClaim 13 = .ok (.aload_n 0, 1) := by decide +kernel
theorem dX4_readClaim_14 : decode cX4_readClaim 14 = .ok (.getfield 27, 3) := by decide +kernel
theorem dX4_readClaim_17 : decode cX4_readClaim 17 = .ok (.bipush 40, 2) := by decide +kernel
theorem dX4_readClaim_19 : decode cX4_readClaim 19 = .ok (.invokevirtual 90, 3) := by decide +kernel
theorem dX4_readClaim_22 : decode cX4_readClaim 22 = .ok (.ifCond .eq 81, 3) := by decide +kernel
theorem dX4_readClaim_25 : decode cX4_readClaim 25 = .ok (.iload_n 1, 1) := by decide +kernel
theorem dX4_readClaim_26 : decode cX4_readClaim 26 = .ok (.bipush 8, 2) := by decide +kernel
theorem dX4_readClaim_28 : decode cX4_readClaim 28 = .ok (.if_icmp .lt 12, 3) := by decide +kernel
theorem dX4_readClaim_31 : decode cX4_readClaim 31 = .ok (.aload_n 0, 1) := by decide +kernel
theorem dX4_readClaim_32 : decode cX4_readClaim 32 = .ok (.getfield 27, 3) := by decide +kernel
theorem dX4_readClaim_35 : decode cX4_readClaim 35 = .ok (.iconst 3, 1) := by decide +kernel
theorem dX4_readClaim_36 : decode cX4_readClaim 36 = .ok (.invokevirtual 57, 3) := by decide +kernel
theorem dX4_readClaim_39 : decode cX4_readClaim 39 = .ok (.ireturn, 1) := by decide +kernel
theorem dX4_readClaim_40 : decode cX4_readClaim 40 = .ok (.aload_n 0, 1) := by decide +kernel
theorem dX4_readClaim_41 : decode cX4_readClaim 41 = .ok (.getfield 27, 3) := by decide +kernel
theorem dX4_readClaim_44 : decode cX4_readClaim 44 = .ok (.invokevirtual 60, 3) := by decide +kernel
theorem dX4_readClaim_47 : decode cX4_readClaim 47 = .ok (.iload_n 2, 1) := by decide +kernel
theorem dX4_readClaim_48 : decode cX4_readClaim 48 = .ok (.ifCond .ne 31, 3) := by decide +kernel
theorem dX4_readClaim_51 : decode cX4_readClaim 51 = .ok (.aload_n 0, 1) := by decide +kernel
theorem dX4_readClaim_52 : decode cX4_readClaim 52 = .ok (.iload_n 1, 1) := by decide +kernel
theorem dX4_readClaim_53 : decode cX4_readClaim 53 = .ok (.iconst 1, 1) := by decide +kernel
theorem dX4_readClaim_54 : decode cX4_readClaim 54 = .ok (.iadd, 1) := by decide +kernel
theorem dX4_readClaim_55 : decode cX4_readClaim 55 = .ok (.invokevirtual 73, 3) := by decide +kernel
theorem dX4_readClaim_58 : decode cX4_readClaim 58 = .ok (.ifCond .eq 19, 3) := by decide +kernel
theorem dX4_readClaim_61 : decode cX4_readClaim 61 = .ok (.aload_n 0, 1) := by decide +kernel
theorem dX4_readClaim_62 : decode cX4_readClaim 62 = .ok (.getfield 27, 3) := by decide +kernel
theorem dX4_readClaim_65 : decode cX4_readClaim 65 = .ok (.bipush 41, 2) := by decide +kernel
theorem dX4_readClaim_67 : decode cX4_readClaim 67 = .ok (.invokevirtual 79, 3) := by decide +kernel
theorem dX4_readClaim_70 : decode cX4_readClaim 70 = .ok (.ifCond .eq 7, 3) := by decide +kernel
theorem dX4_readClaim_73 : decode cX4_readClaim 73 = .ok (.iconst 1, 1) := by decide +kernel
theorem dX4_readClaim_74 : decode cX4_readClaim 74 = .ok (.goto 4, 3) := by decide +kernel
theorem dX4_readClaim_77 : decode cX4_readClaim 77 = .ok (.iconst 0, 1) := by decide +kernel
theorem dX4_readClaim_78 : decode cX4_readClaim 78 = .ok (.ireturn, 1) := by decide +kernel
theorem dX4_readClaim_79 : decode cX4_readClaim 79 = .ok (.aload_n 0, 1) := by decide +kernel
theorem dX4_readClaim_80 : decode cX4_readClaim 80 = .ok (.iload_n 1, 1) := by decide +kernel
theorem dX4_readClaim_81 : decode cX4_readClaim 81 = .ok (.iconst 1, 1) := by decide +kernel
theorem dX4_readClaim_82 : decode cX4_readClaim 82 = .ok (.iadd, 1) := by decide +kernel
theorem dX4_readClaim_83 : decode cX4_readClaim 83 = .ok (.invokevirtual 83, 3) := by decide +kernel
theorem dX4_readClaim_86 : decode cX4_readClaim 86 = .ok (.ifCond .ne 5, 3) := by decide +kernel
theorem dX4_readClaim_89 : decode cX4_readClaim 89 = .ok (.iconst 0, 1) := by decide +kernel
theorem dX4_readClaim_90 : decode cX4_readClaim 90 = .ok (.ireturn, 1) := by decide +kernel
theorem dX4_readClaim_91 : decode cX4_readClaim 91 = .ok (.aload_n 0, 1) := by decide +kernel
theorem dX4_readClaim_92 : decode cX4_readClaim 92 = .ok (.getfield 12, 3) := by decide +kernel
theorem dX4_readClaim_95 : decode cX4_readClaim 95 = .ok (.sipush 20007, 3) := by decide +kernel
theorem dX4_readClaim_98 : decode cX4_readClaim 98 = .ok (.invokevirtual 86, 3) := by decide +kernel
theorem dX4_readClaim_101 : decode cX4_readClaim 101 = .ok (.iconst 1, 1) := by decide +kernel
theorem dX4_readClaim_102 : decode cX4_readClaim 102 = .ok (.ireturn, 1) := by decide +kernel
theorem dX4_readClaim_103 : decode cX4_readClaim 103 = .ok (.aload_n 0, 1) := by decide +kernel
theorem dX4_readClaim_104 : decode cX4_readClaim 104 = .ok (.invokevirtual 67, 3) := by decide +kernel
theorem dX4_readClaim_107 : decode cX4_readClaim 107 = .ok (.ifCond .ne 5, 3) := by decide +kernel
theorem dX4_readClaim_110 : decode cX4_readClaim 110 = .ok (.iconst 0, 1) := by decide +kernel
theorem dX4_readClaim_111 : decode cX4_readClaim 111 = .ok (.ireturn, 1) := by decide +kernel
theorem dX4_readClaim_112 : decode cX4_readClaim 112 = .ok (.sipush 20005, 3) := by decide +kernel
theorem dX4_readClaim_115 : decode cX4_readClaim 115 = .ok (.istore_n 3, 1) := by decide +kernel
theorem dX4_readClaim_116 : decode cX4_readClaim 116 = .ok (.aload_n 0, 1) := by decide +kernel
theorem dX4_readClaim_117 : decode cX4_readClaim 117 = .ok (.getfield 27, 3) := by decide +kernel
theorem dX4_readClaim_120 : decode cX4_readClaim 120 = .ok (.bipush 60, 2) := by decide +kernel
theorem dX4_readClaim_122 : decode cX4_readClaim 122 = .ok (.invokevirtual 90, 3) := by decide +kernel
theorem dX4_readClaim_125 : decode cX4_readClaim 125 = .ok (.ifCond .eq 10, 3) := by decide +kernel
theorem dX4_readClaim_128 : decode cX4_readClaim 128 = .ok (.sipush 20004, 3) := by decide +kernel
theorem dX4_readClaim_131 : decode cX4_readClaim 131 = .ok (.istore_n 3, 1) := by decide +kernel
theorem dX4_readClaim_132 : decode cX4_readClaim 132 = .ok (.goto 43, 3) := by decide +kernel
theorem dX4_readClaim_135 : decode cX4_readClaim 135 = .ok (.aload_n 0, 1) := by decide +kernel
theorem dX4_readClaim_136 : decode cX4_readClaim 136 = .ok (.getfield 27, 3) := by decide +kernel
theorem dX4_readClaim_139 : decode cX4_readClaim 139 = .ok (.bipush 62, 2) := by decide +kernel
theorem dX4_readClaim_141 : decode cX4_readClaim 141 = .ok (.invokevirtual 90, 3) := by decide +kernel
theorem dX4_readClaim_144 : decode cX4_readClaim 144 = .ok (.ifCond .eq 10, 3) := by decide +kernel
theorem dX4_readClaim_147 : decode cX4_readClaim 147 = .ok (.sipush 20006, 3) := by decide +kernel
theorem dX4_readClaim_150 : decode cX4_readClaim 150 = .ok (.istore_n 3, 1) := by decide +kernel
theorem dX4_readClaim_151 : decode cX4_readClaim 151 = .ok (.goto 24, 3) := by decide +kernel
theorem dX4_readClaim_154 : decode cX4_readClaim 154 = .ok (.aload_n 0, 1) := by decide +kernel
theorem dX4_readClaim_155 : decode cX4_readClaim 155 = .ok (.getfield 27, 3) := by decide +kernel
theorem dX4_readClaim_158 : decode cX4_readClaim 158 = .ok (.bipush 61, 2) := by decide +kernel
theorem dX4_readClaim_160 : decode cX4_readClaim 160 = .ok (.invokevirtual 90, 3) := by decide +kernel
theorem dX4_readClaim_163 : decode cX4_readClaim 163 = .ok (.ifCond .ne 12, 3) := by decide +kernel
theorem dX4_readClaim_166 : decode cX4_readClaim 166 = .ok (.aload_n 0, 1) := by decide +kernel
theorem dX4_readClaim_167 : decode cX4_readClaim 167 = .ok (.getfield 27, 3) := by decide +kernel
theorem dX4_readClaim_170 : decode cX4_readClaim 170 = .ok (.iconst 1, 1) := by decide +kernel
theorem dX4_readClaim_171 : decode cX4_readClaim 171 = .ok (.invokevirtual 57, 3) := by decide +kernel
theorem dX4_readClaim_174 : decode cX4_readClaim 174 = .ok (.ireturn, 1) := by decide +kernel
theorem dX4_readClaim_175 : decode cX4_readClaim 175 = .ok (.aload_n 0, 1) := by decide +kernel
theorem dX4_readClaim_176 : decode cX4_readClaim 176 = .ok (.getfield 27, 3) := by decide +kernel
theorem dX4_readClaim_179 : decode cX4_readClaim 179 = .ok (.invokevirtual 60, 3) := by decide +kernel
theorem dX4_readClaim_182 : decode cX4_readClaim 182 = .ok (.aload_n 0, 1) := by decide +kernel
theorem dX4_readClaim_183 : decode cX4_readClaim 183 = .ok (.invokevirtual 67, 3) := by decide +kernel
theorem dX4_readClaim_186 : decode cX4_readClaim 186 = .ok (.ifCond .ne 5, 3) := by decide +kernel
theorem dX4_readClaim_189 : decode cX4_readClaim 189 = .ok (.iconst 0, 1) := by decide +kernel
theorem dX4_readClaim_190 : decode cX4_readClaim 190 = .ok (.ireturn, 1) := by decide +kernel
theorem dX4_readClaim_191 : decode cX4_readClaim 191 = .ok (.aload_n 0, 1) := by decide +kernel
theorem dX4_readClaim_192 : decode cX4_readClaim 192 = .ok (.getfield 12, 3) := by decide +kernel
theorem dX4_readClaim_195 : decode cX4_readClaim 195 = .ok (.iload_n 3, 1) := by decide +kernel
theorem dX4_readClaim_196 : decode cX4_readClaim 196 = .ok (.invokevirtual 86, 3) := by decide +kernel
theorem dX4_readClaim_199 : decode cX4_readClaim 199 = .ok (.iconst 1, 1) := by decide +kernel
theorem dX4_readClaim_200 : decode cX4_readClaim 200 = .ok (.ireturn, 1) := by decide +kernel
theorem dX4_readValue_0 : decode cX4_readValue 0 = .ok (.aload_n 0, 1) := by decide +kernel
theorem dX4_readValue_1 : decode cX4_readValue 1 = .ok (.invokevirtual 93, 3) := by decide +kernel
theorem dX4_readValue_4 : decode cX4_readValue 4 = .ok (.ifCond .ne 5, 3) := by decide +kernel
theorem dX4_readValue_7 : decode cX4_readValue 7 = .ok (.iconst 0, 1) := by decide +kernel
theorem dX4_readValue_8 : decode cX4_readValue 8 = .ok (.ireturn, 1) := by decide +kernel
theorem dX4_readValue_9 : decode cX4_readValue 9 = .ok (.iconst (-1), 1) := by decide +kernel
theorem dX4_readValue_10 : decode cX4_readValue 10 = .ok (.istore_n 1, 1) := by decide +kernel
theorem dX4_readValue_11 : decode cX4_readValue 11 = .ok (.iconst 0, 1) := by decide +kernel
theorem dX4_readValue_12 : decode cX4_readValue 12 = .ok (.istore_n 2, 1) := by decide +kernel
theorem dX4_readValue_13 : decode cX4_readValue 13 = .ok (.iload_n 2, 1) := by decide +kernel
theorem dX4_readValue_14 : decode cX4_readValue 14 = .ok (.sipush 400, 3) := by decide +kernel
theorem dX4_readValue_17 : decode cX4_readValue 17 = .ok (.if_icmp .ge 147, 3) := by decide +kernel
theorem dX4_readValue_20 : decode cX4_readValue 20 = .ok (.aload_n 0, 1) := by decide +kernel
theorem dX4_readValue_21 : decode cX4_readValue 21 = .ok (.getfield 27, 3) := by decide +kernel
theorem dX4_readValue_24 : decode cX4_readValue 24 = .ok (.bipush 43, 2) := by decide +kernel
theorem dX4_readValue_26 : decode cX4_readValue 26 = .ok (.invokevirtual 90, 3) := by decide +kernel
theorem dX4_readValue_29 : decode cX4_readValue 29 = .ok (.istore_n 3, 1) := by decide +kernel
theorem dX4_readValue_30 : decode cX4_readValue 30 = .ok (.iload_n 3, 1) := by decide +kernel
theorem dX4_readValue_31 : decode cX4_readValue 31 = .ok (.ifCond .ne 15, 3) := by decide +kernel
theorem dX4_readValue_34 : decode cX4_readValue 34 = .ok (.aload_n 0, 1) := by decide +kernel
theorem dX4_readValue_35 : decode cX4_readValue 35 = .ok (.getfield 27, 3) := by decide +kernel
theorem dX4_readValue_38 : decode cX4_readValue 38 = .ok (.bipush 45, 2) := by decide +kernel
theorem dX4_readValue_40 : decode cX4_readValue 40 = .ok (.invokevirtual 90, 3) := by decide +kernel
theorem dX4_readValue_43 : decode cX4_readValue 43 = .ok (.ifCond .eq 46, 3) := by decide +kernel
theorem dX4_readValue_46 : decode cX4_readValue 46 = .ok (.iload_n 1, 1) := by decide +kernel
theorem dX4_readValue_47 : decode cX4_readValue 47 = .ok (.iconst (-1), 1) := by decide +kernel
theorem dX4_readValue_48 : decode cX4_readValue 48 = .ok (.if_icmp .eq 11, 3) := by decide +kernel
theorem dX4_readValue_51 : decode cX4_readValue 51 = .ok (.aload_n 0, 1) := by decide +kernel
theorem dX4_readValue_52 : decode cX4_readValue 52 = .ok (.getfield 12, 3) := by decide +kernel
theorem dX4_readValue_55 : decode cX4_readValue 55 = .ok (.iload_n 1, 1) := by decide +kernel
theorem dX4_readValue_56 : decode cX4_readValue 56 = .ok (.invokevirtual 86, 3) := by decide +kernel
theorem dX4_readValue_59 : decode cX4_readValue 59 = .ok (.iload_n 3, 1) := by decide +kernel
theorem dX4_readValue_60 : decode cX4_readValue 60 = .ok (.ifCond .eq 9, 3) := by decide +kernel
theorem dX4_readValue_63 : decode cX4_readValue 63 = .ok (.sipush 20000, 3) := by decide +kernel
theorem dX4_readValue_66 : decode cX4_readValue 66 = .ok (.goto 6, 3) := by decide +kernel
theorem dX4_readValue_69 : decode cX4_readValue 69 = .ok (.sipush 20001, 3) := by decide +kernel
theorem dX4_readValue_72 : decode cX4_readValue 72 = .ok (.istore_n 1, 1) := by decide +kernel
theorem dX4_readValue_73 : decode cX4_readValue 73 = .ok (.aload_n 0, 1) := by decide +kernel
theorem dX4_readValue_74 : decode cX4_readValue 74 = .ok (.getfield 27, 3) := by decide +kernel
theorem dX4_readValue_77 : decode cX4_readValue 77 = .ok (.invokevirtual 60, 3) := by decide +kernel
theorem dX4_readValue_80 : decode cX4_readValue 80 = .ok (.aload_n 0, 1) := by decide +kernel
theorem dX4_readValue_81 : decode cX4_readValue 81 = .ok (.invokevirtual 93, 3) := by decide +kernel
theorem dX4_readValue_84 : decode cX4_readValue 84 = .ok (.ifCond .ne 74, 3) := by decide +kernel
theorem dX4_readValue_87 : decode cX4_readValue 87 = .ok (.iconst 0, 1) := by decide +kernel
theorem dX4_readValue_88 : decode cX4_readValue 88 = .ok (.ireturn, 1) := by decide +kernel
theorem dX4_readValue_89 : decode cX4_readValue 89 = .ok (.aload_n 0, 1) := by decide +kernel
theorem dX4_readValue_90 : decode cX4_readValue 90 = .ok (.getfield 27, 3) := by decide +kernel
theorem dX4_readValue_93 : decode cX4_readValue 93 = .ok (.bipush 42, 2) := by decide +kernel
theorem dX4_readValue_95 : decode cX4_readValue 95 = .ok (.invokevirtual 90, 3) := by decide +kernel
theorem dX4_readValue_98 : decode cX4_readValue 98 = .ok (.ifCond .eq 32, 3) := by decide +kernel
theorem dX4_readValue_101 : decode cX4_readValue 101 = .ok (.aload_n 0, 1) := by decide +kernel
theorem dX4_readValue_102 : decode cX4_readValue 102 = .ok (.getfield 27, 3) := by decide +kernel
theorem dX4_readValue_105 : decode cX4_readValue 105 = .ok (.invokevirtual 60, 3) := by decide +kernel
theorem dX4_readValue_108 : decode cX4_readValue 108 = .ok (.aload_n 0, 1) := by decide +kernel
theorem dX4_readValue_109 : decode cX4_readValue 109 = .ok (.invokevirtual 93, 3) := by decide +kernel
theorem dX4_readValue_112 : decode cX4_readValue 112 = .ok (.ifCond .ne 5, 3) := by decide +kernel
theorem dX4_readValue_115 : decode cX4_readValue 115 = .ok (.iconst 0, 1) := by decide +kernel
theorem dX4_readValue_116 : decode cX4_readValue 116 = .ok (.ireturn, 1) := by decide +kernel
theorem dX4_readValue_117 : decode cX4_readValue 117 = .ok (.aload_n 0, 1) := by decide +kernel
theorem dX4_readValue_118 : decode cX4_readValue 118 = .ok (.getfield 12, 3) := by decide +kernel
theorem dX4_readValue_121 : decode cX4_readValue 121 = .ok (.sipush 20002, 3) := by decide +kernel
theorem dX4_readValue_124 : decode cX4_readValue 124 = .ok (.invokevirtual 86, 3) := by decide +kernel
theorem dX4_readValue_127 : decode cX4_readValue 127 = .ok (.goto 31, 3) := by decide +kernel
theorem dX4_readValue_130 : decode cX4_readValue 130 = .ok (.aload_n 0, 1) := by decide +kernel
theorem dX4_readValue_131 : decode cX4_readValue 131 = .ok (.getfield 27, 3) := by decide +kernel
theorem dX4_readValue_134 : decode cX4_readValue 134 = .ok (.bipush 47, 2) := by decide +kernel
theorem dX4_readValue_136 : decode cX4_readValue 136 = .ok (.invokevirtual 90, 3) := by decide +kernel
theorem dX4_readValue_139 : decode cX4_readValue 139 = .ok (.ifCond .eq 25, 3) := by decide +kernel
theorem dX4_readValue_142 : decode cX4_readValue 142 = .ok (.aload_n 0, 1) := by decide +kernel
theorem dX4_readValue_143 : decode cX4_readValue 143 = .ok (.getfield 27, 3) := by decide +kernel
theorem dX4_readValue_146 : decode cX4_readValue 146 = .ok (.invokevirtual 60, 3) := by decide +kernel
theorem dX4_readValue_149 : decode cX4_readValue 149 = .ok (.aload_n 0, 1) := by decide +kernel
theorem dX4_readValue_150 : decode cX4_readValue 150 = .ok (.invokevirtual 96, 3) := by decide +kernel
theorem dX4_readValue_153 : decode cX4_readValue 153 = .ok (.ifCond .ne 5, 3) := by decide +kernel
theorem dX4_readValue_156 : decode cX4_readValue 156 = .ok (.iconst 0, 1) := by decide +kernel
theorem dX4_readValue_157 : decode cX4_readValue 157 = .ok (.ireturn, 1) := by decide +kernel
theorem dX4_readValue_158 : decode cX4_readValue 158 = .ok (.iinc 2 1, 3) := by decide +kernel
theorem dX4_readValue_161 : decode cX4_readValue 161 = .ok (.goto (-148), 3) := by decide +kernel
theorem dX4_readValue_164 : decode cX4_readValue 164 = .ok (.iload_n 1, 1) := by decide +kernel
theorem dX4_readValue_165 : decode cX4_readValue 165 = .ok (.iconst (-1), 1) := by decide +kernel
theorem dX4_readValue_166 : decode cX4_readValue 166 = .ok (.if_icmp .eq 11, 3) := by decide +kernel
theorem dX4_readValue_169 : decode cX4_readValue 169 = .ok (.aload_n 0, 1) := by decide +kernel
theorem dX4_readValue_170 : decode cX4_readValue 170 = .ok (.getfield 12, 3) := by decide +kernel
theorem dX4_readValue_173 : decode cX4_readValue 173 = .ok (.iload_n 1, 1) := by decide +kernel
theorem dX4_readValue_174 : decode cX4_readValue 174 = .ok (.invokevirtual 86, 3) := by decide +kernel
theorem dX4_readValue_177 : decode cX4_readValue 177 = .ok (.iconst 1, 1) := by decide +kernel
theorem dX4_readValue_178 : decode cX4_readValue 178 = .ok (.ireturn, 1) := by decide +kernel
theorem dX4_readDivisor_0 : decode cX4_readDivisor 0 = .ok (.aload_n 0, 1) := by decide +kernel
theorem dX4_readDivisor_1 : decode cX4_readDivisor 1 = .ok (.getfield 27, 3) := by decide +kernel
theorem dX4_readDivisor_4 : decode cX4_readDivisor 4 = .ok (.invokevirtual 41, 3) := by decide +kernel
theorem dX4_readDivisor_7 : decode cX4_readDivisor 7 = .ok (.iconst 2, 1) := by decide +kernel
theorem dX4_readDivisor_8 : decode cX4_readDivisor 8 = .ok (.if_icmp .eq 12, 3) := by decide +kernel
theorem dX4_readDivisor_11 : decode cX4_readDivisor 11 = .ok (.aload_n 0, 1) := by decide +kernel
theorem dX4_readDivisor_12 : decode cX4_readDivisor 12 = .ok (.getfield 27, 3) := by decide +kernel
theorem dX4_readDivisor_15 : decode cX4_readDivisor 15 = .ok (.iconst 1, 1) := by decide +kernel
theorem dX4_readDivisor_16 : decode cX4_readDivisor 16 = .ok (.invokevirtual 57, 3) := by decide +kernel
theorem dX4_readDivisor_19 : decode cX4_readDivisor 19 = .ok (.ireturn, 1) := by decide +kernel
theorem dX4_readDivisor_20 : decode cX4_readDivisor 20 = .ok (.aload_n 0, 1) := by decide +kernel
theorem dX4_readDivisor_21 : decode cX4_readDivisor 21 = .ok (.getfield 27, 3) := by decide +kernel
theorem dX4_readDivisor_24 : decode cX4_readDivisor 24 = .ok (.invokevirtual 99, 3) := by decide +kernel
theorem dX4_readDivisor_27 : decode cX4_readDivisor 27 = .ok (.ifCond .ne 12, 3) := by decide +kernel
theorem dX4_readDivisor_30 : decode cX4_readDivisor 30 = .ok (.aload_n 0, 1) := by decide +kernel
theorem dX4_readDivisor_31 : decode cX4_readDivisor 31 = .ok (.getfield 27, 3) := by decide +kernel
theorem dX4_readDivisor_34 : decode cX4_readDivisor 34 = .ok (.iconst 2, 1) := by decide +kernel
theorem dX4_readDivisor_35 : decode cX4_readDivisor 35 = .ok (.invokevirtual 57, 3) := by decide +kernel
theorem dX4_readDivisor_38 : decode cX4_readDivisor 38 = .ok (.ireturn, 1) := by decide +kernel
theorem dX4_readDivisor_39 : decode cX4_readDivisor 39 = .ok (.aload_n 0, 1) := by decide +kernel
theorem dX4_readDivisor_40 : decode cX4_readDivisor 40 = .ok (.getfield 12, 3) := by decide +kernel
theorem dX4_readDivisor_43 : decode cX4_readDivisor 43 = .ok (.aload_n 0, 1) := by decide +kernel
theorem dX4_readDivisor_44 : decode cX4_readDivisor 44 = .ok (.getfield 27, 3) := by decide +kernel
theorem dX4_readDivisor_47 : decode cX4_readDivisor 47 = .ok (.invokevirtual 99, 3) := by decide +kernel
theorem dX4_readDivisor_50 : decode cX4_readDivisor 50 = .ok (.invokevirtual 86, 3) := by decide +kernel
theorem dX4_readDivisor_53 : decode cX4_readDivisor 53 = .ok (.aload_n 0, 1) := by decide +kernel
theorem dX4_readDivisor_54 : decode cX4_readDivisor 54 = .ok (.getfield 12, 3) := by decide +kernel
theorem dX4_readDivisor_57 : decode cX4_readDivisor 57 = .ok (.sipush 20003, 3) := by decide +kernel
theorem dX4_readDivisor_60 : decode cX4_readDivisor 60 = .ok (.invokevirtual 86, 3) := by decide +kernel
theorem dX4_readDivisor_63 : decode cX4_readDivisor 63 = .ok (.aload_n 0, 1) := by decide +kernel
theorem dX4_readDivisor_64 : decode cX4_readDivisor 64 = .ok (.getfield 27, 3) := by decide +kernel
theorem dX4_readDivisor_67 : decode cX4_readDivisor 67 = .ok (.invokevirtual 60, 3) := by decide +kernel
theorem dX4_readDivisor_70 : decode cX4_readDivisor 70 = .ok (.iconst 1, 1) := by decide +kernel
theorem dX4_readDivisor_71 : decode cX4_readDivisor 71 = .ok (.ireturn, 1) := by decide +kernel
theorem dX4_readUnit_0 : decode cX4_readUnit 0 = .ok (.aload_n 0, 1) := by decide +kernel
theorem dX4_readUnit_1 : decode cX4_readUnit 1 = .ok (.getfield 27, 3) := by decide +kernel
theorem dX4_readUnit_4 : decode cX4_readUnit 4 = .ok (.invokevirtual 41, 3) := by decide +kernel
theorem dX4_readUnit_7 : decode cX4_readUnit 7 = .ok (.iconst 2, 1) := by decide +kernel
theorem dX4_readUnit_8 : decode cX4_readUnit 8 = .ok (.if_icmp .ne 20, 3) := by decide +kernel
theorem dX4_readUnit_11 : decode cX4_readUnit 11 = .ok (.aload_n 0, 1) := by decide +kernel
theorem dX4_readUnit_12 : decode cX4_readUnit 12 = .ok (.getfield 12, 3) := by decide +kernel
theorem dX4_readUnit_15 : decode cX4_readUnit 15 = .ok (.aload_n 0, 1) := by decide +kernel
theorem dX4_readUnit_16 : decode cX4_readUnit 16 = .ok (.getfield 27, 3) := by decide +kernel
theorem dX4_readUnit_19 : decode cX4_readUnit 19 = .ok (.invokevirtual 99, 3) := by decide +kernel
theorem dX4_readUnit_22 : decode cX4_readUnit 22 = .ok (.invokevirtual 86, 3) := by decide +kernel
theorem dX4_readUnit_25 : decode cX4_readUnit 25 = .ok (.goto 57, 3) := by decide +kernel
theorem dX4_readUnit_28 : decode cX4_readUnit 28 = .ok (.aload_n 0, 1) := by decide +kernel
theorem dX4_readUnit_29 : decode cX4_readUnit 29 = .ok (.getfield 27, 3) := by decide +kernel
theorem dX4_readUnit_32 : decode cX4_readUnit 32 = .ok (.invokevirtual 41, 3) := by decide +kernel
theorem dX4_readUnit_35 : decode cX4_readUnit 35 = .ok (.iconst 1, 1) := by decide +kernel
theorem dX4_readUnit_36 : decode cX4_readUnit 36 = .ok (.if_icmp .ne 37, 3) := by decide +kernel
theorem dX4_readUnit_39 : decode cX4_readUnit 39 = .ok (.aload_n 0, 1) := by decide +kernel
theorem dX4_readUnit_40 : decode cX4_readUnit 40 = .ok (.getfield 27, 3) := by decide +kernel
theorem dX4_readUnit_43 : decode cX4_readUnit 43 = .ok (.invokevirtual 99, 3) := by decide +kernel
theorem dX4_readUnit_46 : decode cX4_readUnit 46 = .ok (.iconst 5, 1) := by decide +kernel
theorem dX4_readUnit_47 : decode cX4_readUnit 47 = .ok (.if_icmp .lt 26, 3) := by decide +kernel
theorem dX4_readUnit_50 : decode cX4_readUnit 50 = .ok (.aload_n 0, 1) := by decide +kernel
theorem dX4_readUnit_51 : decode cX4_readUnit 51 = .ok (.getfield 12, 3) := by decide +kernel
theorem dX4_readUnit_54 : decode cX4_readUnit 54 = .ok (.sipush 10000, 3) := by decide +kernel
theorem dX4_readUnit_57 : decode cX4_readUnit 57 = .ok (.aload_n 0, 1) := by decide +kernel
theorem dX4_readUnit_58 : decode cX4_readUnit 58 = .ok (.getfield 27, 3) := by decide +kernel
theorem dX4_readUnit_61 : decode cX4_readUnit 61 = .ok (.invokevirtual 99, 3) := by decide +kernel
theorem dX4_readUnit_64 : decode cX4_readUnit 64 = .ok (.iadd, 1) := by decide +kernel
theorem dX4_readUnit_65 : decode cX4_readUnit 65 = .ok (.iconst 5, 1) := by decide +kernel
theorem dX4_readUnit_66 : decode cX4_readUnit 66 = .ok (.isub, 1) := by decide +kernel
theorem dX4_readUnit_67 : decode cX4_readUnit 67 = .ok (.invokevirtual 86, 3) := by decide +kernel
theorem dX4_readUnit_70 : decode cX4_readUnit 70 = .ok (.goto 12, 3) := by decide +kernel
theorem dX4_readUnit_73 : decode cX4_readUnit 73 = .ok (.aload_n 0, 1) := by decide +kernel
theorem dX4_readUnit_74 : decode cX4_readUnit 74 = .ok (.getfield 27, 3) := by decide +kernel
theorem dX4_readUnit_77 : decode cX4_readUnit 77 = .ok (.iconst 1, 1) := by decide +kernel
theorem dX4_readUnit_78 : decode cX4_readUnit 78 = .ok (.invokevirtual 57, 3) := by decide +kernel
theorem dX4_readUnit_81 : decode cX4_readUnit 81 = .ok (.ireturn, 1) := by decide +kernel
theorem dX4_readUnit_82 : decode cX4_readUnit 82 = .ok (.aload_n 0, 1) := by decide +kernel
theorem dX4_readUnit_83 : decode cX4_readUnit 83 = .ok (.getfield 27, 3) := by decide +kernel
theorem dX4_readUnit_86 : decode cX4_readUnit 86 = .ok (.invokevirtual 60, 3) := by decide +kernel
theorem dX4_readUnit_89 : decode cX4_readUnit 89 = .ok (.iconst 1, 1) := by decide +kernel
theorem dX4_readUnit_90 : decode cX4_readUnit 90 = .ok (.ireturn, 1) := by decide +kernel
theorem dX5_init_0 : decode cX5_init 0 = .ok (.aload_n 0, 1) := by decide +kernel
theorem dX5_init_1 : decode cX5_init 1 = .ok (.invokespecial 3, 3) := by decide +kernel
theorem dX5_init_4 : decode cX5_init 4 = .ok (.aload_n 0, 1) := by decide +kernel
theorem dX5_init_5 : decode cX5_init 5 = .ok (.sipush 400, 3) := by decide +kernel
theorem dX5_init_8 : decode cX5_init 8 = .ok (.newarray .int, 2) := by decide +kernel
theorem dX5_init_10 : decode cX5_init 10 = .ok (.putfield 9, 3) := by decide +kernel
theorem dX5_init_13 : decode cX5_init 13 = .ok (.aload_n 0, 1) := by decide +kernel
theorem dX5_init_14 : decode cX5_init 14 = .ok (.iconst 0, 1) := by decide +kernel
theorem dX5_init_15 : decode cX5_init 15 = .ok (.putfield 15, 3) := by decide +kernel
theorem dX5_init_18 : decode cX5_init 18 = .ok (.aload_n 0, 1) := by decide +kernel
theorem dX5_init_19 : decode cX5_init 19 = .ok (.iconst 0, 1) := by decide +kernel
theorem dX5_init_20 : decode cX5_init 20 = .ok (.putfield 19, 3) := by decide +kernel
theorem dX5_init_23 : decode cX5_init 23 = .ok (.aload_n 0, 1) := by decide +kernel
theorem dX5_init_24 : decode cX5_init 24 = .ok (.iconst (-1), 1) := by decide +kernel
theorem dX5_init_25 : decode cX5_init 25 = .ok (.putfield 22, 3) := by decide +kernel
theorem dX5_init_28 : decode cX5_init 28 = .ok (.return_, 1) := by decide +kernel
theorem dX5_add_0 : decode cX5_add 0 = .ok (.bipush 24, 2) := by decide +kernel
theorem dX5_add_2 : decode cX5_add 2 = .ok (.istore_n 2, 1) := by decide +kernel
theorem dX5_add_3 : decode cX5_add 3 = .ok (.iload_n 2, 1) := by decide +kernel
theorem dX5_add_4 : decode cX5_add 4 = .ok (.ifCond .lt 46, 3) := by decide +kernel
theorem dX5_add_7 : decode cX5_add 7 = .ok (.aload_n 0, 1) := by decide +kernel
theorem dX5_add_8 : decode cX5_add 8 = .ok (.getfield 15, 3) := by decide +kernel
theorem dX5_add_11 : decode cX5_add 11 = .ok (.sipush 400, 3) := by decide +kernel
theorem dX5_add_14 : decode cX5_add 14 = .ok (.if_icmp .lt 4, 3) := by decide +kernel
theorem dX5_add_17 : decode cX5_add 17 = .ok (.return_, 1) := by decide +kernel
theorem dX5_add_18 : decode cX5_add 18 = .ok (.aload_n 0, 1) := by decide +kernel
theorem dX5_add_19 : decode cX5_add 19 = .ok (.getfield 9, 3) := by decide +kernel
theorem dX5_add_22 : decode cX5_add 22 = .ok (.aload_n 0, 1) := by decide +kernel
theorem dX5_add_23 : decode cX5_add 23 = .ok (.getfield 15, 3) := by decide +kernel
theorem dX5_add_26 : decode cX5_add 26 = .ok (.iload_n 1, 1) := by decide +kernel
theorem dX5_add_27 : decode cX5_add 27 = .ok (.iload_n 2, 1) := by decide +kernel
theorem dX5_add_28 : decode cX5_add 28 = .ok (.iushr, 1) := by decide +kernel
theorem dX5_add_29 : decode cX5_add 29 = .ok (.sipush 255, 3) := by decide +kernel
theorem dX5_add_32 : decode cX5_add 32 = .ok (.iand, 1) := by decide +kernel
theorem dX5_add_33 : decode cX5_add 33 = .ok (.iastore, 1) := by decide +kernel
theorem dX5_add_34 : decode cX5_add 34 = .ok (.aload_n 0, 1) := by decide +kernel
theorem dX5_add_35 : decode cX5_add 35 = .ok (.dup, 1) := by decide +kernel
theorem dX5_add_36 : decode cX5_add 36 = .ok (.getfield 15, 3) := by decide +kernel
theorem dX5_add_39 : decode cX5_add 39 = .ok (.iconst 1, 1) := by decide +kernel
theorem dX5_add_40 : decode cX5_add 40 = .ok (.iadd, 1) := by decide +kernel
theorem dX5_add_41 : decode cX5_add 41 = .ok (.putfield 15, 3) := by decide +kernel
theorem dX5_add_44 : decode cX5_add 44 = .ok (.iinc 2 (-8), 3) := by decide +kernel
theorem dX5_add_47 : decode cX5_add 47 = .ok (.goto (-44), 3) := by decide +kernel
theorem dX5_add_50 : decode cX5_add 50 = .ok (.return_, 1) := by decide +kernel
theorem dX5_faultless_0 : decode cX5_faultless 0 = .ok (.aload_n 0, 1) := by decide +kernel
theorem dX5_faultless_1 : decode cX5_faultless 1 = .ok (.iconst 0, 1) := by decide +kernel
theorem dX5_faultless_2 : decode cX5_faultless 2 = .ok (.putfield 19, 3) := by decide +kernel
theorem dX5_faultless_5 : decode cX5_faultless 5 = .ok (.aload_n 0, 1) := by decide +kernel
theorem dX5_faultless_6 : decode cX5_faultless 6 = .ok (.iconst (-1), 1) := by decide +kernel
theorem dX5_faultless_7 : decode cX5_faultless 7 = .ok (.putfield 22, 3) := by decide +kernel
theorem dX5_faultless_10 : decode cX5_faultless 10 = .ok (.return_, 1) := by decide +kernel
theorem dX5_wrong_0 : decode cX5_wrong 0 = .ok (.aload_n 0, 1) := by decide +kernel
theorem dX5_wrong_1 : decode cX5_wrong 1 = .ok (.iload_n 1, 1) := by decide +kernel
theorem dX5_wrong_2 : decode cX5_wrong 2 = .ok (.putfield 19, 3) := by decide +kernel
theorem dX5_wrong_5 : decode cX5_wrong 5 = .ok (.aload_n 0, 1) := by decide +kernel
theorem dX5_wrong_6 : decode cX5_wrong 6 = .ok (.iload_n 2, 1) := by decide +kernel
theorem dX5_wrong_7 : decode cX5_wrong 7 = .ok (.putfield 22, 3) := by decide +kernel
theorem dX5_wrong_10 : decode cX5_wrong 10 = .ok (.iconst (-1), 1) := by decide +kernel
theorem dX5_wrong_11 : decode cX5_wrong 11 = .ok (.ireturn, 1) := by decide +kernel
theorem dX6_init_0 : decode cX6_init 0 = .ok (.aload_n 0, 1) := by decide +kernel
theorem dX6_init_1 : decode cX6_init 1 = .ok (.invokespecial 3, 3) := by decide +kernel
theorem dX6_init_4 : decode cX6_init 4 = .ok (.aload_n 0, 1) := by decide +kernel
theorem dX6_init_5 : decode cX6_init 5 = .ok (.new 9, 3) := by decide +kernel
theorem dX6_init_8 : decode cX6_init 8 = .ok (.dup, 1) := by decide +kernel
theorem dX6_init_9 : decode cX6_init 9 = .ok (.invokespecial 11, 3) := by decide +kernel
theorem dX6_init_12 : decode cX6_init 12 = .ok (.putfield 12, 3) := by decide +kernel
theorem dX6_init_15 : decode cX6_init 15 = .ok (.aload_n 0, 1) := by decide +kernel
theorem dX6_init_16 : decode cX6_init 16 = .ok (.bipush 12, 2) := by decide +kernel
theorem dX6_init_18 : decode cX6_init 18 = .ok (.newarray .int, 2) := by decide +kernel
theorem dX6_init_20 : decode cX6_init 20 = .ok (.putfield 18, 3) := by decide +kernel
theorem dX6_init_23 : decode cX6_init 23 = .ok (.aload_n 0, 1) := by decide +kernel
theorem dX6_init_24 : decode cX6_init 24 = .ok (.sipush 144, 3) := by decide +kernel
theorem dX6_init_27 : decode cX6_init 27 = .ok (.newarray .int, 2) := by decide +kernel
theorem dX6_init_29 : decode cX6_init 29 = .ok (.putfield 22, 3) := by decide +kernel
theorem dX6_init_32 : decode cX6_init 32 = .ok (.aload_n 0, 1) := by decide +kernel
theorem dX6_init_33 : decode cX6_init 33 = .ok (.sipush 144, 3) := by decide +kernel
theorem dX6_init_36 : decode cX6_init 36 = .ok (.newarray .int, 2) := by decide +kernel
theorem dX6_init_38 : decode cX6_init 38 = .ok (.putfield 25, 3) := by decide +kernel
theorem dX6_init_41 : decode cX6_init 41 = .ok (.aload_n 0, 1) := by decide +kernel
theorem dX6_init_42 : decode cX6_init 42 = .ok (.sipush 144, 3) := by decide +kernel
theorem dX6_init_45 : decode cX6_init 45 = .ok (.newarray .int, 2) := by decide +kernel
theorem dX6_init_47 : decode cX6_init 47 = .ok (.putfield 28, 3) := by decide +kernel
theorem dX6_init_50 : decode cX6_init 50 = .ok (.aload_n 0, 1) := by decide +kernel
theorem dX6_init_51 : decode cX6_init 51 = .ok (.iconst 0, 1) := by decide +kernel
theorem dX6_init_52 : decode cX6_init 52 = .ok (.putfield 31, 3) := by decide +kernel
theorem dX6_init_55 : decode cX6_init 55 = .ok (.aload_n 0, 1) := by decide +kernel
theorem dX6_init_56 : decode cX6_init 56 = .ok (.sipush 320, 3) := by decide +kernel
theorem dX6_init_59 : decode cX6_init 59 = .ok (.newarray .int, 2) := by decide +kernel
theorem dX6_init_61 : decode cX6_init 61 = .ok (.putfield 35, 3) := by decide +kernel
theorem dX6_init_64 : decode cX6_init 64 = .ok (.aload_n 0, 1) := by decide +kernel
theorem dX6_init_65 : decode cX6_init 65 = .ok (.bipush 8, 2) := by decide +kernel
theorem dX6_init_67 : decode cX6_init 67 = .ok (.newarray .int, 2) := by decide +kernel
theorem dX6_init_69 : decode cX6_init 69 = .ok (.putfield 38, 3) := by decide +kernel
theorem dX6_init_72 : decode cX6_init 72 = .ok (.aload_n 0, 1) := by decide +kernel
theorem dX6_init_73 : decode cX6_init 73 = .ok (.bipush 8, 2) := by decide +kernel
theorem dX6_init_75 : decode cX6_init 75 = .ok (.newarray .int, 2) := by decide +kernel
theorem dX6_init_77 : decode cX6_init 77 = .ok (.putfield 41, 3) := by decide +kernel
theorem dX6_init_80 : decode cX6_init 80 = .ok (.return_, 1) := by decide +kernel
theorem dX6_become_0 : decode cX6_become 0 = .ok (.aload_n 0, 1) := by decide +kernel
theorem dX6_become_1 : decode cX6_become 1 = .ok (.getfield 12, 3) := by decide +kernel
theorem dX6_become_4 : decode cX6_become 4 = .ok (.aload_n 1, 1) := by decide +kernel
theorem dX6_become_5 : decode cX6_become 5 = .ok (.getfield 12, 3) := by decide +kernel
theorem dX6_become_8 : decode cX6_become 8 = .ok (.invokevirtual 44, 3) := by decide +kernel
theorem dX6_become_11 : decode cX6_become 11 = .ok (.aload_n 1, 1) := by decide +kernel
theorem dX6_become_12 : decode cX6_become 12 = .ok (.getfield 18, 3) := by decide +kernel
theorem dX6_become_15 : decode cX6_become 15 = .ok (.iconst 0, 1) := by decide +kernel
theorem dX6_become_16 : decode cX6_become 16 = .ok (.aload_n 0, 1) := by decide +kernel
theorem dX6_become_17 : decode cX6_become 17 = .ok (.getfield 18, 3) := by decide +kernel
theorem dX6_become_20 : decode cX6_become 20 = .ok (.iconst 0, 1) := by decide +kernel
theorem dX6_become_21 : decode cX6_become 21 = .ok (.aload_n 0, 1) := by decide +kernel
theorem dX6_become_22 : decode cX6_become 22 = .ok (.getfield 18, 3) := by decide +kernel
theorem dX6_become_25 : decode cX6_become 25 = .ok (.arraylength, 1) := by decide +kernel
theorem dX6_become_26 : decode cX6_become 26 = .ok (.invokestatic 48, 3) := by decide +kernel
theorem dX6_become_29 : decode cX6_become 29 = .ok (.aload_n 1, 1) := by decide +kernel
theorem dX6_become_30 : decode cX6_become 30 = .ok (.getfield 22, 3) := by decide +kernel
theorem dX6_become_33 : decode cX6_become 33 = .ok (.iconst 0, 1) := by decide +kernel
theorem dX6_become_34 : decode cX6_become 34 = .ok (.aload_n 0, 1) := by decide +kernel
theorem dX6_become_35 : decode cX6_become 35 = .ok (.getfield 22, 3) := by decide +kernel
theorem dX6_become_38 : decode cX6_become 38 = .ok (.iconst 0, 1) := by decide +kernel
theorem dX6_become_39 : decode cX6_become 39 = .ok (.aload_n 0, 1) := by decide +kernel
theorem dX6_become_40 : decode cX6_become 40 = .ok (.getfield 22, 3) := by decide +kernel
theorem dX6_become_43 : decode cX6_become 43 = .ok (.arraylength, 1) := by decide +kernel
theorem dX6_become_44 : decode cX6_become 44 = .ok (.invokestatic 48, 3) := by decide +kernel
theorem dX6_become_47 : decode cX6_become 47 = .ok (.aload_n 1, 1) := by decide +kernel
theorem dX6_become_48 : decode cX6_become 48 = .ok (.getfield 25, 3) := by decide +kernel
theorem dX6_become_51 : decode cX6_become 51 = .ok (.iconst 0, 1) := by decide +kernel
theorem dX6_become_52 : decode cX6_become 52 = .ok (.aload_n 0, 1) := by decide +kernel
theorem dX6_become_53 : decode cX6_become 53 = .ok (.getfield 25, 3) := by decide +kernel
theorem dX6_become_56 : decode cX6_become 56 = .ok (.iconst 0, 1) := by decide +kernel
theorem dX6_become_57 : decode cX6_become 57 = .ok (.aload_n 0, 1) := by decide +kernel
theorem dX6_become_58 : decode cX6_become 58 = .ok (.getfield 25, 3) := by decide +kernel
theorem dX6_become_61 : decode cX6_become 61 = .ok (.arraylength, 1) := by decide +kernel
theorem dX6_become_62 : decode cX6_become 62 = .ok (.invokestatic 48, 3) := by decide +kernel
theorem dX6_become_65 : decode cX6_become 65 = .ok (.aload_n 1, 1) := by decide +kernel
theorem dX6_become_66 : decode cX6_become 66 = .ok (.getfield 28, 3) := by decide +kernel
theorem dX6_become_69 : decode cX6_become 69 = .ok (.iconst 0, 1) := by decide +kernel
theorem dX6_become_70 : decode cX6_become 70 = .ok (.aload_n 0, 1) := by decide +kernel
theorem dX6_become_71 : decode cX6_become 71 = .ok (.getfield 28, 3) := by decide +kernel
theorem dX6_become_74 : decode cX6_become 74 = .ok (.iconst 0, 1) := by decide +kernel
theorem dX6_become_75 : decode cX6_become 75 = .ok (.aload_n 0, 1) := by decide +kernel
theorem dX6_become_76 : decode cX6_become 76 = .ok (.getfield 28, 3) := by decide +kernel
theorem dX6_become_79 : decode cX6_become 79 = .ok (.arraylength, 1) := by decide +kernel
theorem dX6_become_80 : decode cX6_become 80 = .ok (.invokestatic 48, 3) := by decide +kernel
theorem dX6_become_83 : decode cX6_become 83 = .ok (.aload_n 0, 1) := by decide +kernel
theorem dX6_become_84 : decode cX6_become 84 = .ok (.aload_n 1, 1) := by decide +kernel
theorem dX6_become_85 : decode cX6_become 85 = .ok (.getfield 31, 3) := by decide +kernel
theorem dX6_become_88 : decode cX6_become 88 = .ok (.putfield 31, 3) := by decide +kernel
theorem dX6_become_91 : decode cX6_become 91 = .ok (.aload_n 1, 1) := by decide +kernel
theorem dX6_become_92 : decode cX6_become 92 = .ok (.getfield 35, 3) := by decide +kernel
theorem dX6_become_95 : decode cX6_become 95 = .ok (.iconst 0, 1) := by decide +kernel
theorem dX6_become_96 : decode cX6_become 96 = .ok (.aload_n 0, 1) := by decide +kernel
theorem dX6_become_97 : decode cX6_become 97 = .ok (.getfield 35, 3) := by decide +kernel
theorem dX6_become_100 : decode cX6_become 100 = .ok (.iconst 0, 1) := by decide +kernel
theorem dX6_become_101 : decode cX6_become 101 = .ok (.aload_n 0, 1) := by decide +kernel
theorem dX6_become_102 : decode cX6_become 102 = .ok (.getfield 35, 3) := by decide +kernel
theorem dX6_become_105 : decode cX6_become 105 = .ok (.arraylength, 1) := by decide +kernel
theorem dX6_become_106 : decode cX6_become 106 = .ok (.invokestatic 48, 3) := by decide +kernel
theorem dX6_become_109 : decode cX6_become 109 = .ok (.aload_n 1, 1) := by decide +kernel
theorem dX6_become_110 : decode cX6_become 110 = .ok (.getfield 38, 3) := by decide +kernel
theorem dX6_become_113 : decode cX6_become 113 = .ok (.iconst 0, 1) := by decide +kernel
theorem dX6_become_114 : decode cX6_become 114 = .ok (.aload_n 0, 1) := by decide +kernel
theorem dX6_become_115 : decode cX6_become 115 = .ok (.getfield 38, 3) := by decide +kernel
theorem dX6_become_118 : decode cX6_become 118 = .ok (.iconst 0, 1) := by decide +kernel
theorem dX6_become_119 : decode cX6_become 119 = .ok (.aload_n 0, 1) := by decide +kernel
theorem dX6_become_120 : decode cX6_become 120 = .ok (.getfield 38, 3) := by decide +kernel
theorem dX6_become_123 : decode cX6_become 123 = .ok (.arraylength, 1) := by decide +kernel
theorem dX6_become_124 : decode cX6_become 124 = .ok (.invokestatic 48, 3) := by decide +kernel
theorem dX6_become_127 : decode cX6_become 127 = .ok (.aload_n 1, 1) := by decide +kernel
theorem dX6_become_128 : decode cX6_become 128 = .ok (.getfield 41, 3) := by decide +kernel
theorem dX6_become_131 : decode cX6_become 131 = .ok (.iconst 0, 1) := by decide +kernel
theorem dX6_become_132 : decode cX6_become 132 = .ok (.aload_n 0, 1) := by decide +kernel
theorem dX6_become_133 : decode cX6_become 133 = .ok (.getfield 41, 3) := by decide +kernel
theorem dX6_become_136 : decode cX6_become 136 = .ok (.iconst 0, 1) := by decide +kernel
theorem dX6_become_137 : decode cX6_become 137 = .ok (.aload_n 0, 1) := by decide +kernel
theorem dX6_become_138 : decode cX6_become 138 = .ok (.getfield 41, 3) := by decide +kernel
theorem dX6_become_141 : decode cX6_become 141 = .ok (.arraylength, 1) := by decide +kernel
theorem dX6_become_142 : decode cX6_become 142 = .ok (.invokestatic 48, 3) := by decide +kernel
theorem dX6_become_145 : decode cX6_become 145 = .ok (.return_, 1) := by decide +kernel
theorem dX6_heirByWill_0 : decode cX6_heirByWill 0 = .ok (.iload_n 1, 1) := by decide +kernel
theorem dX6_heirByWill_1 : decode cX6_heirByWill 1 = .ok (.bipush 12, 2) := by decide +kernel
theorem dX6_heirByWill_3 : decode cX6_heirByWill 3 = .ok (.imul, 1) := by decide +kernel
theorem dX6_heirByWill_4 : decode cX6_heirByWill 4 = .ok (.istore 4, 2) := by decide +kernel
theorem dX6_heirByWill_6 : decode cX6_heirByWill 6 = .ok (.iload 4, 2) := by decide +kernel
theorem dX6_heirByWill_8 : decode cX6_heirByWill 8 = .ok (.istore 5, 2) := by decide +kernel
theorem dX6_heirByWill_10 : decode cX6_heirByWill 10 = .ok (.iload 5, 2) := by decide +kernel
theorem dX6_heirByWill_12 : decode cX6_heirByWill 12 = .ok (.iload 4, 2) := by decide +kernel
theorem dX6_heirByWill_14 : decode cX6_heirByWill 14 = .ok (.aload_n 0, 1) := by decide +kernel
theorem dX6_heirByWill_15 : decode cX6_heirByWill 15 = .ok (.getfield 18, 3) := by decide +kernel
theorem dX6_heirByWill_18 : decode cX6_heirByWill 18 = .ok (.iload_n 1, 1) := by decide +kernel
theorem dX6_heirByWill_19 : decode cX6_heirByWill 19 = .ok (.iaload, 1) := by decide +kernel
theorem dX6_heirByWill_20 : decode cX6_heirByWill 20 = .ok (.iadd, 1) := by decide +kernel
theorem dX6_heirByWill_21 : decode cX6_heirByWill 21 = .ok (.if_icmp .ge 76, 3) := by decide +kernel
theorem dX6_heirByWill_24 : decode cX6_heirByWill 24 = .ok (.aload_n 0, 1) := by decide +kernel
theorem dX6_heirByWill_25 : decode cX6_heirByWill 25 = .ok (.getfield 22, 3) := by decide +kernel
theorem dX6_heirByWill_28 : decode cX6_heirByWill 28 = .ok (.iload 5, 2) := by decide +kernel
theorem dX6_heirByWill_30 : decode cX6_heirByWill 30 = .ok (.iaload, 1) := by decide +kernel
theorem dX6_heirByWill_31 : decode cX6_heirByWill 31 = .ok (.iload_n 2, 1) := by decide +kernel
theorem dX6_heirByWill_32 : decode cX6_heirByWill 32 = .ok (.ishr, 1) := by decide +kernel
theorem dX6_heirByWill_33 : decode cX6_heirByWill 33 = .ok (.iconst 1, 1) := by decide +kernel
theorem dX6_heirByWill_34 : decode cX6_heirByWill 34 = .ok (.iand, 1) := by decide +kernel
theorem dX6_heirByWill_35 : decode cX6_heirByWill 35 = .ok (.ifCond .ne 6, 3) := by decide +kernel
theorem dX6_heirByWill_38 : decode cX6_heirByWill 38 = .ok (.goto 53, 3) := by decide +kernel
theorem dX6_heirByWill_41 : decode cX6_heirByWill 41 = .ok (.aload_n 0, 1) := by decide +kernel
theorem dX6_heirByWill_42 : decode cX6_heirByWill 42 = .ok (.getfield 28, 3) := by decide +kernel
theorem dX6_heirByWill_45 : decode cX6_heirByWill 45 = .ok (.iload 5, 2) := by decide +kernel
theorem dX6_heirByWill_47 : decode cX6_heirByWill 47 = .ok (.iaload, 1) := by decide +kernel
theorem dX6_heirByWill_48 : decode cX6_heirByWill 48 = .ok (.istore 6, 2) := by decide +kernel
theorem dX6_heirByWill_50 : decode cX6_heirByWill 50 = .ok (.iload 6, 2) := by decide +kernel
theorem dX6_heirByWill_52 : decode cX6_heirByWill 52 = .ok (.iconst (-1), 1) := by decide +kernel
theorem dX6_heirByWill_53 : decode cX6_heirByWill 53 = .ok (.if_icmp .eq 15, 3) := by decide +kernel
theorem dX6_heirByWill_56 : decode cX6_heirByWill 56 = .ok (.iload_n 3, 1) := by decide +kernel
theorem dX6_heirByWill_57 : decode cX6_heirByWill 57 = .ok (.iload 6, 2) := by decide +kernel
theorem dX6_heirByWill_59 : decode cX6_heirByWill 59 = .ok (.ishr, 1) := by decide +kernel
theorem dX6_heirByWill_60 : decode cX6_heirByWill 60 = .ok (.iconst 1, 1) := by decide +kernel
theorem dX6_heirByWill_61 : decode cX6_heirByWill 61 = .ok (.iand, 1) := by decide +kernel
theorem dX6_heirByWill_62 : decode cX6_heirByWill 62 = .ok (.ifCond .ne 6, 3) := by decide +kernel
theorem dX6_heirByWill_65 : decode cX6_heirByWill 65 = .ok (.goto 26, 3) := by decide +kernel
theorem dX6_heirByWill_68 : decode cX6_heirByWill 68 = .ok (.iload_n 3, 1) := by decide +kernel
theorem dX6_heirByWill_69 : decode cX6_heirByWill 69 = .ok (.aload_n 0, 1) := by decide +kernel
theorem dX6_heirByWill_70 : decode cX6_heirByWill 70 = .ok (.getfield 25, 3) := by decide +kernel
theorem dX6_heirByWill_73 : decode cX6_heirByWill 73 = .ok (.iload 5, 2) := by decide +kernel
theorem dX6_heirByWill_75 : decode cX6_heirByWill 75 = .ok (.iaload, 1) := by decide +kernel
theorem dX6_heirByWill_76 : decode cX6_heirByWill 76 = .ok (.ishr, 1) := by decide +kernel
theorem dX6_heirByWill_77 : decode cX6_heirByWill 77 = .ok (.iconst 1, 1) := by decide +kernel
theorem dX6_heirByWill_78 : decode cX6_heirByWill 78 = .ok (.iand, 1) := by decide +kernel
theorem dX6_heirByWill_79 : decode cX6_heirByWill 79 = .ok (.iconst 1, 1) := by decide +kernel
theorem dX6_heirByWill_80 : decode cX6_heirByWill 80 = .ok (.if_icmp .ne 11, 3) := by decide +kernel
theorem dX6_heirByWill_83 : decode cX6_heirByWill 83 = .ok (.aload_n 0, 1) := by decide +kernel
theorem dX6_heirByWill_84 : decode cX6_heirByWill 84 = .ok (.getfield 25, 3) := by decide +kernel
theorem dX6_heirByWill_87 : decode cX6_heirByWill 87 = .ok (.iload 5, 2) := by decide +kernel
theorem dX6_heirByWill_89 : decode cX6_heirByWill 89 = .ok (.iaload, 1) := by decide +kernel
theorem dX6_heirByWill_90 : decode cX6_heirByWill 90 = .ok (.ireturn, 1) := by decide +kernel
theorem dX6_heirByWill_91 : decode cX6_heirByWill 91 = .ok (.iinc 5 1, 3) := by decide +kernel
theorem dX6_heirByWill_94 : decode cX6_heirByWill 94 = .ok (.goto (-84), 3) := by decide +kernel
theorem dX6_heirByWill_97 : decode cX6_heirByWill 97 = .ok (.iconst (-1), 1) := by decide +kernel
theorem dX6_heirByWill_98 : decode cX6_heirByWill 98 = .ok (.ireturn, 1) := by decide +kernel
theorem dX6_addDeed_0 : decode cX6_addDeed 0 = .ok (.aload_n 0, 1) := by decide +kernel
theorem dX6_addDeed_1 : decode cX6_addDeed 1 = .ok (.getfield 31, 3) := by decide +kernel
theorem dX6_addDeed_4 : decode cX6_addDeed 4 = .ok (.bipush 8, 2) := by decide +kernel
theorem dX6_addDeed_6 : decode cX6_addDeed 6 = .ok (.if_icmp .lt 5, 3) := by decide +kernel
theorem dX6_addDeed_9 : decode cX6_addDeed 9 = .ok (.iconst (-1), 1) := by decide +kernel
theorem dX6_addDeed_10 : decode cX6_addDeed 10 = .ok (.ireturn, 1) := by decide +kernel
theorem dX6_addDeed_11 : decode cX6_addDeed 11 = .ok (.iconst 0, 1) := by decide +kernel
theorem dX6_addDeed_12 : decode cX6_addDeed 12 = .ok (.istore_n 2, 1) := by decide +kernel
theorem dX6_addDeed_13 : decode cX6_addDeed 13 = .ok (.iconst 0, 1) := by decide +kernel
theorem dX6_addDeed_14 : decode cX6_addDeed 14 = .ok (.istore_n 3, 1) := by decide +kernel
theorem dX6_addDeed_15 : decode cX6_addDeed 15 = .ok (.iconst 0, 1) := by decide +kernel
theorem dX6_addDeed_16 : decode cX6_addDeed 16 = .ok (.istore 4, 2) := by decide +kernel
theorem dX6_addDeed_18 : decode cX6_addDeed 18 = .ok (.iload 4, 2) := by decide +kernel
theorem dX6_addDeed_20 : decode cX6_addDeed 20 = .ok (.aload_n 1, 1) := by decide +kernel
theorem dX6_addDeed_21 : decode cX6_addDeed 21 = .ok (.getfield 54, 3) := by decide +kernel
theorem dX6_addDeed_24 : decode cX6_addDeed 24 = .ok (.if_icmp .ge 90, 3) := by decide +kernel
theorem dX6_addDeed_27 : decode cX6_addDeed 27 = .ok (.aload_n 1, 1) := by decide +kernel
theorem dX6_addDeed_28 : decode cX6_addDeed 28 = .ok (.getfield 59, 3) := by decide +kernel
theorem dX6_addDeed_31 : decode cX6_addDeed 31 = .ok (.iload 4, 2) := by decide +kernel
theorem dX6_addDeed_33 : decode cX6_addDeed 33 = .ok (.iaload, 1) := by decide +kernel
theorem dX6_addDeed_34 : decode cX6_addDeed 34 = .ok (.istore 5, 2) := by decide +kernel
theorem dX6_addDeed_36 : decode cX6_addDeed 36 = .ok (.iload 5, 2) := by decide +kernel
theorem dX6_addDeed_38 : decode cX6_addDeed 38 = .ok (.invokestatic 62, 3) := by decide +kernel
theorem dX6_addDeed_41 : decode cX6_addDeed 41 = .ok (.ifCond .eq 6, 3) := by decide +kernel
theorem dX6_addDeed_44 : decode cX6_addDeed 44 = .ok (.goto 64, 3) := by decide +kernel
theorem dX6_addDeed_47 : decode cX6_addDeed 47 = .ok (.iload 5, 2) := by decide +kernel
theorem dX6_addDeed_49 : decode cX6_addDeed 49 = .ok (.invokestatic 66, 3) := by decide +kernel
theorem dX6_addDeed_52 : decode cX6_addDeed 52 = .ok (.istore 6, 2) := by decide +kernel
theorem dX6_addDeed_54 : decode cX6_addDeed 54 = .ok (.iload 6, 2) := by decide +kernel
theorem dX6_addDeed_56 : decode cX6_addDeed 56 = .ok (.iconst (-1), 1) := by decide +kernel
theorem dX6_addDeed_57 : decode cX6_addDeed 57 = .ok (.if_icmp .ne 11, 3) := by decide +kernel
theorem dX6_addDeed_60 : decode cX6_addDeed 60 = .ok (.aload_n 1, 1) := by decide +kernel
theorem dX6_addDeed_61 : decode cX6_addDeed 61 = .ok (.iconst 1, 1) := by decide +kernel
theorem dX6_addDeed_62 : decode cX6_addDeed 62 = .ok (.iload 4, 2) := by decide +kernel
theorem dX6_addDeed_64 : decode cX6_addDeed 64 = .ok (.invokevirtual 70, 3) := by decide +kernel
theorem dX6_addDeed_67 : decode cX6_addDeed 67 = .ok (.ireturn, 1) := by decide +kernel
theorem dX6_addDeed_68 : decode cX6_addDeed 68 = .ok (.iload_n 2, 1) := by decide +kernel
theorem dX6_addDeed_69 : decode cX6_addDeed 69 = .ok (.bipush 40, 2) := by decide +kernel
theorem dX6_addDeed_71 : decode cX6_addDeed 71 = .ok (.if_icmp .ne 11, 3) := by decide +kernel
theorem dX6_addDeed_74 : decode cX6_addDeed 74 = .ok (.aload_n 1, 1) := by decide +kernel
theorem dX6_addDeed_75 : decode cX6_addDeed 75 = .ok (.iconst 3, 1) := by decide +kernel
theorem dX6_addDeed_76 : decode cX6_addDeed 76 = .ok (.iload 4, 2) := by decide +kernel
theorem dX6_addDeed_78 : decode cX6_addDeed 78 = .ok (.invokevirtual 70, 3) := by decide +kernel
theorem dX6_addDeed_81 : decode cX6_addDeed 81 = .ok (.ireturn, 1) := by decide +kernel
theorem dX6_addDeed_82 : decode cX6_addDeed 82 = .ok (.aload_n 0, 1) := by decide +kernel
theorem dX6_addDeed_83 : decode cX6_addDeed 83 = .ok (.getfield 35, 3) := by decide +kernel
theorem dX6_addDeed_86 : decode cX6_addDeed 86 = .ok (.aload_n 0, 1) := by decide +kernel
theorem dX6_addDeed_87 : decode cX6_addDeed 87 = .ok (.getfield 31, 3) := by decide +kernel
theorem dX6_addDeed_90 : decode cX6_addDeed 90 = .ok (.bipush 40, 2) := by decide +kernel
theorem dX6_addDeed_92 : decode cX6_addDeed 92 = .ok (.imul, 1) := by decide +kernel
theorem dX6_addDeed_93 : decode cX6_addDeed 93 = .ok (.iload_n 2, 1) := by decide +kernel
theorem dX6_addDeed_94 : decode cX6_addDeed 94 = .ok (.iadd, 1) := by decide +kernel
theorem dX6_addDeed_95 : decode cX6_addDeed 95 = .ok (.iload 6, 2) := by decide +kernel
theorem dX6_addDeed_97 : decode cX6_addDeed 97 = .ok (.iastore, 1) := by decide +kernel
theorem dX6_addDeed_98 : decode cX6_addDeed 98 = .ok (.iload_n 3, 1) := by decide +kernel
theorem dX6_addDeed_99 : decode cX6_addDeed 99 = .ok (.iconst 1, 1) := by decide +kernel
theorem dX6_addDeed_100 : decode cX6_addDeed 100 = .ok (.iload 6, 2) := by decide +kernel
theorem dX6_addDeed_102 : decode cX6_addDeed 102 = .ok (.ishl, 1) := by decide +kernel
theorem dX6_addDeed_103 : decode cX6_addDeed 103 = .ok (.ior, 1) := by decide +kernel
theorem dX6_addDeed_104 : decode cX6_addDeed 104 = .ok (.istore_n 3, 1) := by decide +kernel
theorem dX6_addDeed_105 : decode cX6_addDeed 105 = .ok (.iinc 2 1, 3) := by decide +kernel
theorem dX6_addDeed_108 : decode cX6_addDeed 108 = .ok (.iinc 4 1, 3) := by decide +kernel
theorem dX6_addDeed_111 : decode cX6_addDeed 111 = .ok (.goto (-93), 3) := by decide +kernel
theorem dX6_addDeed_114 : decode cX6_addDeed 114 = .ok (.iload_n 2, 1) := by decide +kernel
theorem dX6_addDeed_115 : decode cX6_addDeed 115 = .ok (.ifCond .ne 13, 3) := by decide +kernel
theorem dX6_addDeed_118 : decode cX6_addDeed 118 = .ok (.aload_n 1, 1) := by decide +kernel
theorem dX6_addDeed_119 : decode cX6_addDeed 119 = .ok (.iconst 4, 1) := by decide +kernel
theorem dX6_addDeed_120 : decode cX6_addDeed 120 = .ok (.aload_n 1, 1) := by decide +kernel
theorem dX6_addDeed_121 : decode cX6_addDeed 121 = .ok (.getfield 54, 3) := by decide +kernel
theorem dX6_addDeed_124 : decode cX6_addDeed 124 = .ok (.invokevirtual 70, 3) := by decide +kernel
theorem dX6_addDeed_127 : decode cX6_addDeed 127 = .ok (.ireturn, 1) := by decide +kernel
theorem dX6_addDeed_128 : decode cX6_addDeed 128 = .ok (.aload_n 0, 1) := by decide +kernel
theorem dX6_addDeed_129 : decode cX6_addDeed 129 = .ok (.getfield 38, 3) := by decide +kernel
theorem dX6_addDeed_132 : decode cX6_addDeed 132 = .ok (.aload_n 0, 1) := by decide +kernel
theorem dX6_addDeed_133 : decode cX6_addDeed 133 = .ok (.getfield 31, 3) := by decide +kernel
theorem dX6_addDeed_136 : decode cX6_addDeed 136 = .ok (.iload_n 2, 1) := by decide +kernel
theorem dX6_addDeed_137 : decode cX6_addDeed 137 = .ok (.iastore, 1) := by decide +kernel
theorem dX6_addDeed_138 : decode cX6_addDeed 138 = .ok (.aload_n 0, 1) := by decide +kernel
theorem dX6_addDeed_139 : decode cX6_addDeed 139 = .ok (.getfield 41, 3) := by decide +kernel
theorem dX6_addDeed_142 : decode cX6_addDeed 142 = .ok (.aload_n 0, 1) := by decide +kernel
theorem dX6_addDeed_143 : decode cX6_addDeed 143 = .ok (.getfield 31, 3) := by decide +kernel
theorem dX6_addDeed_146 : decode cX6_addDeed 146 = .ok (.iload_n 3, 1) := by decide +kernel
theorem dX6_addDeed_147 : decode cX6_addDeed 147 = .ok (.iastore, 1) := by decide +kernel
theorem dX6_addDeed_148 : decode cX6_addDeed 148 = .ok (.aload_n 0, 1) := by decide +kernel
theorem dX6_addDeed_149 : decode cX6_addDeed 149 = .ok (.dup, 1) := by decide +kernel
theorem dX6_addDeed_150 : decode cX6_addDeed 150 = .ok (.getfield 31, 3) := by decide +kernel
theorem dX6_addDeed_153 : decode cX6_addDeed 153 = .ok (.iconst 1, 1) := by decide +kernel
theorem dX6_addDeed_154 : decode cX6_addDeed 154 = .ok (.iadd, 1) := by decide +kernel
theorem dX6_addDeed_155 : decode cX6_addDeed 155 = .ok (.putfield 31, 3) := by decide +kernel
theorem dX6_addDeed_158 : decode cX6_addDeed 158 = .ok (.aload_n 0, 1) := by decide +kernel
theorem dX6_addDeed_159 : decode cX6_addDeed 159 = .ok (.getfield 31, 3) := by decide +kernel
theorem dX6_addDeed_162 : decode cX6_addDeed 162 = .ok (.iconst 1, 1) := by decide +kernel
theorem dX6_addDeed_163 : decode cX6_addDeed 163 = .ok (.isub, 1) := by decide +kernel
theorem dX6_addDeed_164 : decode cX6_addDeed 164 = .ok (.ireturn, 1) := by decide +kernel
theorem dX7_init_0 : decode cX7_init 0 = .ok (.aload_n 0, 1) := by decide +kernel
theorem dX7_init_1 : decode cX7_init 1 = .ok (.invokespecial 3, 3) := by decide +kernel
theorem dX7_init_4 : decode cX7_init 4 = .ok (.aload_n 0, 1) := by decide +kernel
theorem dX7_init_5 : decode cX7_init 5 = .ok (.new 9, 3) := by decide +kernel
theorem dX7_init_8 : decode cX7_init 8 = .ok (.dup, 1) := by decide +kernel
theorem dX7_init_9 : decode cX7_init 9 = .ok (.invokespecial 11, 3) := by decide +kernel
theorem dX7_init_12 : decode cX7_init 12 = .ok (.putfield 12, 3) := by decide +kernel
theorem dX7_init_15 : decode cX7_init 15 = .ok (.aload_n 0, 1) := by decide +kernel
theorem dX7_init_16 : decode cX7_init 16 = .ok (.bipush 12, 2) := by decide +kernel
theorem dX7_init_18 : decode cX7_init 18 = .ok (.newarray .int, 2) := by decide +kernel
theorem dX7_init_20 : decode cX7_init 20 = .ok (.putfield 18, 3) := by decide +kernel
theorem dX7_init_23 : decode cX7_init 23 = .ok (.aload_n 0, 1) := by decide +kernel
theorem dX7_init_24 : decode cX7_init 24 = .ok (.iconst 5, 1) := by decide +kernel
theorem dX7_init_25 : decode cX7_init 25 = .ok (.newarray .int, 2) := by decide +kernel
theorem dX7_init_27 : decode cX7_init 27 = .ok (.putfield 22, 3) := by decide +kernel
theorem dX7_init_30 : decode cX7_init 30 = .ok (.aload_n 0, 1) := by decide +kernel
theorem dX7_init_31 : decode cX7_init 31 = .ok (.aload_n 1, 1) := by decide +kernel
theorem dX7_init_32 : decode cX7_init 32 = .ok (.putfield 25, 3) := by decide +kernel
theorem dX7_init_35 : decode cX7_init 35 = .ok (.aload_n 0, 1) := by decide +kernel
theorem dX7_init_36 : decode cX7_init 36 = .ok (.aload_n 2, 1) := by decide +kernel
theorem dX7_init_37 : decode cX7_init 37 = .ok (.putfield 28, 3) := by decide +kernel
theorem dX7_init_40 : decode cX7_init 40 = .ok (.return_, 1) := by decide +kernel
theorem dX7_ask_0 : decode cX7_ask 0 = .ok (.iconst 0, 1) := by decide +kernel
theorem dX7_ask_1 : decode cX7_ask 1 = .ok (.istore_n 2, 1) := by decide +kernel
theorem dX7_ask_2 : decode cX7_ask 2 = .ok (.iload_n 2, 1) := by decide +kernel
theorem dX7_ask_3 : decode cX7_ask 3 = .ok (.bipush 12, 2) := by decide +kernel
theorem dX7_ask_5 : decode cX7_ask 5 = .ok (.if_icmp .ge 20, 3) := by decide +kernel
theorem dX7_ask_8 : decode cX7_ask 8 = .ok (.aload_n 0, 1) := by decide +kernel
theorem dX7_ask_9 : decode cX7_ask 9 = .ok (.getfield 18, 3) := by decide +kernel
theorem dX7_ask_12 : decode cX7_ask 12 = .ok (.iload_n 2, 1) := by decide +kernel
theorem dX7_ask_13 : decode cX7_ask 13 = .ok (.aload_n 1, 1) := by decide +kernel
theorem dX7_ask_14 : decode cX7_ask 14 = .ok (.iload_n 2, 1) := by decide +kernel
theorem dX7_ask_15 : decode cX7_ask 15 = .ok (.invokevirtual 32, 3) := by decide +kernel
theorem dX7_ask_18 : decode cX7_ask 18 = .ok (.iastore, 1) := by decide +kernel
theorem dX7_ask_19 : decode cX7_ask 19 = .ok (.iinc 2 1, 3) := by decide +kernel
theorem dX7_ask_22 : decode cX7_ask 22 = .ok (.goto (-20), 3) := by decide +kernel
theorem dX7_ask_25 : decode cX7_ask 25 = .ok (.return_, 1) := by decide +kernel
theorem dX7_together_0 : decode cX7_together 0 = .ok (.iconst 0, 1) := by decide +kernel
theorem dX7_together_1 : decode cX7_together 1 = .ok (.istore_n 2, 1) := by decide +kernel
theorem dX7_together_2 : decode cX7_together 2 = .ok (.iconst 0, 1) := by decide +kernel
theorem dX7_together_3 : decode cX7_together 3 = .ok (.istore_n 3, 1) := by decide +kernel
theorem dX7_together_4 : decode cX7_together 4 = .ok (.iload_n 3, 1) := by decide +kernel
theorem dX7_together_5 : decode cX7_together 5 = .ok (.bipush 12, 2) := by decide +kernel
theorem dX7_together_7 : decode cX7_together 7 = .ok (.if_icmp .ge 27, 3) := by decide +kernel
theorem dX7_together_10 : decode cX7_together 10 = .ok (.iload_n 1, 1) := by decide +kernel
theorem dX7_together_11 : decode cX7_together 11 = .ok (.iload_n 3, 1) := by decide +kernel
theorem dX7_together_12 : decode cX7_together 12 = .ok (.ishr, 1) := by decide +kernel
theorem dX7_together_13 : decode cX7_together 13 = .ok (.iconst 1, 1) := by decide +kernel
theorem dX7_together_14 : decode cX7_together 14 = .ok (.iand, 1) := by decide +kernel
theorem dX7_together_15 : decode cX7_together 15 = .ok (.iconst 1, 1) := by decide +kernel
theorem dX7_together_16 : decode cX7_together 16 = .ok (.if_icmp .ne 12, 3) := by decide +kernel
theorem dX7_together_19 : decode cX7_together 19 = .ok (.iload_n 2, 1) := by decide +kernel
theorem dX7_together_20 : decode cX7_together 20 = .ok (.aload_n 0, 1) := by decide +kernel
theorem dX7_together_21 : decode cX7_together 21 = .ok (.getfield 18, 3) := by decide +kernel
theorem dX7_together_24 : decode cX7_together 24 = .ok (.iload_n 3, 1) := by decide +kernel
theorem dX7_together_25 : decode cX7_together 25 = .ok (.iaload, 1) := by decide +kernel
theorem dX7_together_26 : decode cX7_together 26 = .ok (.ior, 1) := by decide +kernel
theorem dX7_together_27 : decode cX7_together 27 = .ok (.istore_n 2, 1) := by decide +kernel
theorem dX7_together_28 : decode cX7_together 28 = .ok (.iinc 3 1, 3) := by decide +kernel
theorem dX7_together_31 : decode cX7_together 31 = .ok (.goto (-27), 3) := by decide +kernel
theorem dX7_together_34 : decode cX7_together 34 = .ok (.iload_n 2, 1) := by decide +kernel
theorem dX7_together_35 : decode cX7_together 35 = .ok (.ireturn, 1) := by decide +kernel
theorem dX7_writableTogether_0 : decode cX7_writableTogether 0 = .ok (.aload_n 0, 1) := by decide +kernel
theorem dX7_writableTogether_1 : decode cX7_writableTogether 1 = .ok (.aload_n 0, 1) := by decide +kernel
theorem dX7_writableTogether_2 : decode cX7_writableTogether 2 = .ok (.getfield 25, 3) := by decide +kernel
theorem dX7_writableTogether_5 : decode cX7_writableTogether 5 = .ok (.invokevirtual 36, 3) := by decide +kernel
theorem dX7_writableTogether_8 : decode cX7_writableTogether 8 = .ok (.aload_n 0, 1) := by decide +kernel
theorem dX7_writableTogether_9 : decode cX7_writableTogether 9 = .ok (.iload_n 1, 1) := by decide +kernel
theorem dX7_writableTogether_10 : decode cX7_writableTogether 10 = .ok (.invokevirtual 40, 3) := by decide +kernel
theorem dX7_writableTogether_13 : decode cX7_writableTogether 13 = .ok (.ireturn, 1) := by decide +kernel
theorem dX7_writers_0 : decode cX7_writers 0 = .ok (.aload_n 0, 1) := by decide +kernel
theorem dX7_writers_1 : decode cX7_writers 1 = .ok (.aload_n 0, 1) := by decide +kernel
theorem dX7_writers_2 : decode cX7_writers 2 = .ok (.getfield 25, 3) := by decide +kernel
theorem dX7_writers_5 : decode cX7_writers 5 = .ok (.invokevirtual 36, 3) := by decide +kernel
theorem dX7_writers_8 : decode cX7_writers 8 = .ok (.iconst 0, 1) := by decide +kernel
theorem dX7_writers_9 : decode cX7_writers 9 = .ok (.istore_n 2, 1) := by decide +kernel
theorem dX7_writers_10 : decode cX7_writers 10 = .ok (.iconst 0, 1) := by decide +kernel
theorem dX7_writers_11 : decode cX7_writers 11 = .ok (.istore_n 3, 1) := by decide +kernel
theorem dX7_writers_12 : decode cX7_writers 12 = .ok (.iload_n 3, 1) := by decide +kernel
theorem dX7_writers_13 : decode cX7_writers 13 = .ok (.aload_n 0, 1) := by decide +kernel
theorem dX7_writers_14 : decode cX7_writers 14 = .ok (.getfield 25, 3) := by decide +kernel
theorem dX7_writers_17 : decode cX7_writers 17 = .ok (.getfield 43, 3) := by decide +kernel
theorem dX7_writers_20 : decode cX7_writers 20 = .ok (.if_icmp .ge 28, 3) := by decide +kernel
theorem dX7_writers_23 : decode cX7_writers 23 = .ok (.iload_n 1, 1) := by decide +kernel
theorem dX7_writers_24 : decode cX7_writers 24 = .ok (.aload_n 0, 1) := by decide +kernel
theorem dX7_writers_25 : decode cX7_writers 25 = .ok (.getfield 18, 3) := by decide +kernel
theorem dX7_writers_28 : decode cX7_writers 28 = .ok (.iload_n 3, 1) := by decide +kernel
theorem dX7_writers_29 : decode cX7_writers 29 = .ok (.iaload, 1) := by decide +kernel
theorem dX7_writers_30 : decode cX7_writers 30 = .ok (.iconst (-1), 1) := by decide +kernel
theorem dX7_writers_31 : decode cX7_writers 31 = .ok (.ixor, 1) := by decide +kernel
theorem dX7_writers_32 : decode cX7_writers 32 = .ok (.iand, 1) := by decide +kernel
theorem dX7_writers_33 : decode cX7_writers 33 = .ok (.ifCond .ne 9, 3) := by decide +kernel
theorem dX7_writers_36 : decode cX7_writers 36 = .ok (.iload_n 2, 1) := by decide +kernel
theorem dX7_writers_37 : decode cX7_writers 37 = .ok (.iconst 1, 1) := by decide +kernel
theorem dX7_writers_38 : decode cX7_writers 38 = .ok (.iload_n 3, 1) := by decide +kernel
theorem dX7_writers_39 : decode cX7_writers 39 = .ok (.ishl, 1) := by decide +kernel
theorem dX7_writers_40 : decode cX7_writers 40 = .ok (.ior, 1) := by decide +kernel
theorem dX7_writers_41 : decode cX7_writers 41 = .ok (.istore_n 2, 1) := by decide +kernel
theorem dX7_writers_42 : decode cX7_writers 42 = .ok (.iinc 3 1, 3) := by decide +kernel
theorem dX7_writers_45 : decode cX7_writers 45 = .ok (.goto (-33), 3) := by decide +kernel
theorem dX7_writers_48 : decode cX7_writers 48 = .ok (.iload_n 2, 1) := by decide +kernel
theorem dX7_writers_49 : decode cX7_writers 49 = .ok (.ireturn, 1) := by decide +kernel
theorem dX7_signers_0 : decode cX7_signers 0 = .ok (.aload_n 0, 1) := by decide +kernel
theorem dX7_signers_1 : decode cX7_signers 1 = .ok (.aload_n 0, 1) := by decide +kernel
theorem dX7_signers_2 : decode cX7_signers 2 = .ok (.getfield 25, 3) := by decide +kernel
theorem dX7_signers_5 : decode cX7_signers 5 = .ok (.invokevirtual 36, 3) := by decide +kernel
theorem dX7_signers_8 : decode cX7_signers 8 = .ok (.iconst (-1), 1) := by decide +kernel
theorem dX7_signers_9 : decode cX7_signers 9 = .ok (.istore_n 2, 1) := by decide +kernel
theorem dX7_signers_10 : decode cX7_signers 10 = .ok (.bipush 13, 2) := by decide +kernel
theorem dX7_signers_12 : decode cX7_signers 12 = .ok (.istore_n 3, 1) := by decide +kernel
theorem dX7_signers_13 : decode cX7_signers 13 = .ok (.iconst 1, 1) := by decide +kernel
theorem dX7_signers_14 : decode cX7_signers 14 = .ok (.istore 4, 2) := by decide +kernel
theorem dX7_signers_16 : decode cX7_signers 16 = .ok (.iload 4, 2) := by decide +kernel
theorem dX7_signers_18 : decode cX7_signers 18 = .ok (.iconst 1, 1) := by decide +kernel
theorem dX7_signers_19 : decode cX7_signers 19 = .ok (.aload_n 0, 1) := by decide +kernel
theorem dX7_signers_20 : decode cX7_signers 20 = .ok (.getfield 25, 3) := by decide +kernel
theorem dX7_signers_23 : decode cX7_signers 23 = .ok (.getfield 43, 3) := by decide +kernel
theorem dX7_signers_26 : decode cX7_signers 26 = .ok (.ishl, 1) := by decide +kernel
theorem dX7_signers_27 : decode cX7_signers 27 = .ok (.if_icmp .ge 58, 3) := by decide +kernel
theorem dX7_signers_30 : decode cX7_signers 30 = .ok (.iload 4, 2) := by decide +kernel
theorem dX7_signers_32 : decode cX7_signers 32 = .ok (.aload_n 0, 1) := by decide +kernel
theorem dX7_signers_33 : decode cX7_signers 33 = .ok (.getfield 25, 3) := by decide +kernel
theorem dX7_signers_36 : decode cX7_signers 36 = .ok (.getfield 47, 3) := by decide +kernel
theorem dX7_signers_39 : decode cX7_signers 39 = .ok (.iconst (-1), 1) := by decide +kernel
theorem dX7_signers_40 : decode cX7_signers 40 = .ok (.ixor, 1) := by decide +kernel
theorem dX7_signers_41 : decode cX7_signers 41 = .ok (.iand, 1) := by decide +kernel
theorem dX7_signers_42 : decode cX7_signers 42 = .ok (.ifCond .ne 37, 3) := by decide +kernel
theorem dX7_signers_45 : decode cX7_signers 45 = .ok (.iload 4, 2) := by decide +kernel
theorem dX7_signers_47 : decode cX7_signers 47 = .ok (.invokestatic 50, 3) := by decide +kernel
theorem dX7_signers_50 : decode cX7_signers 50 = .ok (.iload_n 3, 1) := by decide +kernel
theorem dX7_signers_51 : decode cX7_signers 51 = .ok (.if_icmp .lt 6, 3) := by decide +kernel
theorem dX7_signers_54 : decode cX7_signers 54 = .ok (.goto 25, 3) := by decide +kernel
theorem dX7_signers_57 : decode cX7_signers 57 = .ok (.iload_n 1, 1) := by decide +kernel
theorem dX7_signers_58 : decode cX7_signers 58 = .ok (.aload_n 0, 1) := by decide +kernel
theorem dX7_signers_59 : decode cX7_signers 59 = .ok (.iload 4, 2) := by decide +kernel
theorem dX7_signers_61 : decode cX7_signers 61 = .ok (.invokevirtual 40, 3) := by decide +kernel
theorem dX7_signers_64 : decode cX7_signers 64 = .ok (.iconst (-1), 1) := by decide +kernel
theorem dX7_signers_65 : decode cX7_signers 65 = .ok (.ixor, 1) := by decide +kernel
theorem dX7_signers_66 : decode cX7_signers 66 = .ok (.iand, 1) := by decide +kernel
theorem dX7_signers_67 : decode cX7_signers 67 = .ok (.ifCond .ne 12, 3) := by decide +kernel
theorem dX7_signers_70 : decode cX7_signers 70 = .ok (.iload 4, 2) := by decide +kernel
theorem dX7_signers_72 : decode cX7_signers 72 = .ok (.istore_n 2, 1) := by decide +kernel
theorem dX7_signers_73 : decode cX7_signers 73 = .ok (.iload 4, 2) := by decide +kernel
theorem dX7_signers_75 : decode cX7_signers 75 = .ok (.invokestatic 50, 3) := by decide +kernel
theorem dX7_signers_78 : decode cX7_signers 78 = .ok (.istore_n 3, 1) := by decide +kernel
theorem dX7_signers_79 : decode cX7_signers 79 = .ok (.iinc 4 1, 3) := by decide +kernel
theorem dX7_signers_82 : decode cX7_signers 82 = .ok (.goto (-66), 3) := by decide +kernel
theorem dX7_signers_85 : decode cX7_signers 85 = .ok (.iload_n 2, 1) := by decide +kernel
theorem dX7_signers_86 : decode cX7_signers 86 = .ok (.ireturn, 1) := by decide +kernel
theorem dX7_needed_0 : decode cX7_needed 0 = .ok (.aload_n 0, 1) := by decide +kernel
theorem dX7_needed_1 : decode cX7_needed 1 = .ok (.aload_n 0, 1) := by decide +kernel
theorem dX7_needed_2 : decode cX7_needed 2 = .ok (.getfield 25, 3) := by decide +kernel
theorem dX7_needed_5 : decode cX7_needed 5 = .ok (.invokevirtual 36, 3) := by decide +kernel
theorem dX7_needed_8 : decode cX7_needed 8 = .ok (.iload_n 1, 1) := by decide +kernel
theorem dX7_needed_9 : decode cX7_needed 9 = .ok (.aload_n 0, 1) := by decide +kernel
theorem dX7_needed_10 : decode cX7_needed 10 = .ok (.aload_n 0, 1) := by decide +kernel
theorem dX7_needed_11 : decode cX7_needed 11 = .ok (.getfield 25, 3) := by decide +kernel
theorem dX7_needed_14 : decode cX7_needed 14 = .ok (.getfield 47, 3) := by decide +kernel
theorem dX7_needed_17 : decode cX7_needed 17 = .ok (.invokevirtual 40, 3) := by decide +kernel
theorem dX7_needed_20 : decode cX7_needed 20 = .ok (.iconst (-1), 1) := by decide +kernel
theorem dX7_needed_21 : decode cX7_needed 21 = .ok (.ixor, 1) := by decide +kernel
theorem dX7_needed_22 : decode cX7_needed 22 = .ok (.iand, 1) := by decide +kernel
theorem dX7_needed_23 : decode cX7_needed 23 = .ok (.ifCond .eq 5, 3) := by decide +kernel
theorem dX7_needed_26 : decode cX7_needed 26 = .ok (.iconst 0, 1) := by decide +kernel
theorem dX7_needed_27 : decode cX7_needed 27 = .ok (.ireturn, 1) := by decide +kernel
theorem dX7_needed_28 : decode cX7_needed 28 = .ok (.iconst 0, 1) := by decide +kernel
theorem dX7_needed_29 : decode cX7_needed 29 = .ok (.istore_n 2, 1) := by decide +kernel
theorem dX7_needed_30 : decode cX7_needed 30 = .ok (.iconst 0, 1) := by decide +kernel
theorem dX7_needed_31 : decode cX7_needed 31 = .ok (.istore_n 3, 1) := by decide +kernel
theorem dX7_needed_32 : decode cX7_needed 32 = .ok (.iload_n 3, 1) := by decide +kernel
theorem dX7_needed_33 : decode cX7_needed 33 = .ok (.aload_n 0, 1) := by decide +kernel
theorem dX7_needed_34 : decode cX7_needed 34 = .ok (.getfield 25, 3) := by decide +kernel
theorem dX7_needed_37 : decode cX7_needed 37 = .ok (.getfield 43, 3) := by decide +kernel
theorem dX7_needed_40 : decode cX7_needed 40 = .ok (.if_icmp .ge 43, 3) := by decide +kernel
theorem dX7_needed_43 : decode cX7_needed 43 = .ok (.aload_n 0, 1) := by decide +kernel
theorem dX7_needed_44 : decode cX7_needed 44 = .ok (.getfield 25, 3) := by decide +kernel
theorem dX7_needed_47 : decode cX7_needed 47 = .ok (.getfield 47, 3) := by decide +kernel
theorem dX7_needed_50 : decode cX7_needed 50 = .ok (.iconst 1, 1) := by decide +kernel
theorem dX7_needed_51 : decode cX7_needed 51 = .ok (.iload_n 3, 1) := by decide +kernel
theorem dX7_needed_52 : decode cX7_needed 52 = .ok (.ishl, 1) := by decide +kernel
theorem dX7_needed_53 : decode cX7_needed 53 = .ok (.iconst (-1), 1) := by decide +kernel
theorem dX7_needed_54 : decode cX7_needed 54 = .ok (.ixor, 1) := by decide +kernel
theorem dX7_needed_55 : decode cX7_needed 55 = .ok (.iand, 1) := by decide +kernel
theorem dX7_needed_56 : decode cX7_needed 56 = .ok (.istore 4, 2) := by decide +kernel
theorem dX7_needed_58 : decode cX7_needed 58 = .ok (.iload_n 1, 1) := by decide +kernel
theorem dX7_needed_59 : decode cX7_needed 59 = .ok (.aload_n 0, 1) := by decide +kernel
theorem dX7_needed_60 : decode cX7_needed 60 = .ok (.iload 4, 2) := by decide +kernel
theorem dX7_needed_62 : decode cX7_needed 62 = .ok (.invokevirtual 40, 3) := by decide +kernel
theorem dX7_needed_65 : decode cX7_needed 65 = .ok (.iconst (-1), 1) := by decide +kernel
theorem dX7_needed_66 : decode cX7_needed 66 = .ok (.ixor, 1) := by decide +kernel
theorem dX7_needed_67 : decode cX7_needed 67 = .ok (.iand, 1) := by decide +kernel
theorem dX7_needed_68 : decode cX7_needed 68 = .ok (.ifCond .eq 9, 3) := by decide +kernel
theorem dX7_needed_71 : decode cX7_needed 71 = .ok (.iload_n 2, 1) := by decide +kernel
theorem dX7_needed_72 : decode cX7_needed 72 = .ok (.iconst 1, 1) := by decide +kernel
theorem dX7_needed_73 : decode cX7_needed 73 = .ok (.iload_n 3, 1) := by decide +kernel
theorem dX7_needed_74 : decode cX7_needed 74 = .ok (.ishl, 1) := by decide +kernel
theorem dX7_needed_75 : decode cX7_needed 75 = .ok (.ior, 1) := by decide +kernel
theorem dX7_needed_76 : decode cX7_needed 76 = .ok (.istore_n 2, 1) := by decide +kernel
theorem dX7_needed_77 : decode cX7_needed 77 = .ok (.iinc 3 1, 3) := by decide +kernel
theorem dX7_needed_80 : decode cX7_needed 80 = .ok (.goto (-48), 3) := by decide +kernel
theorem dX7_needed_83 : decode cX7_needed 83 = .ok (.iload_n 2, 1) := by decide +kernel
theorem dX7_needed_84 : decode cX7_needed 84 = .ok (.ireturn, 1) := by decide +kernel
theorem dX7_speechless_0 : decode cX7_speechless 0 = .ok (.aload_n 0, 1) := by decide +kernel
theorem dX7_speechless_1 : decode cX7_speechless 1 = .ok (.aload_n 0, 1) := by decide +kernel
theorem dX7_speechless_2 : decode cX7_speechless 2 = .ok (.getfield 25, 3) := by decide +kernel
theorem dX7_speechless_5 : decode cX7_speechless 5 = .ok (.invokevirtual 36, 3) := by decide +kernel
theorem dX7_speechless_8 : decode cX7_speechless 8 = .ok (.iconst 0, 1) := by decide +kernel
theorem dX7_speechless_9 : decode cX7_speechless 9 = .ok (.istore_n 1, 1) := by decide +kernel
theorem dX7_speechless_10 : decode cX7_speechless 10 = .ok (.iconst 0, 1) := by decide +kernel
theorem dX7_speechless_11 : decode cX7_speechless 11 = .ok (.istore_n 2, 1) := by decide +kernel
theorem dX7_speechless_12 : decode cX7_speechless 12 = .ok (.iload_n 2, 1) := by decide +kernel
theorem dX7_speechless_13 : decode cX7_speechless 13 = .ok (.aload_n 0, 1) := by decide +kernel
theorem dX7_speechless_14 : decode cX7_speechless 14 = .ok (.getfield 25, 3) := by decide +kernel
theorem dX7_speechless_17 : decode cX7_speechless 17 = .ok (.getfield 43, 3) := by decide +kernel
theorem dX7_speechless_20 : decode cX7_speechless 20 = .ok (.if_icmp .ge 35, 3) := by decide +kernel
theorem dX7_speechless_23 : decode cX7_speechless 23 = .ok (.aload_n 0, 1) := by decide +kernel
theorem dX7_speechless_24 : decode cX7_speechless 24 = .ok (.getfield 25, 3) := by decide +kernel
theorem dX7_speechless_27 : decode cX7_speechless 27 = .ok (.iload_n 2, 1) := by decide +kernel
theorem dX7_speechless_28 : decode cX7_speechless 28 = .ok (.invokevirtual 55, 3) := by decide +kernel
theorem dX7_speechless_31 : decode cX7_speechless 31 = .ok (.ifCond .eq 18, 3) := by decide +kernel
theorem dX7_speechless_34 : decode cX7_speechless 34 = .ok (.aload_n 0, 1) := by decide +kernel
theorem dX7_speechless_35 : decode cX7_speechless 35 = .ok (.getfield 18, 3) := by decide +kernel
theorem dX7_speechless_38 : decode cX7_speechless 38 = .ok (.iload_n 2, 1) := by decide +kernel
theorem dX7_speechless_39 : decode cX7_speechless 39 = .ok (.iaload, 1) := by decide +kernel
theorem dX7_speechless_40 : decode cX7_speechless 40 = .ok (.ifCond .ne 9, 3) := by decide +kernel
theorem dX7_speechless_43 : decode cX7_speechless 43 = .ok (.iload_n 1, 1) := by decide +kernel
theorem dX7_speechless_44 : decode cX7_speechless 44 = .ok (.iconst 1, 1) := by decide +kernel
theorem dX7_speechless_45 : decode cX7_speechless 45 = .ok (.iload_n 2, 1) := by decide +kernel
theorem dX7_speechless_46 : decode cX7_speechless 46 = .ok (.ishl, 1) := by decide +kernel
theorem dX7_speechless_47 : decode cX7_speechless 47 = .ok (.ior, 1) := by decide +kernel
theorem dX7_speechless_48 : decode cX7_speechless 48 = .ok (.istore_n 1, 1) := by decide +kernel
theorem dX7_speechless_49 : decode cX7_speechless 49 = .ok (.iinc 2 1, 3) := by decide +kernel
theorem dX7_speechless_52 : decode cX7_speechless 52 = .ok (.goto (-40), 3) := by decide +kernel
theorem dX7_speechless_55 : decode cX7_speechless 55 = .ok (.iload_n 1, 1) := by decide +kernel
theorem dX7_speechless_56 : decode cX7_speechless 56 = .ok (.ireturn, 1) := by decide +kernel
theorem dX7_valueOf_0 : decode cX7_valueOf 0 = .ok (.aload_n 0, 1) := by decide +kernel
theorem dX7_valueOf_1 : decode cX7_valueOf 1 = .ok (.aload_n 0, 1) := by decide +kernel
theorem dX7_valueOf_2 : decode cX7_valueOf 2 = .ok (.getfield 25, 3) := by decide +kernel
theorem dX7_valueOf_5 : decode cX7_valueOf 5 = .ok (.invokevirtual 36, 3) := by decide +kernel
theorem dX7_valueOf_8 : decode cX7_valueOf 8 = .ok (.aload_n 0, 1) := by decide +kernel
theorem dX7_valueOf_9 : decode cX7_valueOf 9 = .ok (.iconst 1, 1) := by decide +kernel
theorem dX7_valueOf_10 : decode cX7_valueOf 10 = .ok (.iload_n 1, 1) := by decide +kernel
theorem dX7_valueOf_11 : decode cX7_valueOf 11 = .ok (.ishl, 1) := by decide +kernel
theorem dX7_valueOf_12 : decode cX7_valueOf 12 = .ok (.invokevirtual 59, 3) := by decide +kernel
theorem dX7_valueOf_15 : decode cX7_valueOf 15 = .ok (.aload_n 0, 1) := by decide +kernel
theorem dX7_valueOf_16 : decode cX7_valueOf 16 = .ok (.iconst 0, 1) := by decide +kernel
theorem dX7_valueOf_17 : decode cX7_valueOf 17 = .ok (.invokevirtual 59, 3) := by decide +kernel
theorem dX7_valueOf_20 : decode cX7_valueOf 20 = .ok (.isub, 1) := by decide +kernel
theorem dX7_valueOf_21 : decode cX7_valueOf 21 = .ok (.ireturn, 1) := by decide +kernel
theorem dX7_pairs_0 : decode cX7_pairs 0 = .ok (.iconst 0, 1) := by decide +kernel
theorem dX7_pairs_1 : decode cX7_pairs 1 = .ok (.istore_n 2, 1) := by decide +kernel
theorem dX7_pairs_2 : decode cX7_pairs 2 = .ok (.iconst 0, 1) := by decide +kernel
theorem dX7_pairs_3 : decode cX7_pairs 3 = .ok (.istore_n 3, 1) := by decide +kernel
theorem dX7_pairs_4 : decode cX7_pairs 4 = .ok (.iload_n 3, 1) := by decide +kernel
theorem dX7_pairs_5 : decode cX7_pairs 5 = .ok (.aload_n 0, 1) := by decide +kernel
theorem dX7_pairs_6 : decode cX7_pairs 6 = .ok (.getfield 25, 3) := by decide +kernel
theorem dX7_pairs_9 : decode cX7_pairs 9 = .ok (.getfield 43, 3) := by decide +kernel
theorem dX7_pairs_12 : decode cX7_pairs 12 = .ok (.if_icmp .ge 71, 3) := by decide +kernel
theorem dX7_pairs_15 : decode cX7_pairs 15 = .ok (.aload_n 0, 1) := by decide +kernel
theorem dX7_pairs_16 : decode cX7_pairs 16 = .ok (.getfield 25, 3) := by decide +kernel
theorem dX7_pairs_19 : decode cX7_pairs 19 = .ok (.iload_n 3, 1) := by decide +kernel
theorem dX7_pairs_20 : decode cX7_pairs 20 = .ok (.invokevirtual 55, 3) := by decide +kernel
theorem dX7_pairs_23 : decode cX7_pairs 23 = .ok (.ifCond .ne 6, 3) := by decide +kernel
theorem dX7_pairs_26 : decode cX7_pairs 26 = .ok (.goto 51, 3) := by decide +kernel
theorem dX7_pairs_29 : decode cX7_pairs 29 = .ok (.iconst 0, 1) := by decide +kernel
theorem dX7_pairs_30 : decode cX7_pairs 30 = .ok (.istore 4, 2) := by decide +kernel
theorem dX7_pairs_32 : decode cX7_pairs 32 = .ok (.iload 4, 2) := by decide +kernel
theorem dX7_pairs_34 : decode cX7_pairs 34 = .ok (.aload_n 0, 1) := by decide +kernel
theorem dX7_pairs_35 : decode cX7_pairs 35 = .ok (.getfield 28, 3) := by decide +kernel
theorem dX7_pairs_38 : decode cX7_pairs 38 = .ok (.getfield 62, 3) := by decide +kernel
theorem dX7_pairs_41 : decode cX7_pairs 41 = .ok (.if_icmp .ge 36, 3) := by decide +kernel
theorem dX7_pairs_44 : decode cX7_pairs 44 = .ok (.aload_n 0, 1) := by decide +kernel
theorem dX7_pairs_45 : decode cX7_pairs 45 = .ok (.getfield 28, 3) := by decide +kernel
theorem dX7_pairs_48 : decode cX7_pairs 48 = .ok (.getfield 67, 3) := by decide +kernel
theorem dX7_pairs_51 : decode cX7_pairs 51 = .ok (.iload 4, 2) := by decide +kernel
theorem dX7_pairs_53 : decode cX7_pairs 53 = .ok (.iaload, 1) := by decide +kernel
theorem dX7_pairs_54 : decode cX7_pairs 54 = .ok (.aload_n 0, 1) := by decide +kernel
theorem dX7_pairs_55 : decode cX7_pairs 55 = .ok (.getfield 18, 3) := by decide +kernel
theorem dX7_pairs_58 : decode cX7_pairs 58 = .ok (.iload_n 3, 1) := by decide +kernel
theorem dX7_pairs_59 : decode cX7_pairs 59 = .ok (.iaload, 1) := by decide +kernel
theorem dX7_pairs_60 : decode cX7_pairs 60 = .ok (.iload_n 1, 1) := by decide +kernel
theorem dX7_pairs_61 : decode cX7_pairs 61 = .ok (.ior, 1) := by decide +kernel
theorem dX7_pairs_62 : decode cX7_pairs 62 = .ok (.iconst (-1), 1) := by decide +kernel
theorem dX7_pairs_63 : decode cX7_pairs 63 = .ok (.ixor, 1) := by decide +kernel
theorem dX7_pairs_64 : decode cX7_pairs 64 = .ok (.iand, 1) := by decide +kernel
theorem dX7_pairs_65 : decode cX7_pairs 65 = .ok (.ifCond .ne 6, 3) := by decide +kernel
theorem dX7_pairs_68 : decode cX7_pairs 68 = .ok (.iinc 2 1, 3) := by decide +kernel
theorem dX7_pairs_71 : decode cX7_pairs 71 = .ok (.iinc 4 1, 3) := by decide +kernel
theorem dX7_pairs_74 : decode cX7_pairs 74 = .ok (.goto (-42), 3) := by decide +kernel
theorem dX7_pairs_77 : decode cX7_pairs 77 = .ok (.iinc 3 1, 3) := by decide +kernel
theorem dX7_pairs_80 : decode cX7_pairs 80 = .ok (.goto (-76), 3) := by decide +kernel
theorem dX7_pairs_83 : decode cX7_pairs 83 = .ok (.iload_n 2, 1) := by decide +kernel
theorem dX7_pairs_84 : decode cX7_pairs 84 = .ok (.ireturn, 1) := by decide +kernel
theorem dX7_spoken_0 : decode cX7_spoken 0 = .ok (.aload_n 0, 1) := by decide +kernel
theorem dX7_spoken_1 : decode cX7_spoken 1 = .ok (.aload_n 1, 1) := by decide +kernel
theorem dX7_spoken_2 : decode cX7_spoken 2 = .ok (.invokevirtual 36, 3) := by decide +kernel
theorem dX7_spoken_5 : decode cX7_spoken 5 = .ok (.iconst 0, 1) := by decide +kernel
theorem dX7_spoken_6 : decode cX7_spoken 6 = .ok (.istore_n 2, 1) := by decide +kernel
theorem dX7_spoken_7 : decode cX7_spoken 7 = .ok (.iconst 0, 1) := by decide +kernel
theorem dX7_spoken_8 : decode cX7_spoken 8 = .ok (.istore_n 3, 1) := by decide +kernel
theorem dX7_spoken_9 : decode cX7_spoken 9 = .ok (.iload_n 3, 1) := by decide +kernel
theorem dX7_spoken_10 : decode cX7_spoken 10 = .ok (.aload_n 0, 1) := by decide +kernel
theorem dX7_spoken_11 : decode cX7_spoken 11 = .ok (.getfield 28, 3) := by decide +kernel
theorem dX7_spoken_14 : decode cX7_spoken 14 = .ok (.getfield 62, 3) := by decide +kernel
theorem dX7_spoken_17 : decode cX7_spoken 17 = .ok (.if_icmp .ge 55, 3) := by decide +kernel
theorem dX7_spoken_20 : decode cX7_spoken 20 = .ok (.iconst 0, 1) := by decide +kernel
theorem dX7_spoken_21 : decode cX7_spoken 21 = .ok (.istore 4, 2) := by decide +kernel
theorem dX7_spoken_23 : decode cX7_spoken 23 = .ok (.iload 4, 2) := by decide +kernel
theorem dX7_spoken_25 : decode cX7_spoken 25 = .ok (.aload_n 1, 1) := by decide +kernel
theorem dX7_spoken_26 : decode cX7_spoken 26 = .ok (.getfield 43, 3) := by decide +kernel
theorem dX7_spoken_29 : decode cX7_spoken 29 = .ok (.if_icmp .ge 37, 3) := by decide +kernel
theorem dX7_spoken_32 : decode cX7_spoken 32 = .ok (.aload_n 0, 1) := by decide +kernel
theorem dX7_spoken_33 : decode cX7_spoken 33 = .ok (.getfield 28, 3) := by decide +kernel
theorem dX7_spoken_36 : decode cX7_spoken 36 = .ok (.getfield 67, 3) := by decide +kernel
theorem dX7_spoken_39 : decode cX7_spoken 39 = .ok (.iload_n 3, 1) := by decide +kernel
theorem dX7_spoken_40 : decode cX7_spoken 40 = .ok (.iaload, 1) := by decide +kernel
theorem dX7_spoken_41 : decode cX7_spoken 41 = .ok (.aload_n 0, 1) := by decide +kernel
theorem dX7_spoken_42 : decode cX7_spoken 42 = .ok (.getfield 18, 3) := by decide +kernel
theorem dX7_spoken_45 : decode cX7_spoken 45 = .ok (.iload 4, 2) := by decide +kernel
theorem dX7_spoken_47 : decode cX7_spoken 47 = .ok (.iaload, 1) := by decide +kernel
theorem dX7_spoken_48 : decode cX7_spoken 48 = .ok (.iconst (-1), 1) := by decide +kernel
theorem dX7_spoken_49 : decode cX7_spoken 49 = .ok (.ixor, 1) := by decide +kernel
theorem dX7_spoken_50 : decode cX7_spoken 50 = .ok (.iand, 1) := by decide +kernel
theorem dX7_spoken_51 : decode cX7_spoken 51 = .ok (.ifCond .ne 9, 3) := by decide +kernel
theorem dX7_spoken_54 : decode cX7_spoken 54 = .ok (.iload_n 2, 1) := by decide +kernel
theorem dX7_spoken_55 : decode cX7_spoken 55 = .ok (.iconst 1, 1) := by decide +kernel
theorem dX7_spoken_56 : decode cX7_spoken 56 = .ok (.iload_n 3, 1) := by decide +kernel
theorem dX7_spoken_57 : decode cX7_spoken 57 = .ok (.ishl, 1) := by decide +kernel
theorem dX7_spoken_58 : decode cX7_spoken 58 = .ok (.ior, 1) := by decide +kernel
theorem dX7_spoken_59 : decode cX7_spoken 59 = .ok (.istore_n 2, 1) := by decide +kernel
theorem dX7_spoken_60 : decode cX7_spoken 60 = .ok (.iinc 4 1, 3) := by decide +kernel
theorem dX7_spoken_63 : decode cX7_spoken 63 = .ok (.goto (-40), 3) := by decide +kernel
theorem dX7_spoken_66 : decode cX7_spoken 66 = .ok (.iinc 3 1, 3) := by decide +kernel
theorem dX7_spoken_69 : decode cX7_spoken 69 = .ok (.goto (-60), 3) := by decide +kernel
theorem dX7_spoken_72 : decode cX7_spoken 72 = .ok (.iload_n 2, 1) := by decide +kernel
theorem dX7_spoken_73 : decode cX7_spoken 73 = .ok (.ireturn, 1) := by decide +kernel
theorem dX7_silencedBy_0 : decode cX7_silencedBy 0 = .ok (.aload_n 0, 1) := by decide +kernel
theorem dX7_silencedBy_1 : decode cX7_silencedBy 1 = .ok (.getfield 12, 3) := by decide +kernel
theorem dX7_silencedBy_4 : decode cX7_silencedBy 4 = .ok (.aload_n 0, 1) := by decide +kernel
theorem dX7_silencedBy_5 : decode cX7_silencedBy 5 = .ok (.getfield 25, 3) := by decide +kernel
theorem dX7_silencedBy_8 : decode cX7_silencedBy 8 = .ok (.invokevirtual 70, 3) := by decide +kernel
theorem dX7_silencedBy_11 : decode cX7_silencedBy 11 = .ok (.aload_n 0, 1) := by decide +kernel
theorem dX7_silencedBy_12 : decode cX7_silencedBy 12 = .ok (.getfield 12, 3) := by decide +kernel
theorem dX7_silencedBy_15 : decode cX7_silencedBy 15 = .ok (.iload_n 1, 1) := by decide +kernel
theorem dX7_silencedBy_16 : decode cX7_silencedBy 16 = .ok (.aload_n 0, 1) := by decide +kernel
theorem dX7_silencedBy_17 : decode cX7_silencedBy 17 = .ok (.getfield 28, 3) := by decide +kernel
theorem dX7_silencedBy_20 : decode cX7_silencedBy 20 = .ok (.aconst_null, 1) := by decide +kernel
theorem dX7_silencedBy_21 : decode cX7_silencedBy 21 = .ok (.invokevirtual 73, 3) := by decide +kernel
theorem dX7_silencedBy_24 : decode cX7_silencedBy 24 = .ok (.aload_n 0, 1) := by decide +kernel
theorem dX7_silencedBy_25 : decode cX7_silencedBy 25 = .ok (.aload_n 0, 1) := by decide +kernel
theorem dX7_silencedBy_26 : decode cX7_silencedBy 26 = .ok (.getfield 25, 3) := by decide +kernel
theorem dX7_silencedBy_29 : decode cX7_silencedBy 29 = .ok (.invokevirtual 77, 3) := by decide +kernel
theorem dX7_silencedBy_32 : decode cX7_silencedBy 32 = .ok (.istore_n 2, 1) := by decide +kernel
theorem dX7_silencedBy_33 : decode cX7_silencedBy 33 = .ok (.iload_n 2, 1) := by decide +kernel
theorem dX7_silencedBy_34 : decode cX7_silencedBy 34 = .ok (.aload_n 0, 1) := by decide +kernel
theorem dX7_silencedBy_35 : decode cX7_silencedBy 35 = .ok (.aload_n 0, 1) := by decide +kernel
theorem dX7_silencedBy_36 : decode cX7_silencedBy 36 = .ok (.getfield 12, 3) := by decide +kernel
theorem dX7_silencedBy_39 : decode cX7_silencedBy 39 = .ok (.invokevirtual 77, 3) := by decide +kernel
theorem dX7_silencedBy_42 : decode cX7_silencedBy 42 = .ok (.iconst (-1), 1) := by decide +kernel
theorem dX7_silencedBy_43 : decode cX7_silencedBy 43 = .ok (.ixor, 1) := by decide +kernel
theorem dX7_silencedBy_44 : decode cX7_silencedBy 44 = .ok (.iand, 1) := by decide +kernel
theorem dX7_silencedBy_45 : decode cX7_silencedBy 45 = .ok (.ireturn, 1) := by decide +kernel
theorem dX7_heirOf_0 : decode cX7_heirOf 0 = .ok (.aload_n 0, 1) := by decide +kernel
theorem dX7_heirOf_1 : decode cX7_heirOf 1 = .ok (.getfield 12, 3) := by decide +kernel
theorem dX7_heirOf_4 : decode cX7_heirOf 4 = .ok (.aload_n 0, 1) := by decide +kernel
theorem dX7_heirOf_5 : decode cX7_heirOf 5 = .ok (.getfield 25, 3) := by decide +kernel
theorem dX7_heirOf_8 : decode cX7_heirOf 8 = .ok (.invokevirtual 70, 3) := by decide +kernel
theorem dX7_heirOf_11 : decode cX7_heirOf 11 = .ok (.aload_n 0, 1) := by decide +kernel
theorem dX7_heirOf_12 : decode cX7_heirOf 12 = .ok (.getfield 12, 3) := by decide +kernel
theorem dX7_heirOf_15 : decode cX7_heirOf 15 = .ok (.iload_n 1, 1) := by decide +kernel
theorem dX7_heirOf_16 : decode cX7_heirOf 16 = .ok (.aload_n 0, 1) := by decide +kernel
theorem dX7_heirOf_17 : decode cX7_heirOf 17 = .ok (.getfield 28, 3) := by decide +kernel
theorem dX7_heirOf_20 : decode cX7_heirOf 20 = .ok (.aconst_null, 1) := by decide +kernel
theorem dX7_heirOf_21 : decode cX7_heirOf 21 = .ok (.invokevirtual 73, 3) := by decide +kernel
theorem dX7_heirOf_24 : decode cX7_heirOf 24 = .ok (.aload_n 0, 1) := by decide +kernel
theorem dX7_heirOf_25 : decode cX7_heirOf 25 = .ok (.getfield 12, 3) := by decide +kernel
theorem dX7_heirOf_28 : decode cX7_heirOf 28 = .ok (.getfield 81, 3) := by decide +kernel
theorem dX7_heirOf_31 : decode cX7_heirOf 31 = .ok (.iload_n 2, 1) := by decide +kernel
theorem dX7_heirOf_32 : decode cX7_heirOf 32 = .ok (.iaload, 1) := by decide +kernel
theorem dX7_heirOf_33 : decode cX7_heirOf 33 = .ok (.ireturn, 1) := by decide +kernel
theorem dX7_firstDay_0 : decode cX7_firstDay 0 = .ok (.aload_n 0, 1) := by decide +kernel
theorem dX7_firstDay_1 : decode cX7_firstDay 1 = .ok (.getfield 12, 3) := by decide +kernel
theorem dX7_firstDay_4 : decode cX7_firstDay 4 = .ok (.aload_n 0, 1) := by decide +kernel
theorem dX7_firstDay_5 : decode cX7_firstDay 5 = .ok (.getfield 25, 3) := by decide +kernel
theorem dX7_firstDay_8 : decode cX7_firstDay 8 = .ok (.invokevirtual 70, 3) := by decide +kernel
theorem dX7_firstDay_11 : decode cX7_firstDay 11 = .ok (.iconst 0, 1) := by decide +kernel
theorem dX7_firstDay_12 : decode cX7_firstDay 12 = .ok (.istore_n 3, 1) := by decide +kernel
theorem dX7_firstDay_13 : decode cX7_firstDay 13 = .ok (.iload_n 3, 1) := by decide +kernel
theorem dX7_firstDay_14 : decode cX7_firstDay 14 = .ok (.sipush 400, 3) := by decide +kernel
theorem dX7_firstDay_17 : decode cX7_firstDay 17 = .ok (.if_icmp .gt 46, 3) := by decide +kernel
theorem dX7_firstDay_20 : decode cX7_firstDay 20 = .ok (.iload_n 2, 1) := by decide +kernel
theorem dX7_firstDay_21 : decode cX7_firstDay 21 = .ok (.aload_n 0, 1) := by decide +kernel
theorem dX7_firstDay_22 : decode cX7_firstDay 22 = .ok (.getfield 12, 3) := by decide +kernel
theorem dX7_firstDay_25 : decode cX7_firstDay 25 = .ok (.iload_n 1, 1) := by decide +kernel
theorem dX7_firstDay_26 : decode cX7_firstDay 26 = .ok (.invokevirtual 32, 3) := by decide +kernel
theorem dX7_firstDay_29 : decode cX7_firstDay 29 = .ok (.iconst (-1), 1) := by decide +kernel
theorem dX7_firstDay_30 : decode cX7_firstDay 30 = .ok (.ixor, 1) := by decide +kernel
theorem dX7_firstDay_31 : decode cX7_firstDay 31 = .ok (.iand, 1) := by decide +kernel
theorem dX7_firstDay_32 : decode cX7_firstDay 32 = .ok (.ifCond .ne 11, 3) := by decide +kernel
theorem dX7_firstDay_35 : decode cX7_firstDay 35 = .ok (.aload_n 0, 1) := by decide +kernel
theorem dX7_firstDay_36 : decode cX7_firstDay 36 = .ok (.getfield 12, 3) := by decide +kernel
theorem dX7_firstDay_39 : decode cX7_firstDay 39 = .ok (.getfield 84, 3) := by decide +kernel
theorem dX7_firstDay_42 : decode cX7_firstDay 42 = .ok (.ireturn, 1) := by decide +kernel
theorem dX7_firstDay_43 : decode cX7_firstDay 43 = .ok (.aload_n 0, 1) := by decide +kernel
theorem dX7_firstDay_44 : decode cX7_firstDay 44 = .ok (.getfield 12, 3) := by decide +kernel
theorem dX7_firstDay_47 : decode cX7_firstDay 47 = .ok (.aload_n 0, 1) := by decide +kernel
theorem dX7_firstDay_48 : decode cX7_firstDay 48 = .ok (.getfield 28, 3) := by decide +kernel
theorem dX7_firstDay_51 : decode cX7_firstDay 51 = .ok (.aconst_null, 1) := by decide +kernel
theorem dX7_firstDay_52 : decode cX7_firstDay 52 = .ok (.iconst 0, 1) := by decide +kernel
theorem dX7_firstDay_53 : decode cX7_firstDay 53 = .ok (.invokevirtual 87, 3) := by decide +kernel
theorem dX7_firstDay_56 : decode cX7_firstDay 56 = .ok (.pop, 1) := by decide +kernel
theorem dX7_firstDay_57 : decode cX7_firstDay 57 = .ok (.iinc 3 1, 3) := by decide +kernel
theorem dX7_firstDay_60 : decode cX7_firstDay 60 = .ok (.goto (-47), 3) := by decide +kernel
theorem dX7_firstDay_63 : decode cX7_firstDay 63 = .ok (.iconst (-1), 1) := by decide +kernel
theorem dX7_firstDay_64 : decode cX7_firstDay 64 = .ok (.ireturn, 1) := by decide +kernel
theorem dX7_bestHeir_0 : decode cX7_bestHeir 0 = .ok (.iconst (-1), 1) := by decide +kernel
theorem dX7_bestHeir_1 : decode cX7_bestHeir 1 = .ok (.istore_n 3, 1) := by decide +kernel
theorem dX7_bestHeir_2 : decode cX7_bestHeir 2 = .ok (.iconst (-1), 1) := by decide +kernel
theorem dX7_bestHeir_3 : decode cX7_bestHeir 3 = .ok (.istore 4, 2) := by decide +kernel
theorem dX7_bestHeir_5 : decode cX7_bestHeir 5 = .ok (.iconst 0, 1) := by decide +kernel
theorem dX7_bestHeir_6 : decode cX7_bestHeir 6 = .ok (.istore 5, 2) := by decide +kernel
theorem dX7_bestHeir_8 : decode cX7_bestHeir 8 = .ok (.iload 5, 2) := by decide +kernel
theorem dX7_bestHeir_10 : decode cX7_bestHeir 10 = .ok (.aload_n 0, 1) := by decide +kernel
theorem dX7_bestHeir_11 : decode cX7_bestHeir 11 = .ok (.getfield 25, 3) := by decide +kernel
theorem dX7_bestHeir_14 : decode cX7_bestHeir 14 = .ok (.getfield 43, 3) := by decide +kernel
theorem dX7_bestHeir_17 : decode cX7_bestHeir 17 = .ok (.if_icmp .ge 110, 3) := by decide +kernel
theorem dX7_bestHeir_20 : decode cX7_bestHeir 20 = .ok (.iload 5, 2) := by decide +kernel
theorem dX7_bestHeir_22 : decode cX7_bestHeir 22 = .ok (.iload_n 1, 1) := by decide +kernel
theorem dX7_bestHeir_23 : decode cX7_bestHeir 23 = .ok (.if_icmp .eq 98, 3) := by decide +kernel
theorem dX7_bestHeir_26 : decode cX7_bestHeir 26 = .ok (.aload_n 0, 1) := by decide +kernel
theorem dX7_bestHeir_27 : decode cX7_bestHeir 27 = .ok (.getfield 25, 3) := by decide +kernel
theorem dX7_bestHeir_30 : decode cX7_bestHeir 30 = .ok (.iload 5, 2) := by decide +kernel
theorem dX7_bestHeir_32 : decode cX7_bestHeir 32 = .ok (.invokevirtual 55, 3) := by decide +kernel
theorem dX7_bestHeir_35 : decode cX7_bestHeir 35 = .ok (.ifCond .ne 6, 3) := by decide +kernel
theorem dX7_bestHeir_38 : decode cX7_bestHeir 38 = .ok (.goto 83, 3) := by decide +kernel
theorem dX7_bestHeir_41 : decode cX7_bestHeir 41 = .ok (.aload_n 0, 1) := by decide +kernel
theorem dX7_bestHeir_42 : decode cX7_bestHeir 42 = .ok (.getfield 12, 3) := by decide +kernel
theorem dX7_bestHeir_45 : decode cX7_bestHeir 45 = .ok (.aload_n 0, 1) := by decide +kernel
theorem dX7_bestHeir_46 : decode cX7_bestHeir 46 = .ok (.getfield 25, 3) := by decide +kernel
theorem dX7_bestHeir_49 : decode cX7_bestHeir 49 = .ok (.invokevirtual 70, 3) := by decide +kernel
theorem dX7_bestHeir_52 : decode cX7_bestHeir 52 = .ok (.iconst 0, 1) := by decide +kernel
theorem dX7_bestHeir_53 : decode cX7_bestHeir 53 = .ok (.istore 6, 2) := by decide +kernel
theorem dX7_bestHeir_55 : decode cX7_bestHeir 55 = .ok (.iload 6, 2) := by decide +kernel
theorem dX7_bestHeir_57 : decode cX7_bestHeir 57 = .ok (.bipush 28, 2) := by decide +kernel
theorem dX7_bestHeir_59 : decode cX7_bestHeir 59 = .ok (.if_icmp .ge 35, 3) := by decide +kernel
theorem dX7_bestHeir_62 : decode cX7_bestHeir 62 = .ok (.aload_n 0, 1) := by decide +kernel
theorem dX7_bestHeir_63 : decode cX7_bestHeir 63 = .ok (.getfield 25, 3) := by decide +kernel
theorem dX7_bestHeir_66 : decode cX7_bestHeir 66 = .ok (.getfield 81, 3) := by decide +kernel
theorem dX7_bestHeir_69 : decode cX7_bestHeir 69 = .ok (.iload 6, 2) := by decide +kernel
theorem dX7_bestHeir_71 : decode cX7_bestHeir 71 = .ok (.iaload, 1) := by decide +kernel
theorem dX7_bestHeir_72 : decode cX7_bestHeir 72 = .ok (.iload_n 1, 1) := by decide +kernel
theorem dX7_bestHeir_73 : decode cX7_bestHeir 73 = .ok (.if_icmp .ne 15, 3) := by decide +kernel
theorem dX7_bestHeir_76 : decode cX7_bestHeir 76 = .ok (.aload_n 0, 1) := by decide +kernel
theorem dX7_bestHeir_77 : decode cX7_bestHeir 77 = .ok (.getfield 12, 3) := by decide +kernel
theorem dX7_bestHeir_80 : decode cX7_bestHeir 80 = .ok (.getfield 81, 3) := by decide +kernel
theorem dX7_bestHeir_83 : decode cX7_bestHeir 83 = .ok (.iload 6, 2) := by decide +kernel
theorem dX7_bestHeir_85 : decode cX7_bestHeir 85 = .ok (.iload 5, 2) := by decide +kernel
theorem dX7_bestHeir_87 : decode cX7_bestHeir 87 = .ok (.iastore, 1) := by decide +kernel
theorem dX7_bestHeir_88 : decode cX7_bestHeir 88 = .ok (.iinc 6 1, 3) := by decide +kernel
theorem dX7_bestHeir_91 : decode cX7_bestHeir 91 = .ok (.goto (-36), 3) := by decide +kernel
theorem dX7_bestHeir_94 : decode cX7_bestHeir 94 = .ok (.aload_n 0, 1) := by decide +kernel
theorem dX7_bestHeir_95 : decode cX7_bestHeir 95 = .ok (.aload_n 0, 1) := by decide +kernel
theorem dX7_bestHeir_96 : decode cX7_bestHeir 96 = .ok (.getfield 12, 3) := by decide +kernel
theorem dX7_bestHeir_99 : decode cX7_bestHeir 99 = .ok (.invokevirtual 77, 3) := by decide +kernel
theorem dX7_bestHeir_102 : decode cX7_bestHeir 102 = .ok (.invokestatic 50, 3) := by decide +kernel
theorem dX7_bestHeir_105 : decode cX7_bestHeir 105 = .ok (.istore 6, 2) := by decide +kernel
theorem dX7_bestHeir_107 : decode cX7_bestHeir 107 = .ok (.iload 6, 2) := by decide +kernel
theorem dX7_bestHeir_109 : decode cX7_bestHeir 109 = .ok (.iload 4, 2) := by decide +kernel
theorem dX7_bestHeir_111 : decode cX7_bestHeir 111 = .ok (.if_icmp .le 10, 3) := by decide +kernel
theorem dX7_bestHeir_114 : decode cX7_bestHeir 114 = .ok (.iload 6, 2) := by decide +kernel
theorem dX7_bestHeir_116 : decode cX7_bestHeir 116 = .ok (.istore 4, 2) := by decide +kernel
theorem dX7_bestHeir_118 : decode cX7_bestHeir 118 = .ok (.iload 5, 2) := by decide +kernel
theorem dX7_bestHeir_120 : decode cX7_bestHeir 120 = .ok (.istore_n 3, 1) := by decide +kernel
theorem dX7_bestHeir_121 : decode cX7_bestHeir 121 = .ok (.iinc 5 1, 3) := by decide +kernel
theorem dX7_bestHeir_124 : decode cX7_bestHeir 124 = .ok (.goto (-116), 3) := by decide +kernel
theorem dX7_bestHeir_127 : decode cX7_bestHeir 127 = .ok (.iload_n 2, 1) := by decide +kernel
theorem dX7_bestHeir_128 : decode cX7_bestHeir 128 = .ok (.ifCond .ne 7, 3) := by decide +kernel
theorem dX7_bestHeir_131 : decode cX7_bestHeir 131 = .ok (.iload_n 3, 1) := by decide +kernel
theorem dX7_bestHeir_132 : decode cX7_bestHeir 132 = .ok (.goto 5, 3) := by decide +kernel
theorem dX7_bestHeir_135 : decode cX7_bestHeir 135 = .ok (.iload 4, 2) := by decide +kernel
theorem dX7_bestHeir_137 : decode cX7_bestHeir 137 = .ok (.ireturn, 1) := by decide +kernel
theorem dX7_fewestWeddings_0 : decode cX7_fewestWeddings 0 = .ok (.iconst 0, 1) := by decide +kernel
theorem dX7_fewestWeddings_1 : decode cX7_fewestWeddings 1 = .ok (.istore 4, 2) := by decide +kernel
theorem dX7_fewestWeddings_3 : decode cX7_fewestWeddings 3 = .ok (.iload 4, 2) := by decide +kernel
theorem dX7_fewestWeddings_5 : decode cX7_fewestWeddings 5 = .ok (.aload_n 0, 1) := by decide +kernel
theorem dX7_fewestWeddings_6 : decode cX7_fewestWeddings 6 = .ok (.getfield 22, 3) := by decide +kernel
theorem dX7_fewestWeddings_9 : decode cX7_fewestWeddings 9 = .ok (.arraylength, 1) := by decide +kernel
theorem dX7_fewestWeddings_10 : decode cX7_fewestWeddings 10 = .ok (.if_icmp .ge 17, 3) := by decide +kernel
theorem dX7_fewestWeddings_13 : decode cX7_fewestWeddings 13 = .ok (.aload_n 0, 1) := by decide +kernel
theorem dX7_fewestWeddings_14 : decode cX7_fewestWeddings 14 = .ok (.getfield 22, 3) := by decide +kernel
theorem dX7_fewestWeddings_17 : decode cX7_fewestWeddings 17 = .ok (.iload 4, 2) := by decide +kernel
theorem dX7_fewestWeddings_19 : decode cX7_fewestWeddings 19 = .ok (.iconst (-1), 1) := by decide +kernel
theorem dX7_fewestWeddings_20 : decode cX7_fewestWeddings 20 = .ok (.iastore, 1) := by decide +kernel
theorem dX7_fewestWeddings_21 : decode cX7_fewestWeddings 21 = .ok (.iinc 4 1, 3) := by decide +kernel
theorem dX7_fewestWeddings_24 : decode cX7_fewestWeddings 24 = .ok (.goto (-21), 3) := by decide +kernel
theorem dX7_fewestWeddings_27 : decode cX7_fewestWeddings 27 = .ok (.aload_n 0, 1) := by decide +kernel
theorem dX7_fewestWeddings_28 : decode cX7_fewestWeddings 28 = .ok (.getfield 12, 3) := by decide +kernel
theorem dX7_fewestWeddings_31 : decode cX7_fewestWeddings 31 = .ok (.aload_n 0, 1) := by decide +kernel
theorem dX7_fewestWeddings_32 : decode cX7_fewestWeddings 32 = .ok (.getfield 25, 3) := by decide +kernel
theorem dX7_fewestWeddings_35 : decode cX7_fewestWeddings 35 = .ok (.invokevirtual 70, 3) := by decide +kernel
theorem dX7_fewestWeddings_38 : decode cX7_fewestWeddings 38 = .ok (.aload_n 0, 1) := by decide +kernel
theorem dX7_fewestWeddings_39 : decode cX7_fewestWeddings 39 = .ok (.iload_n 1, 1) := by decide +kernel
theorem dX7_fewestWeddings_40 : decode cX7_fewestWeddings 40 = .ok (.iload_n 2, 1) := by decide +kernel
theorem dX7_fewestWeddings_41 : decode cX7_fewestWeddings 41 = .ok (.invokevirtual 91, 3) := by decide +kernel
theorem dX7_fewestWeddings_44 : decode cX7_fewestWeddings 44 = .ok (.ifCond .eq 13, 3) := by decide +kernel
theorem dX7_fewestWeddings_47 : decode cX7_fewestWeddings 47 = .ok (.aload_n 0, 1) := by decide +kernel
theorem dX7_fewestWeddings_48 : decode cX7_fewestWeddings 48 = .ok (.getfield 22, 3) := by decide +kernel
theorem dX7_fewestWeddings_51 : decode cX7_fewestWeddings 51 = .ok (.iconst 0, 1) := by decide +kernel
theorem dX7_fewestWeddings_52 : decode cX7_fewestWeddings 52 = .ok (.iconst 0, 1) := by decide +kernel
theorem dX7_fewestWeddings_53 : decode cX7_fewestWeddings 53 = .ok (.iastore, 1) := by decide +kernel
theorem dX7_fewestWeddings_54 : decode cX7_fewestWeddings 54 = .ok (.goto 18, 3) := by decide +kernel
theorem dX7_fewestWeddings_57 : decode cX7_fewestWeddings 57 = .ok (.aload_n 0, 1) := by decide +kernel
theorem dX7_fewestWeddings_58 : decode cX7_fewestWeddings 58 = .ok (.iload_n 1, 1) := by decide +kernel
theorem dX7_fewestWeddings_59 : decode cX7_fewestWeddings 59 = .ok (.iload_n 2, 1) := by decide +kernel
theorem dX7_fewestWeddings_60 : decode cX7_fewestWeddings 60 = .ok (.invokevirtual 95, 3) := by decide +kernel
theorem dX7_fewestWeddings_63 : decode cX7_fewestWeddings 63 = .ok (.ifCond .ne 9, 3) := by decide +kernel
theorem dX7_fewestWeddings_66 : decode cX7_fewestWeddings 66 = .ok (.aload_n 0, 1) := by decide +kernel
theorem dX7_fewestWeddings_67 : decode cX7_fewestWeddings 67 = .ok (.iload_n 1, 1) := by decide +kernel
theorem dX7_fewestWeddings_68 : decode cX7_fewestWeddings 68 = .ok (.iload_n 2, 1) := by decide +kernel
theorem dX7_fewestWeddings_69 : decode cX7_fewestWeddings 69 = .ok (.invokevirtual 98, 3) := by decide +kernel
theorem dX7_fewestWeddings_72 : decode cX7_fewestWeddings 72 = .ok (.aload_n 0, 1) := by decide +kernel
theorem dX7_fewestWeddings_73 : decode cX7_fewestWeddings 73 = .ok (.getfield 22, 3) := by decide +kernel
theorem dX7_fewestWeddings_76 : decode cX7_fewestWeddings 76 = .ok (.iload_n 3, 1) := by decide +kernel
theorem dX7_fewestWeddings_77 : decode cX7_fewestWeddings 77 = .ok (.iaload, 1) := by decide +kernel
theorem dX7_fewestWeddings_78 : decode cX7_fewestWeddings 78 = .ok (.ireturn, 1) := by decide +kernel
theorem dX7_isWritable_0 : decode cX7_isWritable 0 = .ok (.iload_n 2, 1) := by decide +kernel
theorem dX7_isWritable_1 : decode cX7_isWritable 1 = .ok (.aload_n 0, 1) := by decide +kernel
theorem dX7_isWritable_2 : decode cX7_isWritable 2 = .ok (.getfield 12, 3) := by decide +kernel
theorem dX7_isWritable_5 : decode cX7_isWritable 5 = .ok (.iload_n 1, 1) := by decide +kernel
theorem dX7_isWritable_6 : decode cX7_isWritable 6 = .ok (.invokevirtual 32, 3) := by decide +kernel
theorem dX7_isWritable_9 : decode cX7_isWritable 9 = .ok (.iconst (-1), 1) := by decide +kernel
theorem dX7_isWritable_10 : decode cX7_isWritable 10 = .ok (.ixor, 1) := by decide +kernel
theorem dX7_isWritable_11 : decode cX7_isWritable 11 = .ok (.iand, 1) := by decide +kernel
theorem dX7_isWritable_12 : decode cX7_isWritable 12 = .ok (.ifCond .ne 7, 3) := by decide +kernel
theorem dX7_isWritable_15 : decode cX7_isWritable 15 = .ok (.iconst 1, 1) := by decide +kernel
theorem dX7_isWritable_16 : decode cX7_isWritable 16 = .ok (.goto 4, 3) := by decide +kernel
theorem dX7_isWritable_19 : decode cX7_isWritable 19 = .ok (.iconst 0, 1) := by decide +kernel
theorem dX7_isWritable_20 : decode cX7_isWritable 20 = .ok (.ireturn, 1) := by decide +kernel
theorem dX7_planOne_0 : decode cX7_planOne 0 = .ok (.iconst 0, 1) := by decide +kernel
theorem dX7_planOne_1 : decode cX7_planOne 1 = .ok (.istore_n 3, 1) := by decide +kernel
theorem dX7_planOne_2 : decode cX7_planOne 2 = .ok (.iload_n 3, 1) := by decide +kernel
theorem dX7_planOne_3 : decode cX7_planOne 3 = .ok (.aload_n 0, 1) := by decide +kernel
theorem dX7_planOne_4 : decode cX7_planOne 4 = .ok (.getfield 12, 3) := by decide +kernel
theorem dX7_planOne_7 : decode cX7_planOne 7 = .ok (.getfield 43, 3) := by decide +kernel
theorem dX7_planOne_10 : decode cX7_planOne 10 = .ok (.if_icmp .ge 108, 3) := by decide +kernel
theorem dX7_planOne_13 : decode cX7_planOne 13 = .ok (.iload_n 3, 1) := by decide +kernel
theorem dX7_planOne_14 : decode cX7_planOne 14 = .ok (.iconst 1, 1) := by decide +kernel
theorem dX7_planOne_15 : decode cX7_planOne 15 = .ok (.iadd, 1) := by decide +kernel
theorem dX7_planOne_16 : decode cX7_planOne 16 = .ok (.istore 4, 2) := by decide +kernel
theorem dX7_planOne_18 : decode cX7_planOne 18 = .ok (.iload 4, 2) := by decide +kernel
theorem dX7_planOne_20 : decode cX7_planOne 20 = .ok (.aload_n 0, 1) := by decide +kernel
theorem dX7_planOne_21 : decode cX7_planOne 21 = .ok (.getfield 12, 3) := by decide +kernel
theorem dX7_planOne_24 : decode cX7_planOne 24 = .ok (.getfield 43, 3) := by decide +kernel
theorem dX7_planOne_27 : decode cX7_planOne 27 = .ok (.if_icmp .ge 85, 3) := by decide +kernel
theorem dX7_planOne_30 : decode cX7_planOne 30 = .ok (.aload_n 0, 1) := by decide +kernel
theorem dX7_planOne_31 : decode cX7_planOne 31 = .ok (.getfield 12, 3) := by decide +kernel
theorem dX7_planOne_34 : decode cX7_planOne 34 = .ok (.iload_n 3, 1) := by decide +kernel
theorem dX7_planOne_35 : decode cX7_planOne 35 = .ok (.iload 4, 2) := by decide +kernel
theorem dX7_planOne_37 : decode cX7_planOne 37 = .ok (.invokevirtual 102, 3) := by decide +kernel
theorem dX7_planOne_40 : decode cX7_planOne 40 = .ok (.ifCond .ne 6, 3) := by decide +kernel
theorem dX7_planOne_43 : decode cX7_planOne 43 = .ok (.goto 63, 3) := by decide +kernel
theorem dX7_planOne_46 : decode cX7_planOne 46 = .ok (.aload_n 0, 1) := by decide +kernel
theorem dX7_planOne_47 : decode cX7_planOne 47 = .ok (.getfield 12, 3) := by decide +kernel
theorem dX7_planOne_50 : decode cX7_planOne 50 = .ok (.iload_n 3, 1) := by decide +kernel
theorem dX7_planOne_51 : decode cX7_planOne 51 = .ok (.iload 4, 2) := by decide +kernel
theorem dX7_planOne_53 : decode cX7_planOne 53 = .ok (.invokevirtual 105, 3) := by decide +kernel
theorem dX7_planOne_56 : decode cX7_planOne 56 = .ok (.aload_n 0, 1) := by decide +kernel
theorem dX7_planOne_57 : decode cX7_planOne 57 = .ok (.iload_n 1, 1) := by decide +kernel
theorem dX7_planOne_58 : decode cX7_planOne 58 = .ok (.iload_n 2, 1) := by decide +kernel
theorem dX7_planOne_59 : decode cX7_planOne 59 = .ok (.invokevirtual 91, 3) := by decide +kernel
theorem dX7_planOne_62 : decode cX7_planOne 62 = .ok (.istore 5, 2) := by decide +kernel
theorem dX7_planOne_64 : decode cX7_planOne 64 = .ok (.aload_n 0, 1) := by decide +kernel
theorem dX7_planOne_65 : decode cX7_planOne 65 = .ok (.getfield 12, 3) := by decide +kernel
theorem dX7_planOne_68 : decode cX7_planOne 68 = .ok (.iload_n 3, 1) := by decide +kernel
theorem dX7_planOne_69 : decode cX7_planOne 69 = .ok (.iload 4, 2) := by decide +kernel
theorem dX7_planOne_71 : decode cX7_planOne 71 = .ok (.invokevirtual 108, 3) := by decide +kernel
theorem dX7_planOne_74 : decode cX7_planOne 74 = .ok (.iload 5, 2) := by decide +kernel
theorem dX7_planOne_76 : decode cX7_planOne 76 = .ok (.ifCond .ne 6, 3) := by decide +kernel
theorem dX7_planOne_79 : decode cX7_planOne 79 = .ok (.goto 27, 3) := by decide +kernel
theorem dX7_planOne_82 : decode cX7_planOne 82 = .ok (.aload_n 0, 1) := by decide +kernel
theorem dX7_planOne_83 : decode cX7_planOne 83 = .ok (.getfield 22, 3) := by decide +kernel
theorem dX7_planOne_86 : decode cX7_planOne 86 = .ok (.iconst 0, 1) := by decide +kernel
theorem dX7_planOne_87 : decode cX7_planOne 87 = .ok (.iconst 1, 1) := by decide +kernel
theorem dX7_planOne_88 : decode cX7_planOne 88 = .ok (.iastore, 1) := by decide +kernel
theorem dX7_planOne_89 : decode cX7_planOne 89 = .ok (.aload_n 0, 1) := by decide +kernel
theorem dX7_planOne_90 : decode cX7_planOne 90 = .ok (.getfield 22, 3) := by decide +kernel
theorem dX7_planOne_93 : decode cX7_planOne 93 = .ok (.iconst 1, 1) := by decide +kernel
theorem dX7_planOne_94 : decode cX7_planOne 94 = .ok (.iload_n 3, 1) := by decide +kernel
theorem dX7_planOne_95 : decode cX7_planOne 95 = .ok (.iastore, 1) := by decide +kernel
theorem dX7_planOne_96 : decode cX7_planOne 96 = .ok (.aload_n 0, 1) := by decide +kernel
theorem dX7_planOne_97 : decode cX7_planOne 97 = .ok (.getfield 22, 3) := by decide +kernel
theorem dX7_planOne_100 : decode cX7_planOne 100 = .ok (.iconst 2, 1) := by decide +kernel
theorem dX7_planOne_101 : decode cX7_planOne 101 = .ok (.iload 4, 2) := by decide +kernel
theorem dX7_planOne_103 : decode cX7_planOne 103 = .ok (.iastore, 1) := by decide +kernel
theorem dX7_planOne_104 : decode cX7_planOne 104 = .ok (.iconst 1, 1) := by decide +kernel
theorem dX7_planOne_105 : decode cX7_planOne 105 = .ok (.ireturn, 1) := by decide +kernel
theorem dX7_planOne_106 : decode cX7_planOne 106 = .ok (.iinc 4 1, 3) := by decide +kernel
theorem dX7_planOne_109 : decode cX7_planOne 109 = .ok (.goto (-91), 3) := by decide +kernel
theorem dX7_planOne_112 : decode cX7_planOne 112 = .ok (.iinc 3 1, 3) := by decide +kernel
theorem dX7_planOne_115 : decode cX7_planOne 115 = .ok (.goto (-113), 3) := by decide +kernel
theorem dX7_planOne_118 : decode cX7_planOne 118 = .ok (.iconst 0, 1) := by decide +kernel
theorem dX7_planOne_119 : decode cX7_planOne 119 = .ok (.ireturn, 1) := by decide +kernel
theorem dX7_planTwo_0 : decode cX7_planTwo 0 = .ok (.iconst 0, 1) := by decide +kernel
theorem dX7_planTwo_1 : decode cX7_planTwo 1 = .ok (.istore_n 3, 1) := by decide +kernel
theorem dX7_planTwo_2 : decode cX7_planTwo 2 = .ok (.iload_n 3, 1) := by decide +kernel
theorem dX7_planTwo_3 : decode cX7_planTwo 3 = .ok (.aload_n 0, 1) := by decide +kernel
theorem dX7_planTwo_4 : decode cX7_planTwo 4 = .ok (.getfield 12, 3) := by decide +kernel
theorem dX7_planTwo_7 : decode cX7_planTwo 7 = .ok (.getfield 43, 3) := by decide +kernel
theorem dX7_planTwo_10 : decode cX7_planTwo 10 = .ok (.if_icmp .ge 108, 3) := by decide +kernel
theorem dX7_planTwo_13 : decode cX7_planTwo 13 = .ok (.iload_n 3, 1) := by decide +kernel
theorem dX7_planTwo_14 : decode cX7_planTwo 14 = .ok (.iconst 1, 1) := by decide +kernel
theorem dX7_planTwo_15 : decode cX7_planTwo 15 = .ok (.iadd, 1) := by decide +kernel
theorem dX7_planTwo_16 : decode cX7_planTwo 16 = .ok (.istore 4, 2) := by decide +kernel
theorem dX7_planTwo_18 : decode cX7_planTwo 18 = .ok (.iload 4, 2) := by decide +kernel
theorem dX7_planTwo_20 : decode cX7_planTwo 20 = .ok (.aload_n 0, 1) := by decide +kernel
theorem dX7_planTwo_21 : decode cX7_planTwo 21 = .ok (.getfield 12, 3) := by decide +kernel
theorem dX7_planTwo_24 : decode cX7_planTwo 24 = .ok (.getfield 43, 3) := by decide +kernel
theorem dX7_planTwo_27 : decode cX7_planTwo 27 = .ok (.if_icmp .ge 85, 3) := by decide +kernel
theorem dX7_planTwo_30 : decode cX7_planTwo 30 = .ok (.aload_n 0, 1) := by decide +kernel
theorem dX7_planTwo_31 : decode cX7_planTwo 31 = .ok (.getfield 12, 3) := by decide +kernel
theorem dX7_planTwo_34 : decode cX7_planTwo 34 = .ok (.iload_n 3, 1) := by decide +kernel
theorem dX7_planTwo_35 : decode cX7_planTwo 35 = .ok (.iload 4, 2) := by decide +kernel
theorem dX7_planTwo_37 : decode cX7_planTwo 37 = .ok (.invokevirtual 102, 3) := by decide +kernel
theorem dX7_planTwo_40 : decode cX7_planTwo 40 = .ok (.ifCond .ne 6, 3) := by decide +kernel
theorem dX7_planTwo_43 : decode cX7_planTwo 43 = .ok (.goto 63, 3) := by decide +kernel
theorem dX7_planTwo_46 : decode cX7_planTwo 46 = .ok (.aload_n 0, 1) := by decide +kernel
theorem dX7_planTwo_47 : decode cX7_planTwo 47 = .ok (.getfield 12, 3) := by decide +kernel
theorem dX7_planTwo_50 : decode cX7_planTwo 50 = .ok (.iload_n 3, 1) := by decide +kernel
theorem dX7_planTwo_51 : decode cX7_planTwo 51 = .ok (.iload 4, 2) := by decide +kernel
theorem dX7_planTwo_53 : decode cX7_planTwo 53 = .ok (.invokevirtual 105, 3) := by decide +kernel
theorem dX7_planTwo_56 : decode cX7_planTwo 56 = .ok (.aload_n 0, 1) := by decide +kernel
theorem dX7_planTwo_57 : decode cX7_planTwo 57 = .ok (.iload_n 1, 1) := by decide +kernel
theorem dX7_planTwo_58 : decode cX7_planTwo 58 = .ok (.iload_n 2, 1) := by decide +kernel
theorem dX7_planTwo_59 : decode cX7_planTwo 59 = .ok (.iload_n 3, 1) := by decide +kernel
theorem dX7_planTwo_60 : decode cX7_planTwo 60 = .ok (.invokevirtual 111, 3) := by decide +kernel
theorem dX7_planTwo_63 : decode cX7_planTwo 63 = .ok (.istore 5, 2) := by decide +kernel
theorem dX7_planTwo_65 : decode cX7_planTwo 65 = .ok (.aload_n 0, 1) := by decide +kernel
theorem dX7_planTwo_66 : decode cX7_planTwo 66 = .ok (.getfield 12, 3) := by decide +kernel
theorem dX7_planTwo_69 : decode cX7_planTwo 69 = .ok (.iload_n 3, 1) := by decide +kernel
theorem dX7_planTwo_70 : decode cX7_planTwo 70 = .ok (.iload 4, 2) := by decide +kernel
theorem dX7_planTwo_72 : decode cX7_planTwo 72 = .ok (.invokevirtual 108, 3) := by decide +kernel
theorem dX7_planTwo_75 : decode cX7_planTwo 75 = .ok (.iload 5, 2) := by decide +kernel
theorem dX7_planTwo_77 : decode cX7_planTwo 77 = .ok (.ifCond .ne 6, 3) := by decide +kernel
theorem dX7_planTwo_80 : decode cX7_planTwo 80 = .ok (.goto 26, 3) := by decide +kernel
theorem dX7_planTwo_83 : decode cX7_planTwo 83 = .ok (.aload_n 0, 1) := by decide +kernel
theorem dX7_planTwo_84 : decode cX7_planTwo 84 = .ok (.getfield 22, 3) := by decide +kernel
theorem dX7_planTwo_87 : decode cX7_planTwo 87 = .ok (.iconst 0, 1) := by decide +kernel
theorem dX7_planTwo_88 : decode cX7_planTwo 88 = .ok (.iconst 2, 1) := by decide +kernel
theorem dX7_planTwo_89 : decode cX7_planTwo 89 = .ok (.iastore, 1) := by decide +kernel
theorem dX7_planTwo_90 : decode cX7_planTwo 90 = .ok (.aload_n 0, 1) := by decide +kernel
theorem dX7_planTwo_91 : decode cX7_planTwo 91 = .ok (.getfield 22, 3) := by decide +kernel
theorem dX7_planTwo_94 : decode cX7_planTwo 94 = .ok (.iconst 1, 1) := by decide +kernel
theorem dX7_planTwo_95 : decode cX7_planTwo 95 = .ok (.iload_n 3, 1) := by decide +kernel
theorem dX7_planTwo_96 : decode cX7_planTwo 96 = .ok (.iastore, 1) := by decide +kernel
theorem dX7_planTwo_97 : decode cX7_planTwo 97 = .ok (.aload_n 0, 1) := by decide +kernel
theorem dX7_planTwo_98 : decode cX7_planTwo 98 = .ok (.getfield 22, 3) := by decide +kernel
theorem dX7_planTwo_101 : decode cX7_planTwo 101 = .ok (.iconst 2, 1) := by decide +kernel
theorem dX7_planTwo_102 : decode cX7_planTwo 102 = .ok (.iload 4, 2) := by decide +kernel
theorem dX7_planTwo_104 : decode cX7_planTwo 104 = .ok (.iastore, 1) := by decide +kernel
theorem dX7_planTwo_105 : decode cX7_planTwo 105 = .ok (.return_, 1) := by decide +kernel
theorem dX7_planTwo_106 : decode cX7_planTwo 106 = .ok (.iinc 4 1, 3) := by decide +kernel
theorem dX7_planTwo_109 : decode cX7_planTwo 109 = .ok (.goto (-91), 3) := by decide +kernel
theorem dX7_planTwo_112 : decode cX7_planTwo 112 = .ok (.iinc 3 1, 3) := by decide +kernel
theorem dX7_planTwo_115 : decode cX7_planTwo 115 = .ok (.goto (-113), 3) := by decide +kernel
theorem dX7_planTwo_118 : decode cX7_planTwo 118 = .ok (.return_, 1) := by decide +kernel
theorem dX7_planSecond_0 : decode cX7_planSecond 0 = .ok (.iload_n 3, 1) := by decide +kernel
theorem dX7_planSecond_1 : decode cX7_planSecond 1 = .ok (.iconst 1, 1) := by decide +kernel
theorem dX7_planSecond_2 : decode cX7_planSecond 2 = .ok (.iadd, 1) := by decide +kernel
theorem dX7_planSecond_3 : decode cX7_planSecond 3 = .ok (.istore 4, 2) := by decide +kernel
theorem dX7_planSecond_5 : decode cX7_planSecond 5 = .ok (.iload 4, 2) := by decide +kernel
theorem dX7_planSecond_7 : decode cX7_planSecond 7 = .ok (.aload_n 0, 1) := by decide +kernel
theorem dX7_planSecond_8 : decode cX7_planSecond 8 = .ok (.getfield 12, 3) := by decide +kernel
theorem dX7_planSecond_11 : decode cX7_planSecond 11 = .ok (.getfield 43, 3) := by decide +kernel
theorem dX7_planSecond_14 : decode cX7_planSecond 14 = .ok (.if_icmp .ge 106, 3) := by decide +kernel
theorem dX7_planSecond_17 : decode cX7_planSecond 17 = .ok (.iload 4, 2) := by decide +kernel
theorem dX7_planSecond_19 : decode cX7_planSecond 19 = .ok (.iconst 1, 1) := by decide +kernel
theorem dX7_planSecond_20 : decode cX7_planSecond 20 = .ok (.iadd, 1) := by decide +kernel
theorem dX7_planSecond_21 : decode cX7_planSecond 21 = .ok (.istore 5, 2) := by decide +kernel
theorem dX7_planSecond_23 : decode cX7_planSecond 23 = .ok (.iload 5, 2) := by decide +kernel
theorem dX7_planSecond_25 : decode cX7_planSecond 25 = .ok (.aload_n 0, 1) := by decide +kernel
theorem dX7_planSecond_26 : decode cX7_planSecond 26 = .ok (.getfield 12, 3) := by decide +kernel
theorem dX7_planSecond_29 : decode cX7_planSecond 29 = .ok (.getfield 43, 3) := by decide +kernel
theorem dX7_planSecond_32 : decode cX7_planSecond 32 = .ok (.if_icmp .ge 82, 3) := by decide +kernel
theorem dX7_planSecond_35 : decode cX7_planSecond 35 = .ok (.aload_n 0, 1) := by decide +kernel
theorem dX7_planSecond_36 : decode cX7_planSecond 36 = .ok (.getfield 12, 3) := by decide +kernel
theorem dX7_planSecond_39 : decode cX7_planSecond 39 = .ok (.iload 4, 2) := by decide +kernel
theorem dX7_planSecond_41 : decode cX7_planSecond 41 = .ok (.iload 5, 2) := by decide +kernel
theorem dX7_planSecond_43 : decode cX7_planSecond 43 = .ok (.invokevirtual 102, 3) := by decide +kernel
theorem dX7_planSecond_46 : decode cX7_planSecond 46 = .ok (.ifCond .ne 6, 3) := by decide +kernel
theorem dX7_planSecond_49 : decode cX7_planSecond 49 = .ok (.goto 59, 3) := by decide +kernel
theorem dX7_planSecond_52 : decode cX7_planSecond 52 = .ok (.aload_n 0, 1) := by decide +kernel
theorem dX7_planSecond_53 : decode cX7_planSecond 53 = .ok (.getfield 12, 3) := by decide +kernel
theorem dX7_planSecond_56 : decode cX7_planSecond 56 = .ok (.iload 4, 2) := by decide +kernel
theorem dX7_planSecond_58 : decode cX7_planSecond 58 = .ok (.iload 5, 2) := by decide +kernel
theorem dX7_planSecond_60 : decode cX7_planSecond 60 = .ok (.invokevirtual 105, 3) := by decide +kernel
theorem dX7_planSecond_63 : decode cX7_planSecond 63 = .ok (.aload_n 0, 1) := by decide +kernel
theorem dX7_planSecond_64 : decode cX7_planSecond 64 = .ok (.iload_n 1, 1) := by decide +kernel
theorem dX7_planSecond_65 : decode cX7_planSecond 65 = .ok (.iload_n 2, 1) := by decide +kernel
theorem dX7_planSecond_66 : decode cX7_planSecond 66 = .ok (.invokevirtual 91, 3) := by decide +kernel
theorem dX7_planSecond_69 : decode cX7_planSecond 69 = .ok (.istore 6, 2) := by decide +kernel
theorem dX7_planSecond_71 : decode cX7_planSecond 71 = .ok (.aload_n 0, 1) := by decide +kernel
theorem dX7_planSecond_72 : decode cX7_planSecond 72 = .ok (.getfield 12, 3) := by decide +kernel
theorem dX7_planSecond_75 : decode cX7_planSecond 75 = .ok (.iload 4, 2) := by decide +kernel
theorem dX7_planSecond_77 : decode cX7_planSecond 77 = .ok (.iload 5, 2) := by decide +kernel
theorem dX7_planSecond_79 : decode cX7_planSecond 79 = .ok (.invokevirtual 108, 3) := by decide +kernel
theorem dX7_planSecond_82 : decode cX7_planSecond 82 = .ok (.iload 6, 2) := by decide +kernel
theorem dX7_planSecond_84 : decode cX7_planSecond 84 = .ok (.ifCond .ne 6, 3) := by decide +kernel
theorem dX7_planSecond_87 : decode cX7_planSecond 87 = .ok (.goto 21, 3) := by decide +kernel
theorem dX7_planSecond_90 : decode cX7_planSecond 90 = .ok (.aload_n 0, 1) := by decide +kernel
theorem dX7_planSecond_91 : decode cX7_planSecond 91 = .ok (.getfield 22, 3) := by decide +kernel
theorem dX7_planSecond_94 : decode cX7_planSecond 94 = .ok (.iconst 3, 1) := by decide +kernel
theorem dX7_planSecond_95 : decode cX7_planSecond 95 = .ok (.iload 4, 2) := by decide +kernel
theorem dX7_planSecond_97 : decode cX7_planSecond 97 = .ok (.iastore, 1) := by decide +kernel
theorem dX7_planSecond_98 : decode cX7_planSecond 98 = .ok (.aload_n 0, 1) := by decide +kernel
theorem dX7_planSecond_99 : decode cX7_planSecond 99 = .ok (.getfield 22, 3) := by decide +kernel
theorem dX7_planSecond_102 : decode cX7_planSecond 102 = .ok (.iconst 4, 1) := by decide +kernel
theorem dX7_planSecond_103 : decode cX7_planSecond 103 = .ok (.iload 5, 2) := by decide +kernel
theorem dX7_planSecond_105 : decode cX7_planSecond 105 = .ok (.iastore, 1) := by decide +kernel
theorem dX7_planSecond_106 : decode cX7_planSecond 106 = .ok (.iconst 1, 1) := by decide +kernel
theorem dX7_planSecond_107 : decode cX7_planSecond 107 = .ok (.ireturn, 1) := by decide +kernel
theorem dX7_planSecond_108 : decode cX7_planSecond 108 = .ok (.iinc 5 1, 3) := by decide +kernel
theorem dX7_planSecond_111 : decode cX7_planSecond 111 = .ok (.goto (-88), 3) := by decide +kernel
theorem dX7_planSecond_114 : decode cX7_planSecond 114 = .ok (.iinc 4 1, 3) := by decide +kernel
theorem dX7_planSecond_117 : decode cX7_planSecond 117 = .ok (.goto (-112), 3) := by decide +kernel
theorem dX7_planSecond_120 : decode cX7_planSecond 120 = .ok (.iconst 0, 1) := by decide +kernel
theorem dX7_planSecond_121 : decode cX7_planSecond 121 = .ok (.ireturn, 1) := by decide +kernel
theorem dX8_init_0 : decode cX8_init 0 = .ok (.aload_n 0, 1) := by decide +kernel
theorem dX8_init_1 : decode cX8_init 1 = .ok (.invokespecial 3, 3) := by decide +kernel
theorem dX8_init_4 : decode cX8_init 4 = .ok (.aload_n 0, 1) := by decide +kernel
theorem dX8_init_5 : decode cX8_init 5 = .ok (.sipush 401, 3) := by decide +kernel
theorem dX8_init_8 : decode cX8_init 8 = .ok (.newarray .int, 2) := by decide +kernel
theorem dX8_init_10 : decode cX8_init 10 = .ok (.putfield 9, 3) := by decide +kernel
theorem dX8_init_13 : decode cX8_init 13 = .ok (.aload_n 0, 1) := by decide +kernel
theorem dX8_init_14 : decode cX8_init 14 = .ok (.sipush 401, 3) := by decide +kernel
theorem dX8_init_17 : decode cX8_init 17 = .ok (.newarray .int, 2) := by decide +kernel
theorem dX8_init_19 : decode cX8_init 19 = .ok (.putfield 15, 3) := by decide +kernel
theorem dX8_init_22 : decode cX8_init 22 = .ok (.aload_n 0, 1) := by decide +kernel
theorem dX8_init_23 : decode cX8_init 23 = .ok (.sipush 401, 3) := by decide +kernel
theorem dX8_init_26 : decode cX8_init 26 = .ok (.newarray .int, 2) := by decide +kernel
theorem dX8_init_28 : decode cX8_init 28 = .ok (.putfield 18, 3) := by decide +kernel
theorem dX8_init_31 : decode cX8_init 31 = .ok (.aload_n 0, 1) := by decide +kernel
theorem dX8_init_32 : decode cX8_init 32 = .ok (.iconst 0, 1) := by decide +kernel
theorem dX8_init_33 : decode cX8_init 33 = .ok (.putfield 21, 3) := by decide +kernel
theorem dX8_init_36 : decode cX8_init 36 = .ok (.aload_n 0, 1) := by decide +kernel
theorem dX8_init_37 : decode cX8_init 37 = .ok (.iconst 0, 1) := by decide +kernel
theorem dX8_init_38 : decode cX8_init 38 = .ok (.putfield 25, 3) := by decide +kernel
theorem dX8_init_41 : decode cX8_init 41 = .ok (.aload_n 0, 1) := by decide +kernel
theorem dX8_init_42 : decode cX8_init 42 = .ok (.aload_n 1, 1) := by decide +kernel
theorem dX8_init_43 : decode cX8_init 43 = .ok (.putfield 28, 3) := by decide +kernel
theorem dX8_init_46 : decode cX8_init 46 = .ok (.aload_n 0, 1) := by decide +kernel
theorem dX8_init_47 : decode cX8_init 47 = .ok (.aload_n 2, 1) := by decide +kernel
theorem dX8_init_48 : decode cX8_init 48 = .ok (.putfield 32, 3) := by decide +kernel
theorem dX8_init_51 : decode cX8_init 51 = .ok (.aload_n 0, 1) := by decide +kernel
theorem dX8_init_52 : decode cX8_init 52 = .ok (.aload_n 3, 1) := by decide +kernel
theorem dX8_init_53 : decode cX8_init 53 = .ok (.putfield 36, 3) := by decide +kernel
theorem dX8_init_56 : decode cX8_init 56 = .ok (.return_, 1) := by decide +kernel
theorem dX8_cut_0 : decode cX8_cut 0 = .ok (.aload_n 0, 1) := by decide +kernel
theorem dX8_cut_1 : decode cX8_cut 1 = .ok (.iconst 0, 1) := by decide +kernel
theorem dX8_cut_2 : decode cX8_cut 2 = .ok (.putfield 21, 3) := by decide +kernel
theorem dX8_cut_5 : decode cX8_cut 5 = .ok (.aload_n 0, 1) := by decide +kernel
theorem dX8_cut_6 : decode cX8_cut 6 = .ok (.iconst 0, 1) := by decide +kernel
theorem dX8_cut_7 : decode cX8_cut 7 = .ok (.putfield 25, 3) := by decide +kernel
theorem dX8_cut_10 : decode cX8_cut 10 = .ok (.iconst 0, 1) := by decide +kernel
theorem dX8_cut_11 : decode cX8_cut 11 = .ok (.istore_n 1, 1) := by decide +kernel
theorem dX8_cut_12 : decode cX8_cut 12 = .ok (.iconst 0, 1) := by decide +kernel
theorem dX8_cut_13 : decode cX8_cut 13 = .ok (.istore_n 2, 1) := by decide +kernel
theorem dX8_cut_14 : decode cX8_cut 14 = .ok (.iload_n 2, 1) := by decide +kernel
theorem dX8_cut_15 : decode cX8_cut 15 = .ok (.sipush 400, 3) := by decide +kernel
theorem dX8_cut_18 : decode cX8_cut 18 = .ok (.if_icmp .ge 47, 3) := by decide +kernel
theorem dX8_cut_21 : decode cX8_cut 21 = .ok (.iload_n 1, 1) := by decide +kernel
theorem dX8_cut_22 : decode cX8_cut 22 = .ok (.aload_n 0, 1) := by decide +kernel
theorem dX8_cut_23 : decode cX8_cut 23 = .ok (.getfield 28, 3) := by decide +kernel
theorem dX8_cut_26 : decode cX8_cut 26 = .ok (.getfield 39, 3) := by decide +kernel
theorem dX8_cut_29 : decode cX8_cut 29 = .ok (.if_icmp .ge 36, 3) := by decide +kernel
theorem dX8_cut_32 : decode cX8_cut 32 = .ok (.aload_n 0, 1) := by decide +kernel
theorem dX8_cut_33 : decode cX8_cut 33 = .ok (.getfield 28, 3) := by decide +kernel
theorem dX8_cut_36 : decode cX8_cut 36 = .ok (.getfield 44, 3) := by decide +kernel
theorem dX8_cut_39 : decode cX8_cut 39 = .ok (.iload_n 1, 1) := by decide +kernel
theorem dX8_cut_40 : decode cX8_cut 40 = .ok (.iaload, 1) := by decide +kernel
theorem dX8_cut_41 : decode cX8_cut 41 = .ok (.invokestatic 47, 3) := by decide +kernel
theorem dX8_cut_44 : decode cX8_cut 44 = .ok (.ifCond .eq 9, 3) := by decide +kernel
theorem dX8_cut_47 : decode cX8_cut 47 = .ok (.iinc 1 1, 3) := by decide +kernel
theorem dX8_cut_50 : decode cX8_cut 50 = .ok (.goto 9, 3) := by decide +kernel
theorem dX8_cut_53 : decode cX8_cut 53 = .ok (.aload_n 0, 1) := by decide +kernel
theorem dX8_cut_54 : decode cX8_cut 54 = .ok (.iload_n 1, 1) := by decide +kernel
theorem dX8_cut_55 : decode cX8_cut 55 = .ok (.invokevirtual 51, 3) := by decide +kernel
theorem dX8_cut_58 : decode cX8_cut 58 = .ok (.istore_n 1, 1) := by decide +kernel
theorem dX8_cut_59 : decode cX8_cut 59 = .ok (.iinc 2 1, 3) := by decide +kernel
theorem dX8_cut_62 : decode cX8_cut 62 = .ok (.goto (-48), 3) := by decide +kernel
theorem dX8_cut_65 : decode cX8_cut 65 = .ok (.aload_n 0, 1) := by decide +kernel
theorem dX8_cut_66 : decode cX8_cut 66 = .ok (.iconst 0, 1) := by decide +kernel
theorem dX8_cut_67 : decode cX8_cut 67 = .ok (.iconst 0, 1) := by decide +kernel
theorem dX8_cut_68 : decode cX8_cut 68 = .ok (.aload_n 0, 1) := by decide +kernel
theorem dX8_cut_69 : decode cX8_cut 69 = .ok (.getfield 28, 3) := by decide +kernel
theorem dX8_cut_72 : decode cX8_cut 72 = .ok (.getfield 39, 3) := by decide +kernel
theorem dX8_cut_75 : decode cX8_cut 75 = .ok (.invokevirtual 55, 3) := by decide +kernel
theorem dX8_cut_78 : decode cX8_cut 78 = .ok (.return_, 1) := by decide +kernel
theorem dX8_cutOne_0 : decode cX8_cutOne 0 = .ok (.aload_n 0, 1) := by decide +kernel
theorem dX8_cutOne_1 : decode cX8_cutOne 1 = .ok (.getfield 28, 3) := by decide +kernel
theorem dX8_cutOne_4 : decode cX8_cutOne 4 = .ok (.getfield 44, 3) := by decide +kernel
theorem dX8_cutOne_7 : decode cX8_cutOne 7 = .ok (.iload_n 1, 1) := by decide +kernel
theorem dX8_cutOne_8 : decode cX8_cutOne 8 = .ok (.iaload, 1) := by decide +kernel
theorem dX8_cutOne_9 : decode cX8_cutOne 9 = .ok (.istore_n 2, 1) := by decide +kernel
theorem dX8_cutOne_10 : decode cX8_cutOne 10 = .ok (.iload_n 2, 1) := by decide +kernel
theorem dX8_cutOne_11 : decode cX8_cutOne 11 = .ok (.invokestatic 59, 3) := by decide +kernel
theorem dX8_cutOne_14 : decode cX8_cutOne 14 = .ok (.ifCond .eq 9, 3) := by decide +kernel
theorem dX8_cutOne_17 : decode cX8_cutOne 17 = .ok (.aload_n 0, 1) := by decide +kernel
theorem dX8_cutOne_18 : decode cX8_cutOne 18 = .ok (.iload_n 1, 1) := by decide +kernel
theorem dX8_cutOne_19 : decode cX8_cutOne 19 = .ok (.invokevirtual 62, 3) := by decide +kernel
theorem dX8_cutOne_22 : decode cX8_cutOne 22 = .ok (.ireturn, 1) := by decide +kernel
theorem dX8_cutOne_23 : decode cX8_cutOne 23 = .ok (.iload_n 2, 1) := by decide +kernel
theorem dX8_cutOne_24 : decode cX8_cutOne 24 = .ok (.invokestatic 65, 3) := by decide +kernel
theorem dX8_cutOne_27 : decode cX8_cutOne 27 = .ok (.ifCond .eq 9, 3) := by decide +kernel
theorem dX8_cutOne_30 : decode cX8_cutOne 30 = .ok (.aload_n 0, 1) := by decide +kernel
theorem dX8_cutOne_31 : decode cX8_cutOne 31 = .ok (.iload_n 1, 1) := by decide +kernel
theorem dX8_cutOne_32 : decode cX8_cutOne 32 = .ok (.invokevirtual 68, 3) := by decide +kernel
theorem dX8_cutOne_35 : decode cX8_cutOne 35 = .ok (.ireturn, 1) := by decide +kernel
theorem dX8_cutOne_36 : decode cX8_cutOne 36 = .ok (.iload_n 2, 1) := by decide +kernel
theorem dX8_cutOne_37 : decode cX8_cutOne 37 = .ok (.bipush 34, 2) := by decide +kernel
theorem dX8_cutOne_39 : decode cX8_cutOne 39 = .ok (.if_icmp .ne 21, 3) := by decide +kernel
theorem dX8_cutOne_42 : decode cX8_cutOne 42 = .ok (.aload_n 0, 1) := by decide +kernel
theorem dX8_cutOne_43 : decode cX8_cutOne 43 = .ok (.getfield 36, 3) := by decide +kernel
theorem dX8_cutOne_46 : decode cX8_cutOne 46 = .ok (.bipush 34, 2) := by decide +kernel
theorem dX8_cutOne_48 : decode cX8_cutOne 48 = .ok (.invokevirtual 71, 3) := by decide +kernel
theorem dX8_cutOne_51 : decode cX8_cutOne 51 = .ok (.ifCond .lt 9, 3) := by decide +kernel
theorem dX8_cutOne_54 : decode cX8_cutOne 54 = .ok (.aload_n 0, 1) := by decide +kernel
theorem dX8_cutOne_55 : decode cX8_cutOne 55 = .ok (.iload_n 1, 1) := by decide +kernel
theorem dX8_cutOne_56 : decode cX8_cutOne 56 = .ok (.invokevirtual 76, 3) := by decide +kernel
theorem dX8_cutOne_59 : decode cX8_cutOne 59 = .ok (.ireturn, 1) := by decide +kernel
theorem dX8_cutOne_60 : decode cX8_cutOne 60 = .ok (.aload_n 0, 1) := by decide +kernel
theorem dX8_cutOne_61 : decode cX8_cutOne 61 = .ok (.aload_n 0, 1) := by decide +kernel
theorem dX8_cutOne_62 : decode cX8_cutOne 62 = .ok (.getfield 36, 3) := by decide +kernel
theorem dX8_cutOne_65 : decode cX8_cutOne 65 = .ok (.iload_n 2, 1) := by decide +kernel
theorem dX8_cutOne_66 : decode cX8_cutOne 66 = .ok (.i2c, 1) := by decide +kernel
theorem dX8_cutOne_67 : decode cX8_cutOne 67 = .ok (.invokevirtual 71, 3) := by decide +kernel
theorem dX8_cutOne_70 : decode cX8_cutOne 70 = .ok (.ifCond .lt 7, 3) := by decide +kernel
theorem dX8_cutOne_73 : decode cX8_cutOne 73 = .ok (.iconst 3, 1) := by decide +kernel
theorem dX8_cutOne_74 : decode cX8_cutOne 74 = .ok (.goto 4, 3) := by decide +kernel
theorem dX8_cutOne_77 : decode cX8_cutOne 77 = .ok (.iconst 4, 1) := by decide +kernel
theorem dX8_cutOne_78 : decode cX8_cutOne 78 = .ok (.iload_n 2, 1) := by decide +kernel
theorem dX8_cutOne_79 : decode cX8_cutOne 79 = .ok (.iload_n 1, 1) := by decide +kernel
theorem dX8_cutOne_80 : decode cX8_cutOne 80 = .ok (.invokevirtual 55, 3) := by decide +kernel
theorem dX8_cutOne_83 : decode cX8_cutOne 83 = .ok (.iload_n 1, 1) := by decide +kernel
theorem dX8_cutOne_84 : decode cX8_cutOne 84 = .ok (.iconst 1, 1) := by decide +kernel
theorem dX8_cutOne_85 : decode cX8_cutOne 85 = .ok (.iadd, 1) := by decide +kernel
theorem dX8_cutOne_86 : decode cX8_cutOne 86 = .ok (.ireturn, 1) := by decide +kernel
theorem dX8_cutWord_0 : decode cX8_cutWord 0 = .ok (.iload_n 1, 1) := by decide +kernel
theorem dX8_cutWord_1 : decode cX8_cutWord 1 = .ok (.istore_n 2, 1) := by decide +kernel
theorem dX8_cutWord_2 : decode cX8_cutWord 2 = .ok (.iload_n 2, 1) := by decide +kernel
theorem dX8_cutWord_3 : decode cX8_cutWord 3 = .ok (.aload_n 0, 1) := by decide +kernel
theorem dX8_cutWord_4 : decode cX8_cutWord 4 = .ok (.getfield 28, 3) := by decide +kernel
theorem dX8_cutWord_7 : decode cX8_cutWord 7 = .ok (.getfield 39, 3) := by decide +kernel
theorem dX8_cutWord_10 : decode cX8_cutWord 10 = .ok (.if_icmp .ge 24, 3) := by decide +kernel
theorem dX8_cutWord_13 : decode cX8_cutWord 13 = .ok (.aload_n 0, 1) := by decide +kernel
theorem dX8_cutWord_14 : decode cX8_cutWord 14 = .ok (.getfield 28, 3) := by decide +kernel
theorem dX8_cutWord_17 : decode cX8_cutWord 17 = .ok (.getfield 44, 3) := by decide +kernel
