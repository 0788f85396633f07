/-! The constructors. -/
theorem a_nmZ {ρ : Type} {X : CX} {E : FE} {b : Bool} {Qf : ρ → State → Prop} {pc : Nat} {L : List (Option Value)} {st : List Value} {Z : Sh} {S : Mm} {n w : Nat} {k : Sh → Option ρ} (g : ∀ Z1, At X E b Qf pc L st Z1 S n w (k Z1)) : At X E b Qf pc L st Z S n w (nm Z k) := g Z
theorem ml_X1_3 : Cond.methodLink RX1 3 objectInit ∈ lwG := mG 156 (by decide +kernel) (by decide +kernel)
theorem oi_i : Cond.instanceMethod objectInit ∈ lwG := mG 149 (by decide +kernel) (by decide +kernel)
theorem oi_c : Cond.code objectInit ⟨#[0xb1]⟩ 1 none ∈ lwG := mG 150 (by decide +kernel) (by decide +kernel)
theorem nn_12 : ¬ (12 : Int32) < 0 := by decide +kernel
theorem ix_12 : ix (12 : Int32) = 12 := by decide +kernel
theorem w_ac : Cond.arrayClass .int ∈ lwG := mG 247 (by decide +kernel) (by decide +kernel)
theorem nn_28 : ¬ (28 : Int32) < 0 := by decide +kernel
theorem ix_28 : ix (28 : Int32) = 28 := by decide +kernel
theorem nn_8 : ¬ (8 : Int32) < 0 := by decide +kernel
theorem ml_X3_3 : Cond.methodLink RX3 3 objectInit ∈ lwG := mG 259 (by decide +kernel) (by decide +kernel)
theorem nn_400 : ¬ (400 : Int32) < 0 := by decide +kernel
theorem ix_400 : ix (400 : Int32) = 400 := by decide +kernel
theorem nn_16 : ¬ (16 : Int32) < 0 := by decide +kernel
theorem ix_16 : ix (16 : Int32) = 16 := by decide +kernel
theorem nn_10 : ¬ (10 : Int32) < 0 := by decide +kernel
theorem ix_10 : ix (10 : Int32) = 10 := by decide +kernel
theorem nn_64 : ¬ (64 : Int32) < 0 := by decide +kernel
theorem ix_64 : ix (64 : Int32) = 64 := by decide +kernel
theorem ml_X6_3 : Cond.methodLink RX6 3 objectInit ∈ lwG := mG 253 (by decide +kernel) (by decide +kernel)
theorem hdX3 : ∀ j, j < 8 → defaultValue (tyX3 j) = if fI 3 j = true then .int 0 else .null := by decide +kernel
theorem win_3 : Cond.instantiable RX3 8 ∈ lwG := mG 255 (by decide +kernel) (by decide +kernel)
theorem wii_3 : Cond.initialized RX3 ∈ lwG := mG 126 (by decide +kernel) (by decide +kernel)
theorem cl_X6_9 : Cond.classLink RX6 9 RX3 ∈ lwG := mG 254 (by decide +kernel) (by decide +kernel)
theorem mw_X3_init : MW yX3_init cX3_init 1 none 0 := ⟨mG 258 (by decide +kernel) (by decide +kernel), mG 126 (by decide +kernel) (by decide +kernel), by decide +kernel, ⟨by decide +kernel, by decide +kernel⟩, by decide +kernel, by decide⟩
theorem im_X3_init : Cond.instanceMethod yX3_init ∈ lwG := mG 257 (by decide +kernel) (by decide +kernel)
theorem nn_144 : ¬ (144 : Int32) < 0 := by decide +kernel
theorem ix_144 : ix (144 : Int32) = 144 := by decide +kernel
theorem nn_320 : ¬ (320 : Int32) < 0 := by decide +kernel
theorem ix_320 : ix (320 : Int32) = 320 := by decide +kernel
theorem ml_X0_3 : Cond.methodLink RX0 3 objectInit ∈ lwG := mG 337 (by decide +kernel) (by decide +kernel)
theorem nn_1000 : ¬ (1000 : Int32) < 0 := by decide +kernel
theorem ix_1000 : ix (1000 : Int32) = 1000 := by decide +kernel
theorem hdX1 : ∀ j, j < 20 → defaultValue (tyX1 j) = if fI 1 j = true then .int 0 else .null := by decide +kernel
theorem win_1 : Cond.instantiable RX1 20 ∈ lwG := mG 152 (by decide +kernel) (by decide +kernel)
theorem wii_1 : Cond.initialized RX1 ∈ lwG := mG 124 (by decide +kernel) (by decide +kernel)
theorem cl_X2_9 : Cond.classLink RX2 9 RX1 ∈ lwG := mG 354 (by decide +kernel) (by decide +kernel)
theorem ml_X2_26 : Cond.methodLink RX2 26 yX1_init ∈ lwG := mG 356 (by decide +kernel) (by decide +kernel)
theorem mw_X1_init : MW yX1_init cX1_init 2 none 0 := ⟨mG 155 (by decide +kernel) (by decide +kernel), mG 124 (by decide +kernel) (by decide +kernel), by decide +kernel, ⟨by decide +kernel, by decide +kernel⟩, by decide +kernel, by decide⟩
theorem im_X1_init : Cond.instanceMethod yX1_init ∈ lwG := mG 154 (by decide +kernel) (by decide +kernel)
theorem ml_X2_1 : Cond.methodLink RX2 1 objectInit ∈ lwG := mG 353 (by decide +kernel) (by decide +kernel)
theorem ml_X7_3 : Cond.methodLink RX7 3 objectInit ∈ lwG := mG 376 (by decide +kernel) (by decide +kernel)
theorem cl_X7_9 : Cond.classLink RX7 9 RX1 ∈ lwG := mG 377 (by decide +kernel) (by decide +kernel)
theorem ml_X7_11 : Cond.methodLink RX7 11 yX1_init ∈ lwG := mG 378 (by decide +kernel) (by decide +kernel)
theorem nn_5 : ¬ (5 : Int32) < 0 := by decide +kernel
theorem ix_5 : ix (5 : Int32) = 5 := by decide +kernel
theorem ml_X5_3 : Cond.methodLink RX5 3 objectInit ∈ lwG := mG 400 (by decide +kernel) (by decide +kernel)
theorem ml_X8_3 : Cond.methodLink RX8 3 objectInit ∈ lwG := mG 440 (by decide +kernel) (by decide +kernel)
theorem ks_401 : (Int16.ofInt (401)).toInt32 = (401 : Int32) := by decide +kernel
theorem nn_401 : ¬ (401 : Int32) < 0 := by decide +kernel
theorem ix_401 : ix (401 : Int32) = 401 := by decide +kernel
theorem ml_X4_3 : Cond.methodLink RX4 3 objectInit ∈ lwG := mG 430 (by decide +kernel) (by decide +kernel)
theorem cl_X4_9 : Cond.classLink RX4 9 RX3 ∈ lwG := mG 431 (by decide +kernel) (by decide +kernel)
theorem hdX8 : ∀ j, j < 8 → defaultValue (tyX8 j) = if fI 8 j = true then .int 0 else .null := by decide +kernel
theorem win_8 : Cond.instantiable RX8 8 ∈ lwG := mG 434 (by decide +kernel) (by decide +kernel)
theorem wii_8 : Cond.initialized RX8 ∈ lwG := mG 132 (by decide +kernel) (by decide +kernel)
theorem cl_X4_18 : Cond.classLink RX4 18 RX8 ∈ lwG := mG 433 (by decide +kernel) (by decide +kernel)
theorem ml_X4_24 : Cond.methodLink RX4 24 yX8_init ∈ lwG := mG 437 (by decide +kernel) (by decide +kernel)
theorem mw_X8_init : MW yX8_init cX8_init 4 none 3 := ⟨mG 439 (by decide +kernel) (by decide +kernel), mG 132 (by decide +kernel) (by decide +kernel), by decide +kernel, ⟨by decide +kernel, by decide +kernel⟩, by decide +kernel, by decide⟩
theorem im_X8_init : Cond.instanceMethod yX8_init ∈ lwG := mG 438 (by decide +kernel) (by decide +kernel)
theorem ml_X9_3 : Cond.methodLink RX9 3 objectInit ∈ lwG := mG 479 (by decide +kernel) (by decide +kernel)
theorem cl_X9_37 : Cond.classLink RX9 37 RX8 ∈ lwG := mG 480 (by decide +kernel) (by decide +kernel)
theorem ml_X9_43 : Cond.methodLink RX9 43 yX8_init ∈ lwG := mG 483 (by decide +kernel) (by decide +kernel)
theorem ml_X10_3 : Cond.methodLink RX10 3 objectInit ∈ lwG := mG 148 (by decide +kernel) (by decide +kernel)
theorem cl_X10_9 : Cond.classLink RX10 9 RX1 ∈ lwG := mG 151 (by decide +kernel) (by decide +kernel)
theorem ml_X10_11 : Cond.methodLink RX10 11 yX1_init ∈ lwG := mG 153 (by decide +kernel) (by decide +kernel)
theorem hdX6 : ∀ j, j < 9 → defaultValue (tyX6 j) = if fI 6 j = true then .int 0 else .null := by decide +kernel
theorem win_6 : Cond.instantiable RX6 9 ∈ lwG := mG 249 (by decide +kernel) (by decide +kernel)
theorem wii_6 : Cond.initialized RX6 ∈ lwG := mG 125 (by decide +kernel) (by decide +kernel)
theorem cl_X10_16 : Cond.classLink RX10 16 RX6 ∈ lwG := mG 248 (by decide +kernel) (by decide +kernel)
theorem mw_X6_init : MW yX6_init cX6_init 1 none 0 := ⟨mG 252 (by decide +kernel) (by decide +kernel), mG 125 (by decide +kernel) (by decide +kernel), by decide +kernel, ⟨by decide +kernel, by decide +kernel⟩, by decide +kernel, by decide⟩
theorem im_X6_init : Cond.instanceMethod yX6_init ∈ lwG := mG 251 (by decide +kernel) (by decide +kernel)
theorem hdX0 : ∀ j, j < 2 → defaultValue (tyX0 j) = if fI 0 j = true then .int 0 else .null := by decide +kernel
theorem win_0 : Cond.instantiable RX0 2 ∈ lwG := mG 333 (by decide +kernel) (by decide +kernel)
theorem wii_0 : Cond.initialized RX0 ∈ lwG := mG 127 (by decide +kernel) (by decide +kernel)
theorem cl_X10_23 : Cond.classLink RX10 23 RX0 ∈ lwG := mG 332 (by decide +kernel) (by decide +kernel)
theorem mw_X0_init : MW yX0_init cX0_init 1 none 0 := ⟨mG 336 (by decide +kernel) (by decide +kernel), mG 127 (by decide +kernel) (by decide +kernel), by decide +kernel, ⟨by decide +kernel, by decide +kernel⟩, by decide +kernel, by decide⟩
theorem im_X0_init : Cond.instanceMethod yX0_init ∈ lwG := mG 335 (by decide +kernel) (by decide +kernel)
theorem hdX2 : ∀ j, j < 4 → defaultValue (tyX2 j) = if fI 2 j = true then .int 0 else .null := by decide +kernel
theorem win_2 : Cond.instantiable RX2 4 ∈ lwG := mG 349 (by decide +kernel) (by decide +kernel)
theorem wii_2 : Cond.initialized RX2 ∈ lwG := mG 128 (by decide +kernel) (by decide +kernel)
theorem cl_X10_30 : Cond.classLink RX10 30 RX2 ∈ lwG := mG 348 (by decide +kernel) (by decide +kernel)
theorem ml_X10_32 : Cond.methodLink RX10 32 yX2_init ∈ lwG := mG 350 (by decide +kernel) (by decide +kernel)
theorem mw_X2_init : MW yX2_init cX2_init 2 none 0 := ⟨mG 352 (by decide +kernel) (by decide +kernel), mG 128 (by decide +kernel) (by decide +kernel), by decide +kernel, ⟨by decide +kernel, by decide +kernel⟩, by decide +kernel, by decide⟩
theorem im_X2_init : Cond.instanceMethod yX2_init ∈ lwG := mG 351 (by decide +kernel) (by decide +kernel)
theorem hdX7 : ∀ j, j < 5 → defaultValue (tyX7 j) = if fI 7 j = true then .int 0 else .null := by decide +kernel
theorem win_7 : Cond.instantiable RX7 5 ∈ lwG := mG 372 (by decide +kernel) (by decide +kernel)
theorem wii_7 : Cond.initialized RX7 ∈ lwG := mG 129 (by decide +kernel) (by decide +kernel)
theorem cl_X10_37 : Cond.classLink RX10 37 RX7 ∈ lwG := mG 371 (by decide +kernel) (by decide +kernel)
theorem ml_X10_39 : Cond.methodLink RX10 39 yX7_init ∈ lwG := mG 373 (by decide +kernel) (by decide +kernel)
theorem mw_X7_init : MW yX7_init cX7_init 3 none 2 := ⟨mG 375 (by decide +kernel) (by decide +kernel), mG 129 (by decide +kernel) (by decide +kernel), by decide +kernel, ⟨by decide +kernel, by decide +kernel⟩, by decide +kernel, by decide⟩
theorem im_X7_init : Cond.instanceMethod yX7_init ∈ lwG := mG 374 (by decide +kernel) (by decide +kernel)
theorem hdX5 : ∀ j, j < 4 → defaultValue (tyX5 j) = if fI 5 j = true then .int 0 else .null := by decide +kernel
theorem win_5 : Cond.instantiable RX5 4 ∈ lwG := mG 396 (by decide +kernel) (by decide +kernel)
theorem wii_5 : Cond.initialized RX5 ∈ lwG := mG 130 (by decide +kernel) (by decide +kernel)
theorem cl_X10_46 : Cond.classLink RX10 46 RX5 ∈ lwG := mG 395 (by decide +kernel) (by decide +kernel)
theorem mw_X5_init : MW yX5_init cX5_init 1 none 0 := ⟨mG 399 (by decide +kernel) (by decide +kernel), mG 130 (by decide +kernel) (by decide +kernel), by decide +kernel, ⟨by decide +kernel, by decide +kernel⟩, by decide +kernel, by decide⟩
theorem im_X5_init : Cond.instanceMethod yX5_init ∈ lwG := mG 398 (by decide +kernel) (by decide +kernel)
theorem hdX4 : ∀ j, j < 2 → defaultValue (tyX4 j) = if fI 4 j = true then .int 0 else .null := by decide +kernel
theorem win_4 : Cond.instantiable RX4 2 ∈ lwG := mG 426 (by decide +kernel) (by decide +kernel)
theorem wii_4 : Cond.initialized RX4 ∈ lwG := mG 131 (by decide +kernel) (by decide +kernel)
theorem cl_X10_53 : Cond.classLink RX10 53 RX4 ∈ lwG := mG 425 (by decide +kernel) (by decide +kernel)
theorem ml_X10_55 : Cond.methodLink RX10 55 yX4_init ∈ lwG := mG 427 (by decide +kernel) (by decide +kernel)
theorem mw_X4_init : MW yX4_init cX4_init 2 none 1 := ⟨mG 429 (by decide +kernel) (by decide +kernel), mG 131 (by decide +kernel) (by decide +kernel), by decide +kernel, ⟨by decide +kernel, by decide +kernel⟩, by decide +kernel, by decide⟩
theorem im_X4_init : Cond.instanceMethod yX4_init ∈ lwG := mG 428 (by decide +kernel) (by decide +kernel)
theorem hdX9 : ∀ j, j < 8 → defaultValue (tyX9 j) = if fI 9 j = true then .int 0 else .null := by decide +kernel
theorem win_9 : Cond.instantiable RX9 8 ∈ lwG := mG 475 (by decide +kernel) (by decide +kernel)
theorem wii_9 : Cond.initialized RX9 ∈ lwG := mG 133 (by decide +kernel) (by decide +kernel)
theorem cl_X10_62 : Cond.classLink RX10 62 RX9 ∈ lwG := mG 474 (by decide +kernel) (by decide +kernel)
theorem ml_X10_64 : Cond.methodLink RX10 64 yX9_init ∈ lwG := mG 476 (by decide +kernel) (by decide +kernel)
theorem mw_X9_init : MW yX9_init cX9_init 2 none 1 := ⟨mG 478 (by decide +kernel) (by decide +kernel), mG 133 (by decide +kernel) (by decide +kernel), by decide +kernel, ⟨by decide +kernel, by decide +kernel⟩, by decide +kernel, by decide⟩
theorem im_X9_init : Cond.instanceMethod yX9_init ∈ lwG := mG 477 (by decide +kernel) (by decide +kernel)
theorem ml_X11_1 : Cond.methodLink RX11 1 objectInit ∈ lwG := mG 1219 (by decide +kernel) (by decide +kernel)
theorem nn_148 : ¬ (148 : Int32) < 0 := by decide +kernel
theorem ix_148 : ix (148 : Int32) = 148 := by decide +kernel
theorem ks_1184 : (Int16.ofInt (1184)).toInt32 = (1184 : Int32) := by decide +kernel
theorem nn_1184 : ¬ (1184 : Int32) < 0 := by decide +kernel
theorem ix_1184 : ix (1184 : Int32) = 1184 := by decide +kernel
theorem kb_93 : (Int8.ofInt (93)).toInt32 = (93 : Int32) := by decide +kernel
theorem nn_93 : ¬ (93 : Int32) < 0 := by decide +kernel
theorem ix_93 : ix (93 : Int32) = 93 := by decide +kernel
theorem kb_104 : (Int8.ofInt (104)).toInt32 = (104 : Int32) := by decide +kernel
theorem kb_101 : (Int8.ofInt (101)).toInt32 = (101 : Int32) := by decide +kernel
theorem kb_105 : (Int8.ofInt (105)).toInt32 = (105 : Int32) := by decide +kernel
theorem kb_114 : (Int8.ofInt (114)).toInt32 = (114 : Int32) := by decide +kernel
theorem kb_119 : (Int8.ofInt (119)).toInt32 = (119 : Int32) := by decide +kernel
theorem kb_110 : (Int8.ofInt (110)).toInt32 = (110 : Int32) := by decide +kernel
theorem kb_111 : (Int8.ofInt (111)).toInt32 = (111 : Int32) := by decide +kernel
theorem kb_19 : (Int8.ofInt (19)).toInt32 = (19 : Int32) := by decide +kernel
theorem kb_116 : (Int8.ofInt (116)).toInt32 = (116 : Int32) := by decide +kernel
theorem kb_21 : (Int8.ofInt (21)).toInt32 = (21 : Int32) := by decide +kernel
theorem kb_22 : (Int8.ofInt (22)).toInt32 = (22 : Int32) := by decide +kernel
theorem kb_108 : (Int8.ofInt (108)).toInt32 = (108 : Int32) := by decide +kernel
theorem kb_23 : (Int8.ofInt (23)).toInt32 = (23 : Int32) := by decide +kernel
theorem kb_25 : (Int8.ofInt (25)).toInt32 = (25 : Int32) := by decide +kernel
theorem kb_29 : (Int8.ofInt (29)).toInt32 = (29 : Int32) := by decide +kernel
theorem kb_118 : (Int8.ofInt (118)).toInt32 = (118 : Int32) := by decide +kernel
theorem kb_30 : (Int8.ofInt (30)).toInt32 = (30 : Int32) := by decide +kernel
theorem kb_31 : (Int8.ofInt (31)).toInt32 = (31 : Int32) := by decide +kernel
theorem kb_33 : (Int8.ofInt (33)).toInt32 = (33 : Int32) := by decide +kernel
theorem kb_35 : (Int8.ofInt (35)).toInt32 = (35 : Int32) := by decide +kernel
theorem kb_36 : (Int8.ofInt (36)).toInt32 = (36 : Int32) := by decide +kernel
theorem kb_103 : (Int8.ofInt (103)).toInt32 = (103 : Int32) := by decide +kernel
theorem kb_37 : (Int8.ofInt (37)).toInt32 = (37 : Int32) := by decide +kernel
theorem kb_38 : (Int8.ofInt (38)).toInt32 = (38 : Int32) := by decide +kernel
theorem kb_39 : (Int8.ofInt (39)).toInt32 = (39 : Int32) := by decide +kernel
theorem kb_107 : (Int8.ofInt (107)).toInt32 = (107 : Int32) := by decide +kernel
theorem kb_49 : (Int8.ofInt (49)).toInt32 = (49 : Int32) := by decide +kernel
theorem kb_115 : (Int8.ofInt (115)).toInt32 = (115 : Int32) := by decide +kernel
theorem kb_50 : (Int8.ofInt (50)).toInt32 = (50 : Int32) := by decide +kernel
theorem kb_51 : (Int8.ofInt (51)).toInt32 = (51 : Int32) := by decide +kernel
theorem kb_52 : (Int8.ofInt (52)).toInt32 = (52 : Int32) := by decide +kernel
theorem kb_117 : (Int8.ofInt (117)).toInt32 = (117 : Int32) := by decide +kernel
theorem kb_53 : (Int8.ofInt (53)).toInt32 = (53 : Int32) := by decide +kernel
theorem kb_54 : (Int8.ofInt (54)).toInt32 = (54 : Int32) := by decide +kernel
theorem kb_55 : (Int8.ofInt (55)).toInt32 = (55 : Int32) := by decide +kernel
theorem kb_56 : (Int8.ofInt (56)).toInt32 = (56 : Int32) := by decide +kernel
theorem kb_58 : (Int8.ofInt (58)).toInt32 = (58 : Int32) := by decide +kernel
theorem kb_66 : (Int8.ofInt (66)).toInt32 = (66 : Int32) := by decide +kernel
theorem kb_67 : (Int8.ofInt (67)).toInt32 = (67 : Int32) := by decide +kernel
theorem kb_68 : (Int8.ofInt (68)).toInt32 = (68 : Int32) := by decide +kernel
theorem kb_69 : (Int8.ofInt (69)).toInt32 = (69 : Int32) := by decide +kernel
theorem kb_70 : (Int8.ofInt (70)).toInt32 = (70 : Int32) := by decide +kernel
theorem kb_71 : (Int8.ofInt (71)).toInt32 = (71 : Int32) := by decide +kernel
theorem kb_72 : (Int8.ofInt (72)).toInt32 = (72 : Int32) := by decide +kernel
theorem kb_73 : (Int8.ofInt (73)).toInt32 = (73 : Int32) := by decide +kernel
theorem kb_74 : (Int8.ofInt (74)).toInt32 = (74 : Int32) := by decide +kernel
theorem kb_121 : (Int8.ofInt (121)).toInt32 = (121 : Int32) := by decide +kernel
theorem kb_75 : (Int8.ofInt (75)).toInt32 = (75 : Int32) := by decide +kernel
theorem kb_76 : (Int8.ofInt (76)).toInt32 = (76 : Int32) := by decide +kernel
theorem kb_77 : (Int8.ofInt (77)).toInt32 = (77 : Int32) := by decide +kernel
theorem kb_78 : (Int8.ofInt (78)).toInt32 = (78 : Int32) := by decide +kernel
theorem kb_79 : (Int8.ofInt (79)).toInt32 = (79 : Int32) := by decide +kernel
theorem kb_80 : (Int8.ofInt (80)).toInt32 = (80 : Int32) := by decide +kernel
theorem kb_81 : (Int8.ofInt (81)).toInt32 = (81 : Int32) := by decide +kernel
theorem kb_82 : (Int8.ofInt (82)).toInt32 = (82 : Int32) := by decide +kernel
theorem kb_83 : (Int8.ofInt (83)).toInt32 = (83 : Int32) := by decide +kernel
theorem kb_84 : (Int8.ofInt (84)).toInt32 = (84 : Int32) := by decide +kernel
theorem kb_85 : (Int8.ofInt (85)).toInt32 = (85 : Int32) := by decide +kernel
theorem kb_86 : (Int8.ofInt (86)).toInt32 = (86 : Int32) := by decide +kernel
theorem kb_102 : (Int8.ofInt (102)).toInt32 = (102 : Int32) := by decide +kernel
theorem kb_87 : (Int8.ofInt (87)).toInt32 = (87 : Int32) := by decide +kernel
theorem kb_89 : (Int8.ofInt (89)).toInt32 = (89 : Int32) := by decide +kernel
theorem kb_91 : (Int8.ofInt (91)).toInt32 = (91 : Int32) := by decide +kernel
theorem nn_32 : ¬ (32 : Int32) < 0 := by decide +kernel
theorem ix_32 : ix (32 : Int32) = 32 := by decide +kernel
theorem ks_800 : (Int16.ofInt (800)).toInt32 = (800 : Int32) := by decide +kernel
theorem nn_800 : ¬ (800 : Int32) < 0 := by decide +kernel
theorem ix_800 : ix (800 : Int32) = 800 := by decide +kernel
theorem nn_40 : ¬ (40 : Int32) < 0 := by decide +kernel
theorem ix_40 : ix (40 : Int32) = 40 := by decide +kernel
theorem ks_156 : (Int16.ofInt (156)).toInt32 = (156 : Int32) := by decide +kernel
theorem nn_156 : ¬ (156 : Int32) < 0 := by decide +kernel
theorem ix_156 : ix (156 : Int32) = 156 := by decide +kernel
theorem ks_360 : (Int16.ofInt (360)).toInt32 = (360 : Int32) := by decide +kernel
theorem nn_360 : ¬ (360 : Int32) < 0 := by decide +kernel
theorem ix_360 : ix (360 : Int32) = 360 := by decide +kernel
theorem ks_420 : (Int16.ofInt (420)).toInt32 = (420 : Int32) := by decide +kernel
theorem nn_420 : ¬ (420 : Int32) < 0 := by decide +kernel
theorem ix_420 : ix (420 : Int32) = 420 := by decide +kernel
theorem nn_4 : ¬ (4 : Int32) < 0 := by decide +kernel
theorem ks_3200 : (Int16.ofInt (3200)).toInt32 = (3200 : Int32) := by decide +kernel
theorem nn_3200 : ¬ (3200 : Int32) < 0 := by decide +kernel
theorem ix_3200 : ix (3200 : Int32) = 3200 := by decide +kernel
def f_X1_init_186b (k186 : Nat → Int32 → Nat → Nat → Sh → Mm → Option (Sh × Mm)) (r0 : Nat) (x1 : Int32) (n w : Nat) (Z : Sh) (S : Mm) : Option (Sh × Mm) :=
  if (8 : Int32) ≤ x1 then (
   gd (n ≤ 15 ∧ w ≤ 216) (some (Z, S))
  ) else (
   gd (r0 < Z.length ∧ sK Z r0 = (3, 20)) <| (sR Z r0 19).bind fun c_1 =>
   gd (c_1 < Z.length ∧ sK Z c_1 = (0, (sK Z c_1).2) ∧ inB x1 (sK Z c_1).2 = true) <|
   nm (uM S c_1 (ix x1) (-1 : Int32)) fun S_2 =>
   nm (x1 + (1 : Int32)) fun x1_3 =>
   k186 r0 x1_3 n w Z S_2
  )
set_option maxRecDepth 20000 in
theorem b_X1_init_186b {X : CX} {E : FE} (M0 : MC X E RX1 cX1_init 2 1 15 216) {k186 : Nat → Int32 → Nat → Nat → Sh → Mm → Option (Sh × Mm)} (hk186 : ∀ (r0 : Nat) (x1 : Int32) (n w : Nat) (Z : Sh) (S : Mm), At X E true (mQc X 15 216 E) 186 [some (.ref r0), some (.int x1)] [] Z S n w (k186 r0 x1 n w Z S)) (r0 : Nat) (x1 : Int32) (n w : Nat) (Z : Sh) (S : Mm) : At X E true (mQc X 15 216 E) 186 [some (.ref r0), some (.int x1)] [] Z S n w (f_X1_init_186b k186 r0 x1 n w Z S) := by
  have F := M0.1
  unfold f_X1_init_186b
  refine a_iload_n F dX1_init_186 rfl rfl ?_
  refine a_bipush F dX1_init_187 kb_8 ?_
  refine a_icmp_ge F 205 dX1_init_189 (by decide) ?_ ?_
  · exact k_ret M0 dX1_init_205
  · refine a_aload_n F dX1_init_192 rfl rfl ?_
    refine k_getR (k := 19) F cfX1 dX1_init_193 fl_X1_70 (by decide) fi_1_19 (fun c_1 => ?_)
    refine a_iload_n F dX1_init_196 rfl rfl ?_
    refine a_iconst F dX1_init_197 ki_m1 ?_
    refine k_iast (m := (sK Z c_1).2) F dX1_init_198 ?_
    refine a_nmS (fun S_2 => ?_)
    refine a_iincN (L' := fun x1_3 => [some (.ref r0), some (.int x1_3)]) F dX1_init_199 rfl ki_1 (lt_b rfl) (fun _ => rfl) (fun x1_3 => ?_)
    refine a_goto F 186 dX1_init_202 (by decide) ?_
    exact hk186 r0 x1_3 n w Z S_2
def f_X1_init_186 : Nat → Nat → Int32 → Nat → Nat → Sh → Mm → Option (Sh × Mm) := itr (fun _ _ _ _ _ _ => none) f_X1_init_186b
theorem b_X1_init_186 {X : CX} {E : FE} (M0 : MC X E RX1 cX1_init 2 1 15 216) : ∀ (m : Nat) (r0 : Nat) (x1 : Int32) (n w : Nat) (Z : Sh) (S : Mm), At X E true (mQc X 15 216 E) 186 [some (.ref r0), some (.int x1)] [] Z S n w (f_X1_init_186 m r0 x1 n w Z S) := by
  intro m
  induction m with
  | zero => intros; exact a_none
  | succ m ih => intro r0 x1 n w Z S; exact b_X1_init_186b M0 ih r0 x1 n w Z S
def f_X1_init_151b (k151 : Nat → Int32 → Nat → Nat → Sh → Mm → Option (Sh × Mm)) (r0 : Nat) (x1 : Int32) (n w : Nat) (Z : Sh) (S : Mm) : Option (Sh × Mm) :=
  if (28 : Int32) ≤ x1 then (
   f_X1_init_186 FU r0 (0 : Int32) n w Z S
  ) else (
   gd (r0 < Z.length ∧ sK Z r0 = (3, 20)) <| (sR Z r0 14).bind fun c_1 =>
   gd (c_1 < Z.length ∧ sK Z c_1 = (0, (sK Z c_1).2) ∧ inB x1 (sK Z c_1).2 = true) <|
   nm (uM S c_1 (ix x1) (-1 : Int32)) fun S_2 =>
   gd (r0 < Z.length ∧ sK Z r0 = (3, 20)) <| (sR Z r0 15).bind fun c_3 =>
   gd (c_3 < Z.length ∧ sK Z c_3 = (0, (sK Z c_3).2) ∧ inB x1 (sK Z c_3).2 = true) <|
   nm (uM S_2 c_3 (ix x1) (-1 : Int32)) fun S_4 =>
   gd (r0 < Z.length ∧ sK Z r0 = (3, 20)) <| (sR Z r0 16).bind fun c_5 =>
   gd (c_5 < Z.length ∧ sK Z c_5 = (0, (sK Z c_5).2) ∧ inB x1 (sK Z c_5).2 = true) <|
   nm (uM S_4 c_5 (ix x1) (-1 : Int32)) fun S_6 =>
   nm (x1 + (1 : Int32)) fun x1_7 =>
   k151 r0 x1_7 n w Z S_6
  )
set_option maxRecDepth 20000 in
theorem b_X1_init_151b {X : CX} {E : FE} (M0 : MC X E RX1 cX1_init 2 1 15 216) {k151 : Nat → Int32 → Nat → Nat → Sh → Mm → Option (Sh × Mm)} (hk151 : ∀ (r0 : Nat) (x1 : Int32) (n w : Nat) (Z : Sh) (S : Mm), At X E true (mQc X 15 216 E) 151 [some (.ref r0), some (.int x1)] [] Z S n w (k151 r0 x1 n w Z S)) (r0 : Nat) (x1 : Int32) (n w : Nat) (Z : Sh) (S : Mm) : At X E true (mQc X 15 216 E) 151 [some (.ref r0), some (.int x1)] [] Z S n w (f_X1_init_151b k151 r0 x1 n w Z S) := by
  have F := M0.1
  unfold f_X1_init_151b
  refine a_iload_n F dX1_init_151 rfl rfl ?_
  refine a_bipush F dX1_init_152 kb_28 ?_
  refine a_icmp_ge F 184 dX1_init_154 (by decide) ?_ ?_
  · refine a_iconst F dX1_init_184 ki_0 ?_
    refine a_istore_n (L' := [some (.ref r0), some (.int (0 : Int32))]) F dX1_init_185 rfl (lt_b rfl) rfl ?_
    exact b_X1_init_186 M0 FU r0 (0 : Int32) n w Z S
  · refine a_aload_n F dX1_init_157 rfl rfl ?_
    refine k_getR (k := 14) F cfX1 dX1_init_158 fl_X1_55 (by decide) fi_1_14 (fun c_1 => ?_)
    refine a_iload_n F dX1_init_161 rfl rfl ?_
    refine a_iconst F dX1_init_162 ki_m1 ?_
    refine k_iast (m := (sK Z c_1).2) F dX1_init_163 ?_
    refine a_nmS (fun S_2 => ?_)
    refine a_aload_n F dX1_init_164 rfl rfl ?_
    refine k_getR (k := 15) F cfX1 dX1_init_165 fl_X1_58 (by decide) fi_1_15 (fun c_3 => ?_)
    refine a_iload_n F dX1_init_168 rfl rfl ?_
    refine a_iconst F dX1_init_169 ki_m1 ?_
    refine k_iast (m := (sK Z c_3).2) F dX1_init_170 ?_
    refine a_nmS (fun S_4 => ?_)
    refine a_aload_n F dX1_init_171 rfl rfl ?_
    refine k_getR (k := 16) F cfX1 dX1_init_172 fl_X1_61 (by decide) fi_1_16 (fun c_5 => ?_)
    refine a_iload_n F dX1_init_175 rfl rfl ?_
    refine a_iconst F dX1_init_176 ki_m1 ?_
    refine k_iast (m := (sK Z c_5).2) F dX1_init_177 ?_
    refine a_nmS (fun S_6 => ?_)
    refine a_iincN (L' := fun x1_7 => [some (.ref r0), some (.int x1_7)]) F dX1_init_178 rfl ki_1 (lt_b rfl) (fun _ => rfl) (fun x1_7 => ?_)
    refine a_goto F 151 dX1_init_181 (by decide) ?_
    exact hk151 r0 x1_7 n w Z S_6
def f_X1_init_151 : Nat → Nat → Int32 → Nat → Nat → Sh → Mm → Option (Sh × Mm) := itr (fun _ _ _ _ _ _ => none) f_X1_init_151b
theorem b_X1_init_151 {X : CX} {E : FE} (M0 : MC X E RX1 cX1_init 2 1 15 216) : ∀ (m : Nat) (r0 : Nat) (x1 : Int32) (n w : Nat) (Z : Sh) (S : Mm), At X E true (mQc X 15 216 E) 151 [some (.ref r0), some (.int x1)] [] Z S n w (f_X1_init_151 m r0 x1 n w Z S) := by
  intro m
  induction m with
  | zero => intros; exact a_none
  | succ m ih => intro r0 x1 n w Z S; exact b_X1_init_151b M0 ih r0 x1 n w Z S
set_option maxRecDepth 100000 in
def f_X1_init_0 (r0 : Nat) (Z : Sh) (S : Mm) : Option (Sh × Mm) :=
  gd (r0 < Z.length ∧ sK Z r0 = (3, 20) ∧ (tyX1 0 = .int ∨ (0 : Int32) = 0 ∨ (0 : Int32) = 1)) <|
  nm (uM S r0 0 (0 : Int32)) fun S_1 =>
  gd (r0 < Z.length ∧ sK Z r0 = (3, 20) ∧ (tyX1 1 = .int ∨ (0 : Int32) = 0 ∨ (0 : Int32) = 1)) <|
  nm (uM S_1 r0 1 (0 : Int32)) fun S_2 =>
  gd (r0 < Z.length ∧ sK Z r0 = (3, 20) ∧ (tyX1 2 = .int ∨ (1 : Int32) = 0 ∨ (1 : Int32) = 1)) <|
  nm (uM S_2 r0 2 (1 : Int32)) fun S_3 =>
  gd (r0 < Z.length ∧ sK Z r0 = (3, 20) ∧ (tyX1 3 = .int ∨ (0 : Int32) = 0 ∨ (0 : Int32) = 1)) <|
  nm (uM S_3 r0 3 (0 : Int32)) fun S_4 =>
  gd (r0 < Z.length ∧ sK Z r0 = (3, 20) ∧ (tyX1 4 = .int ∨ (0 : Int32) = 0 ∨ (0 : Int32) = 1)) <|
  nm (uM S_4 r0 4 (0 : Int32)) fun S_5 =>
  gd (1 ≤ 15 ∧ 12 ≤ 216 ∧ Z.length < 1048576) <|
  nm (Z ++ [(0, 12, [])]) fun Z_6 =>
  nm (rM S_5 Z.length (fun _ => 0)) fun S_6 =>
  gd (r0 < Z_6.length ∧ sK Z_6 r0 = (3, 20) ∧ 5 < (Z_6.getD r0 (0, 0, [])).2.2.length) <|
  nm (zR Z_6 r0 5 Z.length) fun Z_7 =>
  gd (2 ≤ 15 ∧ 24 ≤ 216 ∧ Z_7.length < 1048576) <|
  nm (Z_7 ++ [(0, 12, [])]) fun Z_8 =>
  nm (rM S_6 Z_7.length (fun _ => 0)) fun S_8 =>
  gd (r0 < Z_8.length ∧ sK Z_8 r0 = (3, 20) ∧ 6 < (Z_8.getD r0 (0, 0, [])).2.2.length) <|
  nm (zR Z_8 r0 6 Z_7.length) fun Z_9 =>
  gd (3 ≤ 15 ∧ 36 ≤ 216 ∧ Z_9.length < 1048576) <|
  nm (Z_9 ++ [(0, 12, [])]) fun Z_10 =>
  nm (rM S_8 Z_9.length (fun _ => 0)) fun S_10 =>
  gd (r0 < Z_10.length ∧ sK Z_10 r0 = (3, 20) ∧ 7 < (Z_10.getD r0 (0, 0, [])).2.2.length) <|
  nm (zR Z_10 r0 7 Z_9.length) fun Z_11 =>
  gd (4 ≤ 15 ∧ 48 ≤ 216 ∧ Z_11.length < 1048576) <|
  nm (Z_11 ++ [(0, 12, [])]) fun Z_12 =>
  nm (rM S_10 Z_11.length (fun _ => 0)) fun S_12 =>
  gd (r0 < Z_12.length ∧ sK Z_12 r0 = (3, 20) ∧ 8 < (Z_12.getD r0 (0, 0, [])).2.2.length) <|
  nm (zR Z_12 r0 8 Z_11.length) fun Z_13 =>
  gd (5 ≤ 15 ∧ 60 ≤ 216 ∧ Z_13.length < 1048576) <|
  nm (Z_13 ++ [(0, 12, [])]) fun Z_14 =>
  nm (rM S_12 Z_13.length (fun _ => 0)) fun S_14 =>
  gd (r0 < Z_14.length ∧ sK Z_14 r0 = (3, 20) ∧ 9 < (Z_14.getD r0 (0, 0, [])).2.2.length) <|
  nm (zR Z_14 r0 9 Z_13.length) fun Z_15 =>
  gd (6 ≤ 15 ∧ 72 ≤ 216 ∧ Z_15.length < 1048576) <|
  nm (Z_15 ++ [(0, 12, [])]) fun Z_16 =>
  nm (rM S_14 Z_15.length (fun _ => 0)) fun S_16 =>
  gd (r0 < Z_16.length ∧ sK Z_16 r0 = (3, 20) ∧ 10 < (Z_16.getD r0 (0, 0, [])).2.2.length) <|
  nm (zR Z_16 r0 10 Z_15.length) fun Z_17 =>
  gd (7 ≤ 15 ∧ 84 ≤ 216 ∧ Z_17.length < 1048576) <|
  nm (Z_17 ++ [(0, 12, [])]) fun Z_18 =>
  nm (rM S_16 Z_17.length (fun _ => 0)) fun S_18 =>
  gd (r0 < Z_18.length ∧ sK Z_18 r0 = (3, 20) ∧ 11 < (Z_18.getD r0 (0, 0, [])).2.2.length) <|
  nm (zR Z_18 r0 11 Z_17.length) fun Z_19 =>
  gd (8 ≤ 15 ∧ 96 ≤ 216 ∧ Z_19.length < 1048576) <|
  nm (Z_19 ++ [(0, 12, [])]) fun Z_20 =>
  nm (rM S_18 Z_19.length (fun _ => 0)) fun S_20 =>
  gd (r0 < Z_20.length ∧ sK Z_20 r0 = (3, 20) ∧ 12 < (Z_20.getD r0 (0, 0, [])).2.2.length) <|
  nm (zR Z_20 r0 12 Z_19.length) fun Z_21 =>
  gd (9 ≤ 15 ∧ 108 ≤ 216 ∧ Z_21.length < 1048576) <|
  nm (Z_21 ++ [(0, 12, [])]) fun Z_22 =>
  nm (rM S_20 Z_21.length (fun _ => 0)) fun S_22 =>
  gd (r0 < Z_22.length ∧ sK Z_22 r0 = (3, 20) ∧ 13 < (Z_22.getD r0 (0, 0, [])).2.2.length) <|
  nm (zR Z_22 r0 13 Z_21.length) fun Z_23 =>
  gd (10 ≤ 15 ∧ 136 ≤ 216 ∧ Z_23.length < 1048576) <|
  nm (Z_23 ++ [(0, 28, [])]) fun Z_24 =>
  nm (rM S_22 Z_23.length (fun _ => 0)) fun S_24 =>
  gd (r0 < Z_24.length ∧ sK Z_24 r0 = (3, 20) ∧ 14 < (Z_24.getD r0 (0, 0, [])).2.2.length) <|
  nm (zR Z_24 r0 14 Z_23.length) fun Z_25 =>
  gd (11 ≤ 15 ∧ 164 ≤ 216 ∧ Z_25.length < 1048576) <|
  nm (Z_25 ++ [(0, 28, [])]) fun Z_26 =>
  nm (rM S_24 Z_25.length (fun _ => 0)) fun S_26 =>
  gd (r0 < Z_26.length ∧ sK Z_26 r0 = (3, 20) ∧ 15 < (Z_26.getD r0 (0, 0, [])).2.2.length) <|
  nm (zR Z_26 r0 15 Z_25.length) fun Z_27 =>
  gd (12 ≤ 15 ∧ 192 ≤ 216 ∧ Z_27.length < 1048576) <|
  nm (Z_27 ++ [(0, 28, [])]) fun Z_28 =>
  nm (rM S_26 Z_27.length (fun _ => 0)) fun S_28 =>
  gd (r0 < Z_28.length ∧ sK Z_28 r0 = (3, 20) ∧ 16 < (Z_28.getD r0 (0, 0, [])).2.2.length) <|
  nm (zR Z_28 r0 16 Z_27.length) fun Z_29 =>
  gd (13 ≤ 15 ∧ 200 ≤ 216 ∧ Z_29.length < 1048576) <|
  nm (Z_29 ++ [(0, 8, [])]) fun Z_30 =>
  nm (rM S_28 Z_29.length (fun _ => 0)) fun S_30 =>
  gd (r0 < Z_30.length ∧ sK Z_30 r0 = (3, 20) ∧ 17 < (Z_30.getD r0 (0, 0, [])).2.2.length) <|
  nm (zR Z_30 r0 17 Z_29.length) fun Z_31 =>
  gd (14 ≤ 15 ∧ 208 ≤ 216 ∧ Z_31.length < 1048576) <|
  nm (Z_31 ++ [(0, 8, [])]) fun Z_32 =>
  nm (rM S_30 Z_31.length (fun _ => 0)) fun S_32 =>
  gd (r0 < Z_32.length ∧ sK Z_32 r0 = (3, 20) ∧ 18 < (Z_32.getD r0 (0, 0, [])).2.2.length) <|
  nm (zR Z_32 r0 18 Z_31.length) fun Z_33 =>
  gd (15 ≤ 15 ∧ 216 ≤ 216 ∧ Z_33.length < 1048576) <|
  nm (Z_33 ++ [(0, 8, [])]) fun Z_34 =>
  nm (rM S_32 Z_33.length (fun _ => 0)) fun S_34 =>
  gd (r0 < Z_34.length ∧ sK Z_34 r0 = (3, 20) ∧ 19 < (Z_34.getD r0 (0, 0, [])).2.2.length) <|
  nm (zR Z_34 r0 19 Z_33.length) fun Z_35 =>
  f_X1_init_151 FU r0 (0 : Int32) 15 216 Z_35 S_34
set_option maxRecDepth 100000 in
set_option maxHeartbeats 4000000 in
theorem b_X1_init {X : CX} {E : FE} (M0 : MC X E RX1 cX1_init 2 1 15 216) (r0 : Nat) (Z : Sh) (S : Mm) : At X E true (mQc X 15 216 E) 0 [some (.ref r0), none] [] Z S 0 0 (f_X1_init_0 r0 Z S) := by
  have F := M0.1
  unfold f_X1_init_0
  refine a_aload_n F dX1_init_0 rfl rfl ?_
  refine k_obj F dX1_init_1 rfl ml_X1_3 oi_i oi_c (Nat.le_of_ble_eq_true rfl) (rm_fr M0.2.1 (by omega)) (rm_lo M0.2.1 (by omega)) ?_
  refine a_aload_n F dX1_init_4 rfl rfl ?_
  refine a_iconst F dX1_init_5 ki_0 ?_
  refine k_putI (k := 0) F cfX1 dX1_init_6 fl_X1_9 (by decide) fi_1_0 rfl (Or.inl rfl) ?_
  refine a_nmS (fun S_1 => ?_)
  refine a_aload_n F dX1_init_9 rfl rfl ?_
  refine a_iconst F dX1_init_10 ki_0 ?_
  refine k_putI (k := 1) F cfX1 dX1_init_11 fl_X1_15 (by decide) fi_1_1 rfl (Or.inl rfl) ?_
  refine a_nmS (fun S_2 => ?_)
  refine a_aload_n F dX1_init_14 rfl rfl ?_
  refine a_iconst F dX1_init_15 ki_1 ?_
  refine k_putI (k := 2) F cfX1 dX1_init_16 fl_X1_18 (by decide) fi_1_2 rfl (Or.inl rfl) ?_
  refine a_nmS (fun S_3 => ?_)
  refine a_aload_n F dX1_init_19 rfl rfl ?_
  refine a_iconst F dX1_init_20 ki_0 ?_
  refine k_putI (k := 3) F cfX1 dX1_init_21 fl_X1_21 (by decide) fi_1_3 rfl (Or.inl rfl) ?_
  refine a_nmS (fun S_4 => ?_)
  refine a_aload_n F dX1_init_24 rfl rfl ?_
  refine a_iconst F dX1_init_25 ki_0 ?_
  refine k_putI (k := 4) F cfX1 dX1_init_26 fl_X1_24 (by decide) fi_1_4 rfl (Or.inl rfl) ?_
  refine a_nmS (fun S_5 => ?_)
  refine a_aload_n F dX1_init_29 rfl rfl ?_
  refine a_bipush F dX1_init_30 kb_12 ?_
  refine k_newa (N := 12) F dX1_init_32 w_ac nn_12 ix_12 (by decide) M0.2.2.2.2.1 M0.2.2.2.2.2.1 ?_
  refine a_nmZ (fun Z_6 => ?_)
  refine a_nmS (fun S_6 => ?_)
  refine k_putR (k := 5) F M0.2.2.2.2.2.2 cfX1 dX1_init_34 fl_X1_27 (by decide) fi_1_5 rfl (fun _ => ⟨rfl, rfl⟩) ?_
  refine a_nmZ (fun Z_7 => ?_)
  refine a_aload_n F dX1_init_37 rfl rfl ?_
  refine a_bipush F dX1_init_38 kb_12 ?_
  refine k_newa (N := 12) F dX1_init_40 w_ac nn_12 ix_12 (by decide) M0.2.2.2.2.1 M0.2.2.2.2.2.1 ?_
  refine a_nmZ (fun Z_8 => ?_)
  refine a_nmS (fun S_8 => ?_)
  refine k_putR (k := 6) F M0.2.2.2.2.2.2 cfX1 dX1_init_42 fl_X1_31 (by decide) fi_1_6 rfl (fun _ => ⟨rfl, rfl⟩) ?_
  refine a_nmZ (fun Z_9 => ?_)
  refine a_aload_n F dX1_init_45 rfl rfl ?_
  refine a_bipush F dX1_init_46 kb_12 ?_
  refine k_newa (N := 12) F dX1_init_48 w_ac nn_12 ix_12 (by decide) M0.2.2.2.2.1 M0.2.2.2.2.2.1 ?_
  refine a_nmZ (fun Z_10 => ?_)
  refine a_nmS (fun S_10 => ?_)
  refine k_putR (k := 7) F M0.2.2.2.2.2.2 cfX1 dX1_init_50 fl_X1_34 (by decide) fi_1_7 rfl (fun _ => ⟨rfl, rfl⟩) ?_
  refine a_nmZ (fun Z_11 => ?_)
  refine a_aload_n F dX1_init_53 rfl rfl ?_
  refine a_bipush F dX1_init_54 kb_12 ?_
  refine k_newa (N := 12) F dX1_init_56 w_ac nn_12 ix_12 (by decide) M0.2.2.2.2.1 M0.2.2.2.2.2.1 ?_
  refine a_nmZ (fun Z_12 => ?_)
  refine a_nmS (fun S_12 => ?_)
  refine k_putR (k := 8) F M0.2.2.2.2.2.2 cfX1 dX1_init_58 fl_X1_37 (by decide) fi_1_8 rfl (fun _ => ⟨rfl, rfl⟩) ?_
  refine a_nmZ (fun Z_13 => ?_)
  refine a_aload_n F dX1_init_61 rfl rfl ?_
  refine a_bipush F dX1_init_62 kb_12 ?_
  refine k_newa (N := 12) F dX1_init_64 w_ac nn_12 ix_12 (by decide) M0.2.2.2.2.1 M0.2.2.2.2.2.1 ?_
  refine a_nmZ (fun Z_14 => ?_)
  refine a_nmS (fun S_14 => ?_)
  refine k_putR (k := 9) F M0.2.2.2.2.2.2 cfX1 dX1_init_66 fl_X1_40 (by decide) fi_1_9 rfl (fun _ => ⟨rfl, rfl⟩) ?_
  refine a_nmZ (fun Z_15 => ?_)
  refine a_aload_n F dX1_init_69 rfl rfl ?_
  refine a_bipush F dX1_init_70 kb_12 ?_
  refine k_newa (N := 12) F dX1_init_72 w_ac nn_12 ix_12 (by decide) M0.2.2.2.2.1 M0.2.2.2.2.2.1 ?_
  refine a_nmZ (fun Z_16 => ?_)
  refine a_nmS (fun S_16 => ?_)
  refine k_putR (k := 10) F M0.2.2.2.2.2.2 cfX1 dX1_init_74 fl_X1_43 (by decide) fi_1_10 rfl (fun _ => ⟨rfl, rfl⟩) ?_
  refine a_nmZ (fun Z_17 => ?_)
  refine a_aload_n F dX1_init_77 rfl rfl ?_
  refine a_bipush F dX1_init_78 kb_12 ?_
  refine k_newa (N := 12) F dX1_init_80 w_ac nn_12 ix_12 (by decide) M0.2.2.2.2.1 M0.2.2.2.2.2.1 ?_
  refine a_nmZ (fun Z_18 => ?_)
  refine a_nmS (fun S_18 => ?_)
  refine k_putR (k := 11) F M0.2.2.2.2.2.2 cfX1 dX1_init_82 fl_X1_46 (by decide) fi_1_11 rfl (fun _ => ⟨rfl, rfl⟩) ?_
  refine a_nmZ (fun Z_19 => ?_)
  refine a_aload_n F dX1_init_85 rfl rfl ?_
  refine a_bipush F dX1_init_86 kb_12 ?_
  refine k_newa (N := 12) F dX1_init_88 w_ac nn_12 ix_12 (by decide) M0.2.2.2.2.1 M0.2.2.2.2.2.1 ?_
  refine a_nmZ (fun Z_20 => ?_)
  refine a_nmS (fun S_20 => ?_)
  refine k_putR (k := 12) F M0.2.2.2.2.2.2 cfX1 dX1_init_90 fl_X1_49 (by decide) fi_1_12 rfl (fun _ => ⟨rfl, rfl⟩) ?_
  refine a_nmZ (fun Z_21 => ?_)
  refine a_aload_n F dX1_init_93 rfl rfl ?_
  refine a_bipush F dX1_init_94 kb_12 ?_
  refine k_newa (N := 12) F dX1_init_96 w_ac nn_12 ix_12 (by decide) M0.2.2.2.2.1 M0.2.2.2.2.2.1 ?_
  refine a_nmZ (fun Z_22 => ?_)
  refine a_nmS (fun S_22 => ?_)
  refine k_putR (k := 13) F M0.2.2.2.2.2.2 cfX1 dX1_init_98 fl_X1_52 (by decide) fi_1_13 rfl (fun _ => ⟨rfl, rfl⟩) ?_
  refine a_nmZ (fun Z_23 => ?_)
  refine a_aload_n F dX1_init_101 rfl rfl ?_
  refine a_bipush F dX1_init_102 kb_28 ?_
  refine k_newa (N := 28) F dX1_init_104 w_ac nn_28 ix_28 (by decide) M0.2.2.2.2.1 M0.2.2.2.2.2.1 ?_
  refine a_nmZ (fun Z_24 => ?_)
  refine a_nmS (fun S_24 => ?_)
  refine k_putR (k := 14) F M0.2.2.2.2.2.2 cfX1 dX1_init_106 fl_X1_55 (by decide) fi_1_14 rfl (fun _ => ⟨rfl, rfl⟩) ?_
  refine a_nmZ (fun Z_25 => ?_)
  refine a_aload_n F dX1_init_109 rfl rfl ?_
  refine a_bipush F dX1_init_110 kb_28 ?_
  refine k_newa (N := 28) F dX1_init_112 w_ac nn_28 ix_28 (by decide) M0.2.2.2.2.1 M0.2.2.2.2.2.1 ?_
  refine a_nmZ (fun Z_26 => ?_)
  refine a_nmS (fun S_26 => ?_)
  refine k_putR (k := 15) F M0.2.2.2.2.2.2 cfX1 dX1_init_114 fl_X1_58 (by decide) fi_1_15 rfl (fun _ => ⟨rfl, rfl⟩) ?_
  refine a_nmZ (fun Z_27 => ?_)
  refine a_aload_n F dX1_init_117 rfl rfl ?_
  refine a_bipush F dX1_init_118 kb_28 ?_
  refine k_newa (N := 28) F dX1_init_120 w_ac nn_28 ix_28 (by decide) M0.2.2.2.2.1 M0.2.2.2.2.2.1 ?_
  refine a_nmZ (fun Z_28 => ?_)
  refine a_nmS (fun S_28 => ?_)
  refine k_putR (k := 16) F M0.2.2.2.2.2.2 cfX1 dX1_init_122 fl_X1_61 (by decide) fi_1_16 rfl (fun _ => ⟨rfl, rfl⟩) ?_
  refine a_nmZ (fun Z_29 => ?_)
  refine a_aload_n F dX1_init_125 rfl rfl ?_
  refine a_bipush F dX1_init_126 kb_8 ?_
  refine k_newa (N := 8) F dX1_init_128 w_ac nn_8 ix_8 (by decide) M0.2.2.2.2.1 M0.2.2.2.2.2.1 ?_
  refine a_nmZ (fun Z_30 => ?_)
  refine a_nmS (fun S_30 => ?_)
  refine k_putR (k := 17) F M0.2.2.2.2.2.2 cfX1 dX1_init_130 fl_X1_64 (by decide) fi_1_17 rfl (fun _ => ⟨rfl, rfl⟩) ?_
  refine a_nmZ (fun Z_31 => ?_)
  refine a_aload_n F dX1_init_133 rfl rfl ?_
  refine a_bipush F dX1_init_134 kb_8 ?_
  refine k_newa (N := 8) F dX1_init_136 w_ac nn_8 ix_8 (by decide) M0.2.2.2.2.1 M0.2.2.2.2.2.1 ?_
  refine a_nmZ (fun Z_32 => ?_)
  refine a_nmS (fun S_32 => ?_)
  refine k_putR (k := 18) F M0.2.2.2.2.2.2 cfX1 dX1_init_138 fl_X1_67 (by decide) fi_1_18 rfl (fun _ => ⟨rfl, rfl⟩) ?_
  refine a_nmZ (fun Z_33 => ?_)
  refine a_aload_n F dX1_init_141 rfl rfl ?_
  refine a_bipush F dX1_init_142 kb_8 ?_
  refine k_newa (N := 8) F dX1_init_144 w_ac nn_8 ix_8 (by decide) M0.2.2.2.2.1 M0.2.2.2.2.2.1 ?_
  refine a_nmZ (fun Z_34 => ?_)
  refine a_nmS (fun S_34 => ?_)
  refine k_putR (k := 19) F M0.2.2.2.2.2.2 cfX1 dX1_init_146 fl_X1_70 (by decide) fi_1_19 rfl (fun _ => ⟨rfl, rfl⟩) ?_
  refine a_nmZ (fun Z_35 => ?_)
  refine a_iconst F dX1_init_149 ki_0 ?_
  refine a_istore_n (L' := [some (.ref r0), some (.int (0 : Int32))]) F dX1_init_150 rfl (lt_b rfl) rfl ?_
  exact b_X1_init_151 M0 FU r0 (0 : Int32) 15 216 Z_35 S_34
def f_X1_init (r0 : Nat) (Z : Sh) (S : Mm) : Option (Sh × Mm) := gd (Z.length ≤ 1048576) (f_X1_init_0 r0 Z S)
theorem c_X1_init (X : CX) (r0 : Nat) (Z : Sh) (S : Mm) : CtC X Z yX1_init cX1_init 2 1 15 216 [.ref r0] S (f_X1_init r0 Z S) :=
  ctC_of (by decide +kernel) rfl rfl (Nat.le_of_ble_eq_true rfl) (by simp [Value.category]) fun E M0 => b_X1_init M0 r0 Z S
set_option maxRecDepth 100000 in
def f_X3_init_0 (r0 : Nat) (Z : Sh) (S : Mm) : Option (Sh × Mm) :=
  gd (1 ≤ 6 ∧ 400 ≤ 522 ∧ Z.length < 1048576) <|
  nm (Z ++ [(0, 400, [])]) fun Z_1 =>
  nm (rM S Z.length (fun _ => 0)) fun S_1 =>
  gd (r0 < Z_1.length ∧ sK Z_1 r0 = (5, 8) ∧ 0 < (Z_1.getD r0 (0, 0, [])).2.2.length) <|
  nm (zR Z_1 r0 0 Z.length) fun Z_2 =>
  gd (r0 < Z_2.length ∧ sK Z_2 r0 = (5, 8) ∧ (tyX3 1 = .int ∨ (0 : Int32) = 0 ∨ (0 : Int32) = 1)) <|
  nm (uM S_1 r0 1 (0 : Int32)) fun S_3 =>
  gd (r0 < Z_2.length ∧ sK Z_2 r0 = (5, 8) ∧ (tyX3 2 = .int ∨ (0 : Int32) = 0 ∨ (0 : Int32) = 1)) <|
  nm (uM S_3 r0 2 (0 : Int32)) fun S_4 =>
  gd (2 ≤ 6 ∧ 416 ≤ 522 ∧ Z_2.length < 1048576) <|
  nm (Z_2 ++ [(0, 16, [])]) fun Z_5 =>
  nm (rM S_4 Z_2.length (fun _ => 0)) fun S_5 =>
  gd (r0 < Z_5.length ∧ sK Z_5 r0 = (5, 8) ∧ 3 < (Z_5.getD r0 (0, 0, [])).2.2.length) <|
  nm (zR Z_5 r0 3 Z_2.length) fun Z_6 =>
  gd (3 ≤ 6 ∧ 432 ≤ 522 ∧ Z_6.length < 1048576) <|
  nm (Z_6 ++ [(0, 16, [])]) fun Z_7 =>
  nm (rM S_5 Z_6.length (fun _ => 0)) fun S_7 =>
  gd (r0 < Z_7.length ∧ sK Z_7 r0 = (5, 8) ∧ 4 < (Z_7.getD r0 (0, 0, [])).2.2.length) <|
  nm (zR Z_7 r0 4 Z_6.length) fun Z_8 =>
  gd (4 ≤ 6 ∧ 448 ≤ 522 ∧ Z_8.length < 1048576) <|
  nm (Z_8 ++ [(0, 16, [])]) fun Z_9 =>
  nm (rM S_7 Z_8.length (fun _ => 0)) fun S_9 =>
  gd (r0 < Z_9.length ∧ sK Z_9 r0 = (5, 8) ∧ 5 < (Z_9.getD r0 (0, 0, [])).2.2.length) <|
  nm (zR Z_9 r0 5 Z_8.length) fun Z_10 =>
  gd (5 ≤ 6 ∧ 458 ≤ 522 ∧ Z_10.length < 1048576) <|
  nm (Z_10 ++ [(0, 10, [])]) fun Z_11 =>
  nm (rM S_9 Z_10.length (fun _ => 0)) fun S_11 =>
  gd (r0 < Z_11.length ∧ sK Z_11 r0 = (5, 8) ∧ 6 < (Z_11.getD r0 (0, 0, [])).2.2.length) <|
  nm (zR Z_11 r0 6 Z_10.length) fun Z_12 =>
  gd (6 ≤ 6 ∧ 522 ≤ 522 ∧ Z_12.length < 1048576) <|
  nm (Z_12 ++ [(0, 64, [])]) fun Z_13 =>
  nm (rM S_11 Z_12.length (fun _ => 0)) fun S_13 =>
  gd (r0 < Z_13.length ∧ sK Z_13 r0 = (5, 8) ∧ 7 < (Z_13.getD r0 (0, 0, [])).2.2.length) <|
  nm (zR Z_13 r0 7 Z_12.length) fun Z_14 =>
  gd (6 ≤ 6 ∧ 522 ≤ 522) (some (Z_14, S_13))
set_option maxRecDepth 100000 in
set_option maxHeartbeats 4000000 in
theorem b_X3_init {X : CX} {E : FE} (M0 : MC X E RX3 cX3_init 1 1 6 522) (r0 : Nat) (Z : Sh) (S : Mm) : At X E true (mQc X 6 522 E) 0 [some (.ref r0)] [] Z S 0 0 (f_X3_init_0 r0 Z S) := by
  have F := M0.1
  unfold f_X3_init_0
  refine a_aload_n F dX3_init_0 rfl rfl ?_
  refine k_obj F dX3_init_1 rfl ml_X3_3 oi_i oi_c (Nat.le_of_ble_eq_true rfl) (rm_fr M0.2.1 (by omega)) (rm_lo M0.2.1 (by omega)) ?_
  refine a_aload_n F dX3_init_4 rfl rfl ?_
  refine a_sipush F dX3_init_5 ks_400 ?_
  refine k_newa (N := 400) F dX3_init_8 w_ac nn_400 ix_400 (by decide) M0.2.2.2.2.1 M0.2.2.2.2.2.1 ?_
  refine a_nmZ (fun Z_1 => ?_)
  refine a_nmS (fun S_1 => ?_)
  refine k_putR (k := 0) F M0.2.2.2.2.2.2 cfX3 dX3_init_10 fl_X3_9 (by decide) fi_3_0 rfl (fun _ => ⟨rfl, rfl⟩) ?_
  refine a_nmZ (fun Z_2 => ?_)
  refine a_aload_n F dX3_init_13 rfl rfl ?_
  refine a_iconst F dX3_init_14 ki_0 ?_
  refine k_putI (k := 1) F cfX3 dX3_init_15 fl_X3_15 (by decide) fi_3_1 rfl (Or.inl rfl) ?_
  refine a_nmS (fun S_3 => ?_)
  refine a_aload_n F dX3_init_18 rfl rfl ?_
  refine a_iconst F dX3_init_19 ki_0 ?_
  refine k_putI (k := 2) F cfX3 dX3_init_20 fl_X3_19 (by decide) fi_3_2 rfl (Or.inl rfl) ?_
  refine a_nmS (fun S_4 => ?_)
  refine a_aload_n F dX3_init_23 rfl rfl ?_
  refine a_bipush F dX3_init_24 kb_16 ?_
  refine k_newa (N := 16) F dX3_init_26 w_ac nn_16 ix_16 (by decide) M0.2.2.2.2.1 M0.2.2.2.2.2.1 ?_
  refine a_nmZ (fun Z_5 => ?_)
  refine a_nmS (fun S_5 => ?_)
  refine k_putR (k := 3) F M0.2.2.2.2.2.2 cfX3 dX3_init_28 fl_X3_22 (by decide) fi_3_3 rfl (fun _ => ⟨rfl, rfl⟩) ?_
  refine a_nmZ (fun Z_6 => ?_)
  refine a_aload_n F dX3_init_31 rfl rfl ?_
  refine a_bipush F dX3_init_32 kb_16 ?_
  refine k_newa (N := 16) F dX3_init_34 w_ac nn_16 ix_16 (by decide) M0.2.2.2.2.1 M0.2.2.2.2.2.1 ?_
  refine a_nmZ (fun Z_7 => ?_)
  refine a_nmS (fun S_7 => ?_)
  refine k_putR (k := 4) F M0.2.2.2.2.2.2 cfX3 dX3_init_36 fl_X3_25 (by decide) fi_3_4 rfl (fun _ => ⟨rfl, rfl⟩) ?_
  refine a_nmZ (fun Z_8 => ?_)
  refine a_aload_n F dX3_init_39 rfl rfl ?_
  refine a_bipush F dX3_init_40 kb_16 ?_
  refine k_newa (N := 16) F dX3_init_42 w_ac nn_16 ix_16 (by decide) M0.2.2.2.2.1 M0.2.2.2.2.2.1 ?_
  refine a_nmZ (fun Z_9 => ?_)
  refine a_nmS (fun S_9 => ?_)
  refine k_putR (k := 5) F M0.2.2.2.2.2.2 cfX3 dX3_init_44 fl_X3_28 (by decide) fi_3_5 rfl (fun _ => ⟨rfl, rfl⟩) ?_
  refine a_nmZ (fun Z_10 => ?_)
  refine a_aload_n F dX3_init_47 rfl rfl ?_
  refine a_bipush F dX3_init_48 kb_10 ?_
  refine k_newa (N := 10) F dX3_init_50 w_ac nn_10 ix_10 (by decide) M0.2.2.2.2.1 M0.2.2.2.2.2.1 ?_
  refine a_nmZ (fun Z_11 => ?_)
  refine a_nmS (fun S_11 => ?_)
  refine k_putR (k := 6) F M0.2.2.2.2.2.2 cfX3 dX3_init_52 fl_X3_31 (by decide) fi_3_6 rfl (fun _ => ⟨rfl, rfl⟩) ?_
  refine a_nmZ (fun Z_12 => ?_)
  refine a_aload_n F dX3_init_55 rfl rfl ?_
  refine a_bipush F dX3_init_56 kb_64 ?_
  refine k_newa (N := 64) F dX3_init_58 w_ac nn_64 ix_64 (by decide) M0.2.2.2.2.1 M0.2.2.2.2.2.1 ?_
  refine a_nmZ (fun Z_13 => ?_)
  refine a_nmS (fun S_13 => ?_)
  refine k_putR (k := 7) F M0.2.2.2.2.2.2 cfX3 dX3_init_60 fl_X3_34 (by decide) fi_3_7 rfl (fun _ => ⟨rfl, rfl⟩) ?_
  refine a_nmZ (fun Z_14 => ?_)
  exact k_ret M0 dX3_init_63
def f_X3_init (r0 : Nat) (Z : Sh) (S : Mm) : Option (Sh × Mm) := gd (Z.length ≤ 1048576) (f_X3_init_0 r0 Z S)
theorem c_X3_init (X : CX) (r0 : Nat) (Z : Sh) (S : Mm) : CtC X Z yX3_init cX3_init 1 1 6 522 [.ref r0] S (f_X3_init r0 Z S) :=
  ctC_of (by decide +kernel) rfl rfl (Nat.le_of_ble_eq_true rfl) (by simp [Value.category]) fun E M0 => b_X3_init M0 r0 Z S
set_option maxRecDepth 100000 in
def f_X6_init_0 (r0 : Nat) (Z : Sh) (S : Mm) : Option (Sh × Mm) :=
  gd (1 ≤ 14 ∧ 8 ≤ 1310 ∧ Z.length < 1048576) <|
  nm (Z ++ [(5, 8, List.replicate 8 none)]) fun Z_1 =>
  nm (rM S Z.length (fun _ => 0)) fun S_1 =>
  gd (7 ≤ 14 ∧ 530 ≤ 1310) <| (f_X3_init Z.length Z_1 S_1).bind fun q_2 => gd (q_2.1.length ≤ 1048576) <|
  gd (r0 < q_2.1.length ∧ sK q_2.1 r0 = (8, 9) ∧ 0 < (q_2.1.getD r0 (0, 0, [])).2.2.length) <|
  nm (zR q_2.1 r0 0 Z.length) fun Z_3 =>
  gd (8 ≤ 14 ∧ 542 ≤ 1310 ∧ Z_3.length < 1048576) <|
  nm (Z_3 ++ [(0, 12, [])]) fun Z_4 =>
  nm (rM q_2.2 Z_3.length (fun _ => 0)) fun S_4 =>
  gd (r0 < Z_4.length ∧ sK Z_4 r0 = (8, 9) ∧ 1 < (Z_4.getD r0 (0, 0, [])).2.2.length) <|
  nm (zR Z_4 r0 1 Z_3.length) fun Z_5 =>
  gd (9 ≤ 14 ∧ 686 ≤ 1310 ∧ Z_5.length < 1048576) <|
  nm (Z_5 ++ [(0, 144, [])]) fun Z_6 =>
  nm (rM S_4 Z_5.length (fun _ => 0)) fun S_6 =>
  gd (r0 < Z_6.length ∧ sK Z_6 r0 = (8, 9) ∧ 2 < (Z_6.getD r0 (0, 0, [])).2.2.length) <|
  nm (zR Z_6 r0 2 Z_5.length) fun Z_7 =>
  gd (10 ≤ 14 ∧ 830 ≤ 1310 ∧ Z_7.length < 1048576) <|
  nm (Z_7 ++ [(0, 144, [])]) fun Z_8 =>
  nm (rM S_6 Z_7.length (fun _ => 0)) fun S_8 =>
  gd (r0 < Z_8.length ∧ sK Z_8 r0 = (8, 9) ∧ 3 < (Z_8.getD r0 (0, 0, [])).2.2.length) <|
  nm (zR Z_8 r0 3 Z_7.length) fun Z_9 =>
  gd (11 ≤ 14 ∧ 974 ≤ 1310 ∧ Z_9.length < 1048576) <|
  nm (Z_9 ++ [(0, 144, [])]) fun Z_10 =>
  nm (rM S_8 Z_9.length (fun _ => 0)) fun S_10 =>
  gd (r0 < Z_10.length ∧ sK Z_10 r0 = (8, 9) ∧ 4 < (Z_10.getD r0 (0, 0, [])).2.2.length) <|
  nm (zR Z_10 r0 4 Z_9.length) fun Z_11 =>
  gd (r0 < Z_11.length ∧ sK Z_11 r0 = (8, 9) ∧ (tyX6 5 = .int ∨ (0 : Int32) = 0 ∨ (0 : Int32) = 1)) <|
  nm (uM S_10 r0 5 (0 : Int32)) fun S_12 =>
  gd (12 ≤ 14 ∧ 1294 ≤ 1310 ∧ Z_11.length < 1048576) <|
  nm (Z_11 ++ [(0, 320, [])]) fun Z_13 =>
  nm (rM S_12 Z_11.length (fun _ => 0)) fun S_13 =>
  gd (r0 < Z_13.length ∧ sK Z_13 r0 = (8, 9) ∧ 6 < (Z_13.getD r0 (0, 0, [])).2.2.length) <|
  nm (zR Z_13 r0 6 Z_11.length) fun Z_14 =>
  gd (13 ≤ 14 ∧ 1302 ≤ 1310 ∧ Z_14.length < 1048576) <|
  nm (Z_14 ++ [(0, 8, [])]) fun Z_15 =>
  nm (rM S_13 Z_14.length (fun _ => 0)) fun S_15 =>
  gd (r0 < Z_15.length ∧ sK Z_15 r0 = (8, 9) ∧ 7 < (Z_15.getD r0 (0, 0, [])).2.2.length) <|
  nm (zR Z_15 r0 7 Z_14.length) fun Z_16 =>
  gd (14 ≤ 14 ∧ 1310 ≤ 1310 ∧ Z_16.length < 1048576) <|
  nm (Z_16 ++ [(0, 8, [])]) fun Z_17 =>
  nm (rM S_15 Z_16.length (fun _ => 0)) fun S_17 =>
  gd (r0 < Z_17.length ∧ sK Z_17 r0 = (8, 9) ∧ 8 < (Z_17.getD r0 (0, 0, [])).2.2.length) <|
  nm (zR Z_17 r0 8 Z_16.length) fun Z_18 =>
  gd (14 ≤ 14 ∧ 1310 ≤ 1310) (some (Z_18, S_17))
set_option maxRecDepth 100000 in
set_option maxHeartbeats 4000000 in
theorem b_X6_init {X : CX} {E : FE} (M0 : MC X E RX6 cX6_init 1 2 14 1310) (r0 : Nat) (Z : Sh) (S : Mm) : At X E true (mQc X 14 1310 E) 0 [some (.ref r0)] [] Z S 0 0 (f_X6_init_0 r0 Z S) := by
  have F := M0.1
  unfold f_X6_init_0
  refine a_aload_n F dX6_init_0 rfl rfl ?_
  refine k_obj F dX6_init_1 rfl ml_X6_3 oi_i oi_c (Nat.le_of_ble_eq_true rfl) (rm_fr M0.2.1 (by omega)) (rm_lo M0.2.1 (by omega)) ?_
  refine a_aload_n F dX6_init_4 rfl rfl ?_
  refine k_new F cfX3 hdX3 dX6_init_5 cl_X6_9 win_3 wii_3 M0.2.2.2.2.1 M0.2.2.2.2.2.1 ?_
  refine a_nmZ (fun Z_1 => ?_)
  refine a_nmS (fun S_1 => ?_)
  refine a_dup F dX6_init_8 rfl ?_
  refine k_callN (host := RX10) F (As := []) (c_X3_init X Z.length Z_1 S_1) mw_X3_init (by decide +kernel) im_X3_init rfl M0.2.1 (Nat.le_of_ble_eq_true rfl) M0.2.2.2.2.1 M0.2.2.2.2.2.1 rfl rfl (Nat.le_of_ble_eq_true rfl) dX6_init_9 rfl (fun q_2 => ?_)
  refine k_putR (k := 0) F M0.2.2.2.2.2.2 cfX6 dX6_init_12 fl_X6_12 (by decide) fi_6_0 rfl (fun _ => ⟨rfl, rfl⟩) ?_
  refine a_nmZ (fun Z_3 => ?_)
  refine a_aload_n F dX6_init_15 rfl rfl ?_
  refine a_bipush F dX6_init_16 kb_12 ?_
  refine k_newa (N := 12) F dX6_init_18 w_ac nn_12 ix_12 (by decide) M0.2.2.2.2.1 M0.2.2.2.2.2.1 ?_
  refine a_nmZ (fun Z_4 => ?_)
  refine a_nmS (fun S_4 => ?_)
  refine k_putR (k := 1) F M0.2.2.2.2.2.2 cfX6 dX6_init_20 fl_X6_18 (by decide) fi_6_1 rfl (fun _ => ⟨rfl, rfl⟩) ?_
  refine a_nmZ (fun Z_5 => ?_)
  refine a_aload_n F dX6_init_23 rfl rfl ?_
  refine a_sipush F dX6_init_24 ks_144 ?_
  refine k_newa (N := 144) F dX6_init_27 w_ac nn_144 ix_144 (by decide) M0.2.2.2.2.1 M0.2.2.2.2.2.1 ?_
  refine a_nmZ (fun Z_6 => ?_)
  refine a_nmS (fun S_6 => ?_)
  refine k_putR (k := 2) F M0.2.2.2.2.2.2 cfX6 dX6_init_29 fl_X6_22 (by decide) fi_6_2 rfl (fun _ => ⟨rfl, rfl⟩) ?_
  refine a_nmZ (fun Z_7 => ?_)
  refine a_aload_n F dX6_init_32 rfl rfl ?_
  refine a_sipush F dX6_init_33 ks_144 ?_
  refine k_newa (N := 144) F dX6_init_36 w_ac nn_144 ix_144 (by decide) M0.2.2.2.2.1 M0.2.2.2.2.2.1 ?_
  refine a_nmZ (fun Z_8 => ?_)
  refine a_nmS (fun S_8 => ?_)
  refine k_putR (k := 3) F M0.2.2.2.2.2.2 cfX6 dX6_init_38 fl_X6_25 (by decide) fi_6_3 rfl (fun _ => ⟨rfl, rfl⟩) ?_
  refine a_nmZ (fun Z_9 => ?_)
  refine a_aload_n F dX6_init_41 rfl rfl ?_
  refine a_sipush F dX6_init_42 ks_144 ?_
  refine k_newa (N := 144) F dX6_init_45 w_ac nn_144 ix_144 (by decide) M0.2.2.2.2.1 M0.2.2.2.2.2.1 ?_
  refine a_nmZ (fun Z_10 => ?_)
  refine a_nmS (fun S_10 => ?_)
  refine k_putR (k := 4) F M0.2.2.2.2.2.2 cfX6 dX6_init_47 fl_X6_28 (by decide) fi_6_4 rfl (fun _ => ⟨rfl, rfl⟩) ?_
  refine a_nmZ (fun Z_11 => ?_)
  refine a_aload_n F dX6_init_50 rfl rfl ?_
  refine a_iconst F dX6_init_51 ki_0 ?_
  refine k_putI (k := 5) F cfX6 dX6_init_52 fl_X6_31 (by decide) fi_6_5 rfl (Or.inl rfl) ?_
  refine a_nmS (fun S_12 => ?_)
  refine a_aload_n F dX6_init_55 rfl rfl ?_
  refine a_sipush F dX6_init_56 ks_320 ?_
  refine k_newa (N := 320) F dX6_init_59 w_ac nn_320 ix_320 (by decide) M0.2.2.2.2.1 M0.2.2.2.2.2.1 ?_
  refine a_nmZ (fun Z_13 => ?_)
  refine a_nmS (fun S_13 => ?_)
  refine k_putR (k := 6) F M0.2.2.2.2.2.2 cfX6 dX6_init_61 fl_X6_35 (by decide) fi_6_6 rfl (fun _ => ⟨rfl, rfl⟩) ?_
  refine a_nmZ (fun Z_14 => ?_)
  refine a_aload_n F dX6_init_64 rfl rfl ?_
  refine a_bipush F dX6_init_65 kb_8 ?_
  refine k_newa (N := 8) F dX6_init_67 w_ac nn_8 ix_8 (by decide) M0.2.2.2.2.1 M0.2.2.2.2.2.1 ?_
  refine a_nmZ (fun Z_15 => ?_)
  refine a_nmS (fun S_15 => ?_)
  refine k_putR (k := 7) F M0.2.2.2.2.2.2 cfX6 dX6_init_69 fl_X6_38 (by decide) fi_6_7 rfl (fun _ => ⟨rfl, rfl⟩) ?_
  refine a_nmZ (fun Z_16 => ?_)
  refine a_aload_n F dX6_init_72 rfl rfl ?_
  refine a_bipush F dX6_init_73 kb_8 ?_
  refine k_newa (N := 8) F dX6_init_75 w_ac nn_8 ix_8 (by decide) M0.2.2.2.2.1 M0.2.2.2.2.2.1 ?_
  refine a_nmZ (fun Z_17 => ?_)
  refine a_nmS (fun S_17 => ?_)
  refine k_putR (k := 8) F M0.2.2.2.2.2.2 cfX6 dX6_init_77 fl_X6_41 (by decide) fi_6_8 rfl (fun _ => ⟨rfl, rfl⟩) ?_
  refine a_nmZ (fun Z_18 => ?_)
  exact k_ret M0 dX6_init_80
def f_X6_init (r0 : Nat) (Z : Sh) (S : Mm) : Option (Sh × Mm) := gd (Z.length ≤ 1048576) (f_X6_init_0 r0 Z S)
theorem c_X6_init (X : CX) (r0 : Nat) (Z : Sh) (S : Mm) : CtC X Z yX6_init cX6_init 1 2 14 1310 [.ref r0] S (f_X6_init r0 Z S) :=
  ctC_of (by decide +kernel) rfl rfl (Nat.le_of_ble_eq_true rfl) (by simp [Value.category]) fun E M0 => b_X6_init M0 r0 Z S
set_option maxRecDepth 100000 in
def f_X0_init_0 (r0 : Nat) (Z : Sh) (S : Mm) : Option (Sh × Mm) :=
  gd (1 ≤ 1 ∧ 1000 ≤ 1000 ∧ Z.length < 1048576) <|
  nm (Z ++ [(0, 1000, [])]) fun Z_1 =>
  nm (rM S Z.length (fun _ => 0)) fun S_1 =>
  gd (r0 < Z_1.length ∧ sK Z_1 r0 = (2, 2) ∧ 0 < (Z_1.getD r0 (0, 0, [])).2.2.length) <|
  nm (zR Z_1 r0 0 Z.length) fun Z_2 =>
  gd (r0 < Z_2.length ∧ sK Z_2 r0 = (2, 2) ∧ (tyX0 1 = .int ∨ (0 : Int32) = 0 ∨ (0 : Int32) = 1)) <|
  nm (uM S_1 r0 1 (0 : Int32)) fun S_3 =>
  gd (1 ≤ 1 ∧ 1000 ≤ 1000) (some (Z_2, S_3))
set_option maxRecDepth 100000 in
set_option maxHeartbeats 4000000 in
theorem b_X0_init {X : CX} {E : FE} (M0 : MC X E RX0 cX0_init 1 1 1 1000) (r0 : Nat) (Z : Sh) (S : Mm) : At X E true (mQc X 1 1000 E) 0 [some (.ref r0)] [] Z S 0 0 (f_X0_init_0 r0 Z S) := by
  have F := M0.1
  unfold f_X0_init_0
  refine a_aload_n F dX0_init_0 rfl rfl ?_
  refine k_obj F dX0_init_1 rfl ml_X0_3 oi_i oi_c (Nat.le_of_ble_eq_true rfl) (rm_fr M0.2.1 (by omega)) (rm_lo M0.2.1 (by omega)) ?_
  refine a_aload_n F dX0_init_4 rfl rfl ?_
  refine a_sipush F dX0_init_5 ks_1000 ?_
  refine k_newa (N := 1000) F dX0_init_8 w_ac nn_1000 ix_1000 (by decide) M0.2.2.2.2.1 M0.2.2.2.2.2.1 ?_
  refine a_nmZ (fun Z_1 => ?_)
  refine a_nmS (fun S_1 => ?_)
  refine k_putR (k := 0) F M0.2.2.2.2.2.2 cfX0 dX0_init_10 fl_X0_11 (by decide) fi_0_0 rfl (fun _ => ⟨rfl, rfl⟩) ?_
  refine a_nmZ (fun Z_2 => ?_)
  refine a_aload_n F dX0_init_13 rfl rfl ?_
  refine a_iconst F dX0_init_14 ki_0 ?_
  refine k_putI (k := 1) F cfX0 dX0_init_15 fl_X0_15 (by decide) fi_0_1 rfl (Or.inl rfl) ?_
  refine a_nmS (fun S_3 => ?_)
  exact k_ret M0 dX0_init_18
def f_X0_init (r0 : Nat) (Z : Sh) (S : Mm) : Option (Sh × Mm) := gd (Z.length ≤ 1048576) (f_X0_init_0 r0 Z S)
theorem c_X0_init (X : CX) (r0 : Nat) (Z : Sh) (S : Mm) : CtC X Z yX0_init cX0_init 1 1 1 1000 [.ref r0] S (f_X0_init r0 Z S) :=
  ctC_of (by decide +kernel) rfl rfl (Nat.le_of_ble_eq_true rfl) (by simp [Value.category]) fun E M0 => b_X0_init M0 r0 Z S
def f_X2_init_33b (k33 : Nat → Int32 → Nat → Nat → Sh → Mm → Option (Sh × Mm)) (r0 : Nat) (x1 : Int32) (n w : Nat) (Z : Sh) (S : Mm) : Option (Sh × Mm) :=
  if (8 : Int32) ≤ x1 then (
   gd (n ≤ 130 ∧ w ≤ 1904) (some (Z, S))
  ) else (
   gd (r0 < Z.length ∧ sK Z r0 = (4, 4)) <| (sR Z r0 0).bind fun c_1 =>
   gd ((n + 1) ≤ 130 ∧ (w + 20) ≤ 1904 ∧ Z.length < 1048576) <|
   nm (Z ++ [(3, 20, List.replicate 20 none)]) fun Z_2 =>
   nm (rM S Z.length (fun _ => 0)) fun S_2 =>
   gd ((n + 16) ≤ 130 ∧ (w + 236) ≤ 1904) <| (f_X1_init Z.length Z_2 S_2).bind fun q_3 => gd (q_3.1.length ≤ 1048576) <|
   gd (c_1 < q_3.1.length ∧ sK q_3.1 c_1 = (1, 8) ∧ inB x1 8 = true ∧ ix x1 < (q_3.1.getD c_1 (0, 0, [])).2.2.length ∧ Z.length < q_3.1.length ∧ sK q_3.1 Z.length = (3, 20)) <|
   nm (zR q_3.1 c_1 (ix x1) Z.length) fun Z_4 =>
   nm (x1 + (1 : Int32)) fun x1_5 =>
   k33 r0 x1_5 (n + 16) (w + 236) Z_4 q_3.2
  )
set_option maxRecDepth 20000 in
theorem b_X2_init_33b {X : CX} {E : FE} (M0 : MC X E RX2 cX2_init 2 2 130 1904) {k33 : Nat → Int32 → Nat → Nat → Sh → Mm → Option (Sh × Mm)} (hk33 : ∀ (r0 : Nat) (x1 : Int32) (n w : Nat) (Z : Sh) (S : Mm), At X E true (mQc X 130 1904 E) 33 [some (.ref r0), some (.int x1)] [] Z S n w (k33 r0 x1 n w Z S)) (r0 : Nat) (x1 : Int32) (n w : Nat) (Z : Sh) (S : Mm) : At X E true (mQc X 130 1904 E) 33 [some (.ref r0), some (.int x1)] [] Z S n w (f_X2_init_33b k33 r0 x1 n w Z S) := by
  have F := M0.1
  unfold f_X2_init_33b
  refine a_iload_n F dX2_init_33 rfl rfl ?_
  refine a_bipush F dX2_init_34 kb_8 ?_
  refine a_icmp_ge F 58 dX2_init_36 (by decide) ?_ ?_
  · exact k_ret M0 dX2_init_58
  · refine a_aload_n F dX2_init_39 rfl rfl ?_
    refine k_getR (k := 0) F cfX2 dX2_init_40 fl_X2_11 (by decide) fi_2_0 (fun c_1 => ?_)
    refine a_iload_n F dX2_init_43 rfl rfl ?_
    refine k_new F cfX1 hdX1 dX2_init_44 cl_X2_9 win_1 wii_1 M0.2.2.2.2.1 M0.2.2.2.2.2.1 ?_
    refine a_nmZ (fun Z_2 => ?_)
    refine a_nmS (fun S_2 => ?_)
    refine a_dup F dX2_init_47 rfl ?_
    refine k_call F (As := []) (c_X1_init X Z.length Z_2 S_2) mw_X1_init ml_X2_26 im_X1_init rfl M0.2.1 (Nat.le_of_ble_eq_true rfl) M0.2.2.2.2.1 M0.2.2.2.2.2.1 rfl rfl (Nat.le_of_ble_eq_true rfl) dX2_init_48 rfl (fun q_3 => ?_)
    refine k_aast (m := 8) F dX2_init_51 ?_
    refine a_nmZ (fun Z_4 => ?_)
    refine a_iincN (L' := fun x1_5 => [some (.ref r0), some (.int x1_5)]) F dX2_init_52 rfl ki_1 (lt_b rfl) (fun _ => rfl) (fun x1_5 => ?_)
    refine a_goto F 33 dX2_init_55 (by decide) ?_
    exact hk33 r0 x1_5 (n + 16) (w + 236) Z_4 q_3.2
def f_X2_init_33 : Nat → Nat → Int32 → Nat → Nat → Sh → Mm → Option (Sh × Mm) := itr (fun _ _ _ _ _ _ => none) f_X2_init_33b
theorem b_X2_init_33 {X : CX} {E : FE} (M0 : MC X E RX2 cX2_init 2 2 130 1904) : ∀ (m : Nat) (r0 : Nat) (x1 : Int32) (n w : Nat) (Z : Sh) (S : Mm), At X E true (mQc X 130 1904 E) 33 [some (.ref r0), some (.int x1)] [] Z S n w (f_X2_init_33 m r0 x1 n w Z S) := by
  intro m
  induction m with
  | zero => intros; exact a_none
  | succ m ih => intro r0 x1 n w Z S; exact b_X2_init_33b M0 ih r0 x1 n w Z S
set_option maxRecDepth 100000 in
def f_X2_init_0 (r0 : Nat) (Z : Sh) (S : Mm) : Option (Sh × Mm) :=
  gd (1 ≤ 130 ∧ 8 ≤ 1904 ∧ Z.length < 1048576) <|
  nm (Z ++ [(1, 8, List.replicate 8 none)]) fun Z_1 =>
  nm (rM S Z.length (fun _ => 0)) fun S_1 =>
  gd (r0 < Z_1.length ∧ sK Z_1 r0 = (4, 4) ∧ 0 < (Z_1.getD r0 (0, 0, [])).2.2.length) <|
  nm (zR Z_1 r0 0 Z.length) fun Z_2 =>
  gd (2 ≤ 130 ∧ 16 ≤ 1904 ∧ Z_2.length < 1048576) <|
  nm (Z_2 ++ [(0, 8, [])]) fun Z_3 =>
  nm (rM S_1 Z_2.length (fun _ => 0)) fun S_3 =>
  gd (r0 < Z_3.length ∧ sK Z_3 r0 = (4, 4) ∧ 1 < (Z_3.getD r0 (0, 0, [])).2.2.length) <|
  nm (zR Z_3 r0 1 Z_2.length) fun Z_4 =>
  gd (r0 < Z_4.length ∧ sK Z_4 r0 = (4, 4) ∧ (tyX2 2 = .int ∨ (0 : Int32) = 0 ∨ (0 : Int32) = 1)) <|
  nm (uM S_3 r0 2 (0 : Int32)) fun S_5 =>
  gd (r0 < Z_4.length ∧ sK Z_4 r0 = (4, 4) ∧ (tyX2 3 = .int ∨ (0 : Int32) = 0 ∨ (0 : Int32) = 1)) <|
  nm (uM S_5 r0 3 (0 : Int32)) fun S_6 =>
  f_X2_init_33 FU r0 (0 : Int32) 2 16 Z_4 S_6
set_option maxRecDepth 100000 in
set_option maxHeartbeats 4000000 in
theorem b_X2_init {X : CX} {E : FE} (M0 : MC X E RX2 cX2_init 2 2 130 1904) (r0 : Nat) (Z : Sh) (S : Mm) : At X E true (mQc X 130 1904 E) 0 [some (.ref r0), none] [] Z S 0 0 (f_X2_init_0 r0 Z S) := by
  have F := M0.1
  unfold f_X2_init_0
  refine a_aload_n F dX2_init_0 rfl rfl ?_
  refine k_obj F dX2_init_1 rfl ml_X2_1 oi_i oi_c (Nat.le_of_ble_eq_true rfl) (rm_fr M0.2.1 (by omega)) (rm_lo M0.2.1 (by omega)) ?_
  refine a_aload_n F dX2_init_4 rfl rfl ?_
  refine a_bipush F dX2_init_5 kb_8 ?_
  refine k_anew (N := 8) F dX2_init_7 cl_X2_9 nn_8 ix_8 (by decide) M0.2.2.2.2.1 M0.2.2.2.2.2.1 ?_
  refine a_nmZ (fun Z_1 => ?_)
  refine a_nmS (fun S_1 => ?_)
  refine k_putR (k := 0) F M0.2.2.2.2.2.2 cfX2 dX2_init_10 fl_X2_11 (by decide) fi_2_0 rfl (fun _ => ⟨rfl, rfl⟩) ?_
  refine a_nmZ (fun Z_2 => ?_)
  refine a_aload_n F dX2_init_13 rfl rfl ?_
  refine a_bipush F dX2_init_14 kb_8 ?_
  refine k_newa (N := 8) F dX2_init_16 w_ac nn_8 ix_8 (by decide) M0.2.2.2.2.1 M0.2.2.2.2.2.1 ?_
  refine a_nmZ (fun Z_3 => ?_)
  refine a_nmS (fun S_3 => ?_)
  refine k_putR (k := 1) F M0.2.2.2.2.2.2 cfX2 dX2_init_18 fl_X2_15 (by decide) fi_2_1 rfl (fun _ => ⟨rfl, rfl⟩) ?_
  refine a_nmZ (fun Z_4 => ?_)
  refine a_aload_n F dX2_init_21 rfl rfl ?_
  refine a_iconst F dX2_init_22 ki_0 ?_
  refine k_putI (k := 2) F cfX2 dX2_init_23 fl_X2_19 (by decide) fi_2_2 rfl (Or.inl rfl) ?_
  refine a_nmS (fun S_5 => ?_)
  refine a_aload_n F dX2_init_26 rfl rfl ?_
  refine a_iconst F dX2_init_27 ki_0 ?_
  refine k_putI (k := 3) F cfX2 dX2_init_28 fl_X2_23 (by decide) fi_2_3 rfl (Or.inl rfl) ?_
  refine a_nmS (fun S_6 => ?_)
  refine a_iconst F dX2_init_31 ki_0 ?_
  refine a_istore_n (L' := [some (.ref r0), some (.int (0 : Int32))]) F dX2_init_32 rfl (lt_b rfl) rfl ?_
  exact b_X2_init_33 M0 FU r0 (0 : Int32) 2 16 Z_4 S_6
def f_X2_init (r0 : Nat) (Z : Sh) (S : Mm) : Option (Sh × Mm) := gd (Z.length ≤ 1048576) (f_X2_init_0 r0 Z S)
theorem c_X2_init (X : CX) (r0 : Nat) (Z : Sh) (S : Mm) : CtC X Z yX2_init cX2_init 2 2 130 1904 [.ref r0] S (f_X2_init r0 Z S) :=
  ctC_of (by decide +kernel) rfl rfl (Nat.le_of_ble_eq_true rfl) (by simp [Value.category]) fun E M0 => b_X2_init M0 r0 Z S
set_option maxRecDepth 100000 in
def f_X7_init_0 (r0 : Nat) (r1 : Nat) (r2 : Nat) (Z : Sh) (S : Mm) : Option (Sh × Mm) :=
  gd (1 ≤ 18 ∧ 20 ≤ 253 ∧ Z.length < 1048576) <|
  nm (Z ++ [(3, 20, List.replicate 20 none)]) fun Z_1 =>
  nm (rM S Z.length (fun _ => 0)) fun S_1 =>
  gd (16 ≤ 18 ∧ 236 ≤ 253) <| (f_X1_init Z.length Z_1 S_1).bind fun q_2 => gd (q_2.1.length ≤ 1048576) <|
  gd (r0 < q_2.1.length ∧ sK q_2.1 r0 = (9, 5) ∧ 2 < (q_2.1.getD r0 (0, 0, [])).2.2.length) <|
  nm (zR q_2.1 r0 2 Z.length) fun Z_3 =>
  gd (17 ≤ 18 ∧ 248 ≤ 253 ∧ Z_3.length < 1048576) <|
  nm (Z_3 ++ [(0, 12, [])]) fun Z_4 =>
  nm (rM q_2.2 Z_3.length (fun _ => 0)) fun S_4 =>
  gd (r0 < Z_4.length ∧ sK Z_4 r0 = (9, 5) ∧ 3 < (Z_4.getD r0 (0, 0, [])).2.2.length) <|
  nm (zR Z_4 r0 3 Z_3.length) fun Z_5 =>
  gd (18 ≤ 18 ∧ 253 ≤ 253 ∧ Z_5.length < 1048576) <|
  nm (Z_5 ++ [(0, 5, [])]) fun Z_6 =>
  nm (rM S_4 Z_5.length (fun _ => 0)) fun S_6 =>
  gd (r0 < Z_6.length ∧ sK Z_6 r0 = (9, 5) ∧ 4 < (Z_6.getD r0 (0, 0, [])).2.2.length) <|
  nm (zR Z_6 r0 4 Z_5.length) fun Z_7 =>
  gd (r0 < Z_7.length ∧ sK Z_7 r0 = (9, 5) ∧ 0 < (Z_7.getD r0 (0, 0, [])).2.2.length) <|
  nm (zR Z_7 r0 0 r1) fun Z_8 =>
  gd (r0 < Z_8.length ∧ sK Z_8 r0 = (9, 5) ∧ 1 < (Z_8.getD r0 (0, 0, [])).2.2.length) <|
  nm (zR Z_8 r0 1 r2) fun Z_9 =>
  gd (18 ≤ 18 ∧ 253 ≤ 253) (some (Z_9, S_6))
set_option maxRecDepth 100000 in
set_option maxHeartbeats 4000000 in
theorem b_X7_init {X : CX} {E : FE} (M0 : MC X E RX7 cX7_init 3 2 18 253) (r0 : Nat) (r1 : Nat) (r2 : Nat) (Z : Sh) (S : Mm) : At X E true (mQc X 18 253 E) 0 [some (.ref r0), some (.ref r1), some (.ref r2)] [] Z S 0 0 (f_X7_init_0 r0 r1 r2 Z S) := by
  have F := M0.1
  unfold f_X7_init_0
  refine a_aload_n F dX7_init_0 rfl rfl ?_
  refine k_obj F dX7_init_1 rfl ml_X7_3 oi_i oi_c (Nat.le_of_ble_eq_true rfl) (rm_fr M0.2.1 (by omega)) (rm_lo M0.2.1 (by omega)) ?_
  refine a_aload_n F dX7_init_4 rfl rfl ?_
  refine k_new F cfX1 hdX1 dX7_init_5 cl_X7_9 win_1 wii_1 M0.2.2.2.2.1 M0.2.2.2.2.2.1 ?_
  refine a_nmZ (fun Z_1 => ?_)
  refine a_nmS (fun S_1 => ?_)
  refine a_dup F dX7_init_8 rfl ?_
  refine k_call F (As := []) (c_X1_init X Z.length Z_1 S_1) mw_X1_init ml_X7_11 im_X1_init rfl M0.2.1 (Nat.le_of_ble_eq_true rfl) M0.2.2.2.2.1 M0.2.2.2.2.2.1 rfl rfl (Nat.le_of_ble_eq_true rfl) dX7_init_9 rfl (fun q_2 => ?_)
  refine k_putR (k := 2) F M0.2.2.2.2.2.2 cfX7 dX7_init_12 fl_X7_12 (by decide) fi_7_2 rfl (fun _ => ⟨rfl, rfl⟩) ?_
  refine a_nmZ (fun Z_3 => ?_)
  refine a_aload_n F dX7_init_15 rfl rfl ?_
  refine a_bipush F dX7_init_16 kb_12 ?_
  refine k_newa (N := 12) F dX7_init_18 w_ac nn_12 ix_12 (by decide) M0.2.2.2.2.1 M0.2.2.2.2.2.1 ?_
  refine a_nmZ (fun Z_4 => ?_)
  refine a_nmS (fun S_4 => ?_)
  refine k_putR (k := 3) F M0.2.2.2.2.2.2 cfX7 dX7_init_20 fl_X7_18 (by decide) fi_7_3 rfl (fun _ => ⟨rfl, rfl⟩) ?_
  refine a_nmZ (fun Z_5 => ?_)
  refine a_aload_n F dX7_init_23 rfl rfl ?_
  refine a_iconst F dX7_init_24 ki_5 ?_
  refine k_newa (N := 5) F dX7_init_25 w_ac nn_5 ix_5 (by decide) M0.2.2.2.2.1 M0.2.2.2.2.2.1 ?_
  refine a_nmZ (fun Z_6 => ?_)
  refine a_nmS (fun S_6 => ?_)
  refine k_putR (k := 4) F M0.2.2.2.2.2.2 cfX7 dX7_init_27 fl_X7_22 (by decide) fi_7_4 rfl (fun _ => ⟨rfl, rfl⟩) ?_
  refine a_nmZ (fun Z_7 => ?_)
  refine a_aload_n F dX7_init_30 rfl rfl ?_
  refine a_aload_n F dX7_init_31 rfl rfl ?_
  refine k_putR (k := 0) F M0.2.2.2.2.2.2 cfX7 dX7_init_32 fl_X7_25 (by decide) fi_7_0 rfl (fun _ => ⟨rfl, rfl⟩) ?_
  refine a_nmZ (fun Z_8 => ?_)
  refine a_aload_n F dX7_init_35 rfl rfl ?_
  refine a_aload_n F dX7_init_36 rfl rfl ?_
  refine k_putR (k := 1) F M0.2.2.2.2.2.2 cfX7 dX7_init_37 fl_X7_28 (by decide) fi_7_1 rfl (fun _ => ⟨rfl, rfl⟩) ?_
  refine a_nmZ (fun Z_9 => ?_)
  exact k_ret M0 dX7_init_40
def f_X7_init (r0 : Nat) (r1 : Nat) (r2 : Nat) (Z : Sh) (S : Mm) : Option (Sh × Mm) := gd (Z.length ≤ 1048576) (f_X7_init_0 r0 r1 r2 Z S)
theorem c_X7_init (X : CX) (r0 : Nat) (r1 : Nat) (r2 : Nat) (Z : Sh) (S : Mm) : CtC X Z yX7_init cX7_init 3 2 18 253 [.ref r0, .ref r1, .ref r2] S (f_X7_init r0 r1 r2 Z S) :=
  ctC_of (by decide +kernel) rfl rfl (Nat.le_of_ble_eq_true rfl) (by simp [Value.category]) fun E M0 => b_X7_init M0 r0 r1 r2 Z S
set_option maxRecDepth 100000 in
def f_X5_init_0 (r0 : Nat) (Z : Sh) (S : Mm) : Option (Sh × Mm) :=
  gd (1 ≤ 1 ∧ 400 ≤ 400 ∧ Z.length < 1048576) <|
  nm (Z ++ [(0, 400, [])]) fun Z_1 =>
  nm (rM S Z.length (fun _ => 0)) fun S_1 =>
  gd (r0 < Z_1.length ∧ sK Z_1 r0 = (7, 4) ∧ 0 < (Z_1.getD r0 (0, 0, [])).2.2.length) <|
  nm (zR Z_1 r0 0 Z.length) fun Z_2 =>
  gd (r0 < Z_2.length ∧ sK Z_2 r0 = (7, 4) ∧ (tyX5 1 = .int ∨ (0 : Int32) = 0 ∨ (0 : Int32) = 1)) <|
  nm (uM S_1 r0 1 (0 : Int32)) fun S_3 =>
  gd (r0 < Z_2.length ∧ sK Z_2 r0 = (7, 4) ∧ (tyX5 2 = .int ∨ (0 : Int32) = 0 ∨ (0 : Int32) = 1)) <|
  nm (uM S_3 r0 2 (0 : Int32)) fun S_4 =>
  gd (r0 < Z_2.length ∧ sK Z_2 r0 = (7, 4) ∧ (tyX5 3 = .int ∨ (-1 : Int32) = 0 ∨ (-1 : Int32) = 1)) <|
  nm (uM S_4 r0 3 (-1 : Int32)) fun S_5 =>
  gd (1 ≤ 1 ∧ 400 ≤ 400) (some (Z_2, S_5))
set_option maxRecDepth 100000 in
set_option maxHeartbeats 4000000 in
theorem b_X5_init {X : CX} {E : FE} (M0 : MC X E RX5 cX5_init 1 1 1 400) (r0 : Nat) (Z : Sh) (S : Mm) : At X E true (mQc X 1 400 E) 0 [some (.ref r0)] [] Z S 0 0 (f_X5_init_0 r0 Z S) := by
  have F := M0.1
  unfold f_X5_init_0
  refine a_aload_n F dX5_init_0 rfl rfl ?_
  refine k_obj F dX5_init_1 rfl ml_X5_3 oi_i oi_c (Nat.le_of_ble_eq_true rfl) (rm_fr M0.2.1 (by omega)) (rm_lo M0.2.1 (by omega)) ?_
  refine a_aload_n F dX5_init_4 rfl rfl ?_
  refine a_sipush F dX5_init_5 ks_400 ?_
  refine k_newa (N := 400) F dX5_init_8 w_ac nn_400 ix_400 (by decide) M0.2.2.2.2.1 M0.2.2.2.2.2.1 ?_
  refine a_nmZ (fun Z_1 => ?_)
  refine a_nmS (fun S_1 => ?_)
  refine k_putR (k := 0) F M0.2.2.2.2.2.2 cfX5 dX5_init_10 fl_X5_9 (by decide) fi_5_0 rfl (fun _ => ⟨rfl, rfl⟩) ?_
  refine a_nmZ (fun Z_2 => ?_)
  refine a_aload_n F dX5_init_13 rfl rfl ?_
  refine a_iconst F dX5_init_14 ki_0 ?_
  refine k_putI (k := 1) F cfX5 dX5_init_15 fl_X5_15 (by decide) fi_5_1 rfl (Or.inl rfl) ?_
  refine a_nmS (fun S_3 => ?_)
  refine a_aload_n F dX5_init_18 rfl rfl ?_
  refine a_iconst F dX5_init_19 ki_0 ?_
  refine k_putI (k := 2) F cfX5 dX5_init_20 fl_X5_19 (by decide) fi_5_2 rfl (Or.inl rfl) ?_
  refine a_nmS (fun S_4 => ?_)
  refine a_aload_n F dX5_init_23 rfl rfl ?_
  refine a_iconst F dX5_init_24 ki_m1 ?_
  refine k_putI (k := 3) F cfX5 dX5_init_25 fl_X5_22 (by decide) fi_5_3 rfl (Or.inl rfl) ?_
  refine a_nmS (fun S_5 => ?_)
  exact k_ret M0 dX5_init_28
def f_X5_init (r0 : Nat) (Z : Sh) (S : Mm) : Option (Sh × Mm) := gd (Z.length ≤ 1048576) (f_X5_init_0 r0 Z S)
theorem c_X5_init (X : CX) (r0 : Nat) (Z : Sh) (S : Mm) : CtC X Z yX5_init cX5_init 1 1 1 400 [.ref r0] S (f_X5_init r0 Z S) :=
  ctC_of (by decide +kernel) rfl rfl (Nat.le_of_ble_eq_true rfl) (by simp [Value.category]) fun E M0 => b_X5_init M0 r0 Z S
set_option maxRecDepth 100000 in
def f_X8_init_0 (r0 : Nat) (r1 : Nat) (r2 : Nat) (r3 : Nat) (Z : Sh) (S : Mm) : Option (Sh × Mm) :=
  gd (1 ≤ 3 ∧ 401 ≤ 1203 ∧ Z.length < 1048576) <|
  nm (Z ++ [(0, 401, [])]) fun Z_1 =>
  nm (rM S Z.length (fun _ => 0)) fun S_1 =>
  gd (r0 < Z_1.length ∧ sK Z_1 r0 = (10, 8) ∧ 3 < (Z_1.getD r0 (0, 0, [])).2.2.length) <|
  nm (zR Z_1 r0 3 Z.length) fun Z_2 =>
  gd (2 ≤ 3 ∧ 802 ≤ 1203 ∧ Z_2.length < 1048576) <|
  nm (Z_2 ++ [(0, 401, [])]) fun Z_3 =>
  nm (rM S_1 Z_2.length (fun _ => 0)) fun S_3 =>
  gd (r0 < Z_3.length ∧ sK Z_3 r0 = (10, 8) ∧ 4 < (Z_3.getD r0 (0, 0, [])).2.2.length) <|
  nm (zR Z_3 r0 4 Z_2.length) fun Z_4 =>
  gd (3 ≤ 3 ∧ 1203 ≤ 1203 ∧ Z_4.length < 1048576) <|
  nm (Z_4 ++ [(0, 401, [])]) fun Z_5 =>
  nm (rM S_3 Z_4.length (fun _ => 0)) fun S_5 =>
  gd (r0 < Z_5.length ∧ sK Z_5 r0 = (10, 8) ∧ 5 < (Z_5.getD r0 (0, 0, [])).2.2.length) <|
  nm (zR Z_5 r0 5 Z_4.length) fun Z_6 =>
  gd (r0 < Z_6.length ∧ sK Z_6 r0 = (10, 8) ∧ (tyX8 6 = .int ∨ (0 : Int32) = 0 ∨ (0 : Int32) = 1)) <|
  nm (uM S_5 r0 6 (0 : Int32)) fun S_7 =>
  gd (r0 < Z_6.length ∧ sK Z_6 r0 = (10, 8) ∧ (tyX8 7 = .int ∨ (0 : Int32) = 0 ∨ (0 : Int32) = 1)) <|
  nm (uM S_7 r0 7 (0 : Int32)) fun S_8 =>
  gd (r0 < Z_6.length ∧ sK Z_6 r0 = (10, 8) ∧ 0 < (Z_6.getD r0 (0, 0, [])).2.2.length) <|
  nm (zR Z_6 r0 0 r1) fun Z_9 =>
  gd (r0 < Z_9.length ∧ sK Z_9 r0 = (10, 8) ∧ 1 < (Z_9.getD r0 (0, 0, [])).2.2.length) <|
  nm (zR Z_9 r0 1 r2) fun Z_10 =>
  gd (r0 < Z_10.length ∧ sK Z_10 r0 = (10, 8) ∧ 2 < (Z_10.getD r0 (0, 0, [])).2.2.length) <|
  nm (zR Z_10 r0 2 r3) fun Z_11 =>
  gd (3 ≤ 3 ∧ 1203 ≤ 1203) (some (Z_11, S_8))
set_option maxRecDepth 100000 in
set_option maxHeartbeats 4000000 in
theorem b_X8_init {X : CX} {E : FE} (M0 : MC X E RX8 cX8_init 4 1 3 1203) (r0 : Nat) (r1 : Nat) (r2 : Nat) (r3 : Nat) (Z : Sh) (S : Mm) : At X E true (mQc X 3 1203 E) 0 [some (.ref r0), some (.ref r1), some (.ref r2), some (.ref r3)] [] Z S 0 0 (f_X8_init_0 r0 r1 r2 r3 Z S) := by
  have F := M0.1
  unfold f_X8_init_0
  refine a_aload_n F dX8_init_0 rfl rfl ?_
  refine k_obj F dX8_init_1 rfl ml_X8_3 oi_i oi_c (Nat.le_of_ble_eq_true rfl) (rm_fr M0.2.1 (by omega)) (rm_lo M0.2.1 (by omega)) ?_
  refine a_aload_n F dX8_init_4 rfl rfl ?_
  refine a_sipush F dX8_init_5 ks_401 ?_
  refine k_newa (N := 401) F dX8_init_8 w_ac nn_401 ix_401 (by decide) M0.2.2.2.2.1 M0.2.2.2.2.2.1 ?_
  refine a_nmZ (fun Z_1 => ?_)
  refine a_nmS (fun S_1 => ?_)
  refine k_putR (k := 3) F M0.2.2.2.2.2.2 cfX8 dX8_init_10 fl_X8_9 (by decide) fi_8_3 rfl (fun _ => ⟨rfl, rfl⟩) ?_
  refine a_nmZ (fun Z_2 => ?_)
  refine a_aload_n F dX8_init_13 rfl rfl ?_
  refine a_sipush F dX8_init_14 ks_401 ?_
  refine k_newa (N := 401) F dX8_init_17 w_ac nn_401 ix_401 (by decide) M0.2.2.2.2.1 M0.2.2.2.2.2.1 ?_
  refine a_nmZ (fun Z_3 => ?_)
  refine a_nmS (fun S_3 => ?_)
  refine k_putR (k := 4) F M0.2.2.2.2.2.2 cfX8 dX8_init_19 fl_X8_15 (by decide) fi_8_4 rfl (fun _ => ⟨rfl, rfl⟩) ?_
  refine a_nmZ (fun Z_4 => ?_)
  refine a_aload_n F dX8_init_22 rfl rfl ?_
  refine a_sipush F dX8_init_23 ks_401 ?_
  refine k_newa (N := 401) F dX8_init_26 w_ac nn_401 ix_401 (by decide) M0.2.2.2.2.1 M0.2.2.2.2.2.1 ?_
  refine a_nmZ (fun Z_5 => ?_)
  refine a_nmS (fun S_5 => ?_)
  refine k_putR (k := 5) F M0.2.2.2.2.2.2 cfX8 dX8_init_28 fl_X8_18 (by decide) fi_8_5 rfl (fun _ => ⟨rfl, rfl⟩) ?_
  refine a_nmZ (fun Z_6 => ?_)
  refine a_aload_n F dX8_init_31 rfl rfl ?_
  refine a_iconst F dX8_init_32 ki_0 ?_
  refine k_putI (k := 6) F cfX8 dX8_init_33 fl_X8_21 (by decide) fi_8_6 rfl (Or.inl rfl) ?_
  refine a_nmS (fun S_7 => ?_)
  refine a_aload_n F dX8_init_36 rfl rfl ?_
  refine a_iconst F dX8_init_37 ki_0 ?_
  refine k_putI (k := 7) F cfX8 dX8_init_38 fl_X8_25 (by decide) fi_8_7 rfl (Or.inl rfl) ?_
  refine a_nmS (fun S_8 => ?_)
  refine a_aload_n F dX8_init_41 rfl rfl ?_
  refine a_aload_n F dX8_init_42 rfl rfl ?_
  refine k_putR (k := 0) F M0.2.2.2.2.2.2 cfX8 dX8_init_43 fl_X8_28 (by decide) fi_8_0 rfl (fun _ => ⟨rfl, rfl⟩) ?_
  refine a_nmZ (fun Z_9 => ?_)
  refine a_aload_n F dX8_init_46 rfl rfl ?_
  refine a_aload_n F dX8_init_47 rfl rfl ?_
  refine k_putR (k := 1) F M0.2.2.2.2.2.2 cfX8 dX8_init_48 fl_X8_32 (by decide) fi_8_1 rfl (fun _ => ⟨rfl, rfl⟩) ?_
  refine a_nmZ (fun Z_10 => ?_)
  refine a_aload_n F dX8_init_51 rfl rfl ?_
  refine a_aload_n F dX8_init_52 rfl rfl ?_
  refine k_putR (k := 2) F M0.2.2.2.2.2.2 cfX8 dX8_init_53 fl_X8_36 (by decide) fi_8_2 rfl (fun _ => ⟨rfl, rfl⟩) ?_
  refine a_nmZ (fun Z_11 => ?_)
  exact k_ret M0 dX8_init_56
def f_X8_init (r0 : Nat) (r1 : Nat) (r2 : Nat) (r3 : Nat) (Z : Sh) (S : Mm) : Option (Sh × Mm) := gd (Z.length ≤ 1048576) (f_X8_init_0 r0 r1 r2 r3 Z S)
theorem c_X8_init (X : CX) (r0 : Nat) (r1 : Nat) (r2 : Nat) (r3 : Nat) (Z : Sh) (S : Mm) : CtC X Z yX8_init cX8_init 4 1 3 1203 [.ref r0, .ref r1, .ref r2, .ref r3] S (f_X8_init r0 r1 r2 r3 Z S) :=
  ctC_of (by decide +kernel) rfl rfl (Nat.le_of_ble_eq_true rfl) (by simp [Value.category]) fun E M0 => b_X8_init M0 r0 r1 r2 r3 Z S
set_option maxRecDepth 100000 in
def f_X4_init_0 (r0 : Nat) (r1 : Nat) (Z : Sh) (S : Mm) : Option (Sh × Mm) :=
  gd (1 ≤ 11 ∧ 8 ≤ 1741 ∧ Z.length < 1048576) <|
  nm (Z ++ [(5, 8, List.replicate 8 none)]) fun Z_1 =>
  nm (rM S Z.length (fun _ => 0)) fun S_1 =>
  gd (7 ≤ 11 ∧ 530 ≤ 1741) <| (f_X3_init Z.length Z_1 S_1).bind fun q_2 => gd (q_2.1.length ≤ 1048576) <|
  gd (r0 < q_2.1.length ∧ sK q_2.1 r0 = (6, 2) ∧ 1 < (q_2.1.getD r0 (0, 0, [])).2.2.length) <|
  nm (zR q_2.1 r0 1 Z.length) fun Z_3 =>
  gd (8 ≤ 11 ∧ 538 ≤ 1741 ∧ Z_3.length < 1048576) <|
  nm (Z_3 ++ [(10, 8, List.replicate 8 none)]) fun Z_4 =>
  nm (rM q_2.2 Z_3.length (fun _ => 0)) fun S_4 =>
  gd (11 ≤ 11 ∧ 1741 ≤ 1741) <| (f_X8_init Z_3.length r1 (1048576 + 0) (1048576 + 1) Z_4 S_4).bind fun q_5 => gd (q_5.1.length ≤ 1048576) <|
  gd (r0 < q_5.1.length ∧ sK q_5.1 r0 = (6, 2) ∧ 0 < (q_5.1.getD r0 (0, 0, [])).2.2.length) <|
  nm (zR q_5.1 r0 0 Z_3.length) fun Z_6 =>
  gd (11 ≤ 11 ∧ 1741 ≤ 1741) (some (Z_6, q_5.2))
set_option maxRecDepth 100000 in
set_option maxHeartbeats 4000000 in
theorem b_X4_init {X : CX} {E : FE} (M0 : MC X E RX4 cX4_init 2 2 11 1741) (r0 : Nat) (r1 : Nat) (Z : Sh) (S : Mm) : At X E true (mQc X 11 1741 E) 0 [some (.ref r0), some (.ref r1)] [] Z S 0 0 (f_X4_init_0 r0 r1 Z S) := by
  have F := M0.1
  unfold f_X4_init_0
  refine a_aload_n F dX4_init_0 rfl rfl ?_
  refine k_obj F dX4_init_1 rfl ml_X4_3 oi_i oi_c (Nat.le_of_ble_eq_true rfl) (rm_fr M0.2.1 (by omega)) (rm_lo M0.2.1 (by omega)) ?_
  refine a_aload_n F dX4_init_4 rfl rfl ?_
  refine k_new F cfX3 hdX3 dX4_init_5 cl_X4_9 win_3 wii_3 M0.2.2.2.2.1 M0.2.2.2.2.2.1 ?_
  refine a_nmZ (fun Z_1 => ?_)
  refine a_nmS (fun S_1 => ?_)
  refine a_dup F dX4_init_8 rfl ?_
  refine k_callN (host := RX10) F (As := []) (c_X3_init X Z.length Z_1 S_1) mw_X3_init (by decide +kernel) im_X3_init rfl M0.2.1 (Nat.le_of_ble_eq_true rfl) M0.2.2.2.2.1 M0.2.2.2.2.2.1 rfl rfl (Nat.le_of_ble_eq_true rfl) dX4_init_9 rfl (fun q_2 => ?_)
  refine k_putR (k := 1) F M0.2.2.2.2.2.2 cfX4 dX4_init_12 fl_X4_12 (by decide) fi_4_1 rfl (fun _ => ⟨rfl, rfl⟩) ?_
  refine a_nmZ (fun Z_3 => ?_)
  refine a_aload_n F dX4_init_15 rfl rfl ?_
  refine k_new F cfX8 hdX8 dX4_init_16 cl_X4_18 win_8 wii_8 M0.2.2.2.2.1 M0.2.2.2.2.2.1 ?_
  refine a_nmZ (fun Z_4 => ?_)
  refine a_nmS (fun S_4 => ?_)
  refine a_dup F dX4_init_19 rfl ?_
  refine a_aload_n F dX4_init_20 rfl rfl ?_
  refine k_ldcS (tx := "heir when or and not letter vowel age kin child spouse owns skill coin day") (i := 0) F (by decide +kernel) dX4_init_21 ?_
  refine k_ldcS (tx := ";+-*/()<=>") (i := 1) F (by decide +kernel) dX4_init_23 ?_
  refine k_call F (As := [.ref r1, .ref (1048576 + 0), .ref (1048576 + 1)]) (c_X8_init X Z_3.length r1 (1048576 + 0) (1048576 + 1) Z_4 S_4) mw_X8_init ml_X4_24 im_X8_init rfl M0.2.1 (Nat.le_of_ble_eq_true rfl) M0.2.2.2.2.1 M0.2.2.2.2.2.1 rfl rfl (Nat.le_of_ble_eq_true rfl) dX4_init_25 rfl (fun q_5 => ?_)
  refine k_putR (k := 0) F M0.2.2.2.2.2.2 cfX4 dX4_init_28 fl_X4_27 (by decide) fi_4_0 rfl (fun _ => ⟨rfl, rfl⟩) ?_
  refine a_nmZ (fun Z_6 => ?_)
  exact k_ret M0 dX4_init_31
def f_X4_init (r0 : Nat) (r1 : Nat) (Z : Sh) (S : Mm) : Option (Sh × Mm) := gd (Z.length ≤ 1048576) (f_X4_init_0 r0 r1 Z S)
theorem c_X4_init (X : CX) (r0 : Nat) (r1 : Nat) (Z : Sh) (S : Mm) : CtC X Z yX4_init cX4_init 2 2 11 1741 [.ref r0, .ref r1] S (f_X4_init r0 r1 Z S) :=
  ctC_of (by decide +kernel) rfl rfl (Nat.le_of_ble_eq_true rfl) (by simp [Value.category]) fun E M0 => b_X4_init M0 r0 r1 Z S
set_option maxRecDepth 100000 in
def f_X9_init_0 (r0 : Nat) (r1 : Nat) (Z : Sh) (S : Mm) : Option (Sh × Mm) :=
  gd (1 ≤ 7 ∧ 12 ≤ 1247 ∧ Z.length < 1048576) <|
  nm (Z ++ [(0, 12, [])]) fun Z_1 =>
  nm (rM S Z.length (fun _ => 0)) fun S_1 =>
  gd (r0 < Z_1.length ∧ sK Z_1 r0 = (11, 8) ∧ 2 < (Z_1.getD r0 (0, 0, [])).2.2.length) <|
  nm (zR Z_1 r0 2 Z.length) fun Z_2 =>
  gd (2 ≤ 7 ∧ 24 ≤ 1247 ∧ Z_2.length < 1048576) <|
  nm (Z_2 ++ [(0, 12, [])]) fun Z_3 =>
  nm (rM S_1 Z_2.length (fun _ => 0)) fun S_3 =>
  gd (r0 < Z_3.length ∧ sK Z_3 r0 = (11, 8) ∧ 3 < (Z_3.getD r0 (0, 0, [])).2.2.length) <|
  nm (zR Z_3 r0 3 Z_2.length) fun Z_4 =>
  gd (3 ≤ 7 ∧ 36 ≤ 1247 ∧ Z_4.length < 1048576) <|
  nm (Z_4 ++ [(0, 12, [])]) fun Z_5 =>
  nm (rM S_3 Z_4.length (fun _ => 0)) fun S_5 =>
  gd (r0 < Z_5.length ∧ sK Z_5 r0 = (11, 8) ∧ 4 < (Z_5.getD r0 (0, 0, [])).2.2.length) <|
  nm (zR Z_5 r0 4 Z_4.length) fun Z_6 =>
  gd (r0 < Z_6.length ∧ sK Z_6 r0 = (11, 8) ∧ (tyX9 5 = .int ∨ (0 : Int32) = 0 ∨ (0 : Int32) = 1)) <|
  nm (uM S_5 r0 5 (0 : Int32)) fun S_7 =>
  gd (r0 < Z_6.length ∧ sK Z_6 r0 = (11, 8) ∧ (tyX9 6 = .int ∨ (-1 : Int32) = 0 ∨ (-1 : Int32) = 1)) <|
  nm (uM S_7 r0 6 (-1 : Int32)) fun S_8 =>
  gd (r0 < Z_6.length ∧ sK Z_6 r0 = (11, 8) ∧ (tyX9 7 = .int ∨ (0 : Int32) = 0 ∨ (0 : Int32) = 1)) <|
  nm (uM S_8 r0 7 (0 : Int32)) fun S_9 =>
  gd (r0 < Z_6.length ∧ sK Z_6 r0 = (11, 8) ∧ 0 < (Z_6.getD r0 (0, 0, [])).2.2.length) <|
  nm (zR Z_6 r0 0 r1) fun Z_10 =>
  gd (4 ≤ 7 ∧ 44 ≤ 1247 ∧ Z_10.length < 1048576) <|
  nm (Z_10 ++ [(10, 8, List.replicate 8 none)]) fun Z_11 =>
  nm (rM S_9 Z_10.length (fun _ => 0)) fun S_11 =>
  gd (7 ≤ 7 ∧ 1247 ≤ 1247) <| (f_X8_init Z_10.length r1 (1048576 + 2) (1048576 + 3) Z_11 S_11).bind fun q_12 => gd (q_12.1.length ≤ 1048576) <|
  gd (r0 < q_12.1.length ∧ sK q_12.1 r0 = (11, 8) ∧ 1 < (q_12.1.getD r0 (0, 0, [])).2.2.length) <|
  nm (zR q_12.1 r0 1 Z_10.length) fun Z_13 =>
  gd (7 ≤ 7 ∧ 1247 ≤ 1247) (some (Z_13, q_12.2))
set_option maxRecDepth 100000 in
set_option maxHeartbeats 4000000 in
theorem b_X9_init {X : CX} {E : FE} (M0 : MC X E RX9 cX9_init 2 2 7 1247) (r0 : Nat) (r1 : Nat) (Z : Sh) (S : Mm) : At X E true (mQc X 7 1247 E) 0 [some (.ref r0), some (.ref r1)] [] Z S 0 0 (f_X9_init_0 r0 r1 Z S) := by
  have F := M0.1
  unfold f_X9_init_0
  refine a_aload_n F dX9_init_0 rfl rfl ?_
  refine k_obj F dX9_init_1 rfl ml_X9_3 oi_i oi_c (Nat.le_of_ble_eq_true rfl) (rm_fr M0.2.1 (by omega)) (rm_lo M0.2.1 (by omega)) ?_
  refine a_aload_n F dX9_init_4 rfl rfl ?_
  refine a_bipush F dX9_init_5 kb_12 ?_
  refine k_newa (N := 12) F dX9_init_7 w_ac nn_12 ix_12 (by decide) M0.2.2.2.2.1 M0.2.2.2.2.2.1 ?_
  refine a_nmZ (fun Z_1 => ?_)
  refine a_nmS (fun S_1 => ?_)
  refine k_putR (k := 2) F M0.2.2.2.2.2.2 cfX9 dX9_init_9 fl_X9_11 (by decide) fi_9_2 rfl (fun _ => ⟨rfl, rfl⟩) ?_
  refine a_nmZ (fun Z_2 => ?_)
  refine a_aload_n F dX9_init_12 rfl rfl ?_
  refine a_bipush F dX9_init_13 kb_12 ?_
  refine k_newa (N := 12) F dX9_init_15 w_ac nn_12 ix_12 (by decide) M0.2.2.2.2.1 M0.2.2.2.2.2.1 ?_
  refine a_nmZ (fun Z_3 => ?_)
  refine a_nmS (fun S_3 => ?_)
  refine k_putR (k := 3) F M0.2.2.2.2.2.2 cfX9 dX9_init_17 fl_X9_17 (by decide) fi_9_3 rfl (fun _ => ⟨rfl, rfl⟩) ?_
  refine a_nmZ (fun Z_4 => ?_)
  refine a_aload_n F dX9_init_20 rfl rfl ?_
  refine a_bipush F dX9_init_21 kb_12 ?_
  refine k_newa (N := 12) F dX9_init_23 w_ac nn_12 ix_12 (by decide) M0.2.2.2.2.1 M0.2.2.2.2.2.1 ?_
  refine a_nmZ (fun Z_5 => ?_)
  refine a_nmS (fun S_5 => ?_)
  refine k_putR (k := 4) F M0.2.2.2.2.2.2 cfX9 dX9_init_25 fl_X9_20 (by decide) fi_9_4 rfl (fun _ => ⟨rfl, rfl⟩) ?_
  refine a_nmZ (fun Z_6 => ?_)
  refine a_aload_n F dX9_init_28 rfl rfl ?_
  refine a_iconst F dX9_init_29 ki_0 ?_
  refine k_putI (k := 5) F cfX9 dX9_init_30 fl_X9_23 (by decide) fi_9_5 rfl (Or.inl rfl) ?_
  refine a_nmS (fun S_7 => ?_)
  refine a_aload_n F dX9_init_33 rfl rfl ?_
  refine a_iconst F dX9_init_34 ki_m1 ?_
  refine k_putI (k := 6) F cfX9 dX9_init_35 fl_X9_27 (by decide) fi_9_6 rfl (Or.inl rfl) ?_
  refine a_nmS (fun S_8 => ?_)
  refine a_aload_n F dX9_init_38 rfl rfl ?_
  refine a_iconst F dX9_init_39 ki_0 ?_
  refine k_putI (k := 7) F cfX9 dX9_init_40 fl_X9_30 (by decide) fi_9_7 rfl (Or.inl rfl) ?_
  refine a_nmS (fun S_9 => ?_)
  refine a_aload_n F dX9_init_43 rfl rfl ?_
  refine a_aload_n F dX9_init_44 rfl rfl ?_
  refine k_putR (k := 0) F M0.2.2.2.2.2.2 cfX9 dX9_init_45 fl_X9_33 (by decide) fi_9_0 rfl (fun _ => ⟨rfl, rfl⟩) ?_
  refine a_nmZ (fun Z_10 => ?_)
  refine a_aload_n F dX9_init_48 rfl rfl ?_
  refine k_new F cfX8 hdX8 dX9_init_49 cl_X9_37 win_8 wii_8 M0.2.2.2.2.1 M0.2.2.2.2.2.1 ?_
  refine a_nmZ (fun Z_11 => ?_)
  refine a_nmS (fun S_11 => ?_)
  refine a_dup F dX9_init_52 rfl ?_
  refine a_aload_n F dX9_init_53 rfl rfl ?_
  refine k_ldcS (tx := "leave to if rest") (i := 2) F (by decide +kernel) dX9_init_54 ?_
  refine k_ldcS (tx := ";\"") (i := 3) F (by decide +kernel) dX9_init_56 ?_
  refine k_call F (As := [.ref r1, .ref (1048576 + 2), .ref (1048576 + 3)]) (c_X8_init X Z_10.length r1 (1048576 + 2) (1048576 + 3) Z_11 S_11) mw_X8_init ml_X9_43 im_X8_init rfl M0.2.1 (Nat.le_of_ble_eq_true rfl) M0.2.2.2.2.1 M0.2.2.2.2.2.1 rfl rfl (Nat.le_of_ble_eq_true rfl) dX9_init_58 rfl (fun q_12 => ?_)
  refine k_putR (k := 1) F M0.2.2.2.2.2.2 cfX9 dX9_init_61 fl_X9_46 (by decide) fi_9_1 rfl (fun _ => ⟨rfl, rfl⟩) ?_
  refine a_nmZ (fun Z_13 => ?_)
  exact k_ret M0 dX9_init_64
def f_X9_init (r0 : Nat) (r1 : Nat) (Z : Sh) (S : Mm) : Option (Sh × Mm) := gd (Z.length ≤ 1048576) (f_X9_init_0 r0 r1 Z S)
theorem c_X9_init (X : CX) (r0 : Nat) (r1 : Nat) (Z : Sh) (S : Mm) : CtC X Z yX9_init cX9_init 2 2 7 1247 [.ref r0, .ref r1] S (f_X9_init r0 r1 Z S) :=
  ctC_of (by decide +kernel) rfl rfl (Nat.le_of_ble_eq_true rfl) (by simp [Value.category]) fun E M0 => b_X9_init M0 r0 r1 Z S
set_option maxRecDepth 100000 in
def f_X10_init_0 (r0 : Nat) (Z : Sh) (S : Mm) : Option (Sh × Mm) :=
  gd (1 ≤ 238 ∧ 20 ≤ 10682 ∧ Z.length < 1048576) <|
  nm (Z ++ [(3, 20, List.replicate 20 none)]) fun Z_1 =>
  nm (rM S Z.length (fun _ => 0)) fun S_1 =>
  gd (16 ≤ 238 ∧ 236 ≤ 10682) <| (f_X1_init Z.length Z_1 S_1).bind fun q_2 => gd (q_2.1.length ≤ 1048576) <|
  gd (r0 < q_2.1.length ∧ sK q_2.1 r0 = (12, 12) ∧ 0 < (q_2.1.getD r0 (0, 0, [])).2.2.length) <|
  nm (zR q_2.1 r0 0 Z.length) fun Z_3 =>
  gd (17 ≤ 238 ∧ 245 ≤ 10682 ∧ Z_3.length < 1048576) <|
  nm (Z_3 ++ [(8, 9, List.replicate 9 none)]) fun Z_4 =>
  nm (rM q_2.2 Z_3.length (fun _ => 0)) fun S_4 =>
  gd (31 ≤ 238 ∧ 1555 ≤ 10682) <| (f_X6_init Z_3.length Z_4 S_4).bind fun q_5 => gd (q_5.1.length ≤ 1048576) <|
  gd (r0 < q_5.1.length ∧ sK q_5.1 r0 = (12, 12) ∧ 1 < (q_5.1.getD r0 (0, 0, [])).2.2.length) <|
  nm (zR q_5.1 r0 1 Z_3.length) fun Z_6 =>
  gd (32 ≤ 238 ∧ 1557 ≤ 10682 ∧ Z_6.length < 1048576) <|
  nm (Z_6 ++ [(2, 2, List.replicate 2 none)]) fun Z_7 =>
  nm (rM q_5.2 Z_6.length (fun _ => 0)) fun S_7 =>
  gd (33 ≤ 238 ∧ 2557 ≤ 10682) <| (f_X0_init Z_6.length Z_7 S_7).bind fun q_8 => gd (q_8.1.length ≤ 1048576) <|
  gd (r0 < q_8.1.length ∧ sK q_8.1 r0 = (12, 12) ∧ 2 < (q_8.1.getD r0 (0, 0, [])).2.2.length) <|
  nm (zR q_8.1 r0 2 Z_6.length) fun Z_9 =>
  gd (34 ≤ 238 ∧ 2561 ≤ 10682 ∧ Z_9.length < 1048576) <|
  nm (Z_9 ++ [(4, 4, List.replicate 4 none)]) fun Z_10 =>
  nm (rM q_8.2 Z_9.length (fun _ => 0)) fun S_10 =>
  gd (164 ≤ 238 ∧ 4465 ≤ 10682) <| (f_X2_init Z_9.length Z_10 S_10).bind fun q_11 => gd (q_11.1.length ≤ 1048576) <|
  gd (r0 < q_11.1.length ∧ sK q_11.1 r0 = (12, 12) ∧ 3 < (q_11.1.getD r0 (0, 0, [])).2.2.length) <|
  nm (zR q_11.1 r0 3 Z_9.length) fun Z_12 =>
  gd (165 ≤ 238 ∧ 4470 ≤ 10682 ∧ Z_12.length < 1048576) <|
  nm (Z_12 ++ [(9, 5, List.replicate 5 none)]) fun Z_13 =>
  nm (rM q_11.2 Z_12.length (fun _ => 0)) fun S_13 =>
  gd (r0 < Z_13.length ∧ sK Z_13 r0 = (12, 12)) <| (sR Z_13 r0 0).bind fun c_14 =>
  gd (r0 < Z_13.length ∧ sK Z_13 r0 = (12, 12)) <| (sR Z_13 r0 1).bind fun c_15 =>
  gd (183 ≤ 238 ∧ 4723 ≤ 10682) <| (f_X7_init Z_12.length c_14 c_15 Z_13 S_13).bind fun q_16 => gd (q_16.1.length ≤ 1048576) <|
  gd (r0 < q_16.1.length ∧ sK q_16.1 r0 = (12, 12) ∧ 4 < (q_16.1.getD r0 (0, 0, [])).2.2.length) <|
  nm (zR q_16.1 r0 4 Z_12.length) fun Z_17 =>
  gd (184 ≤ 238 ∧ 4727 ≤ 10682 ∧ Z_17.length < 1048576) <|
  nm (Z_17 ++ [(7, 4, List.replicate 4 none)]) fun Z_18 =>
  nm (rM q_16.2 Z_17.length (fun _ => 0)) fun S_18 =>
  gd (185 ≤ 238 ∧ 5127 ≤ 10682) <| (f_X5_init Z_17.length Z_18 S_18).bind fun q_19 => gd (q_19.1.length ≤ 1048576) <|
  gd (r0 < q_19.1.length ∧ sK q_19.1 r0 = (12, 12) ∧ 5 < (q_19.1.getD r0 (0, 0, [])).2.2.length) <|
  nm (zR q_19.1 r0 5 Z_17.length) fun Z_20 =>
  gd (186 ≤ 238 ∧ 5129 ≤ 10682 ∧ Z_20.length < 1048576) <|
  nm (Z_20 ++ [(6, 2, List.replicate 2 none)]) fun Z_21 =>
  nm (rM q_19.2 Z_20.length (fun _ => 0)) fun S_21 =>
  gd (r0 < Z_21.length ∧ sK Z_21 r0 = (12, 12)) <| (sR Z_21 r0 5).bind fun c_22 =>
  gd (197 ≤ 238 ∧ 6870 ≤ 10682) <| (f_X4_init Z_20.length c_22 Z_21 S_21).bind fun q_23 => gd (q_23.1.length ≤ 1048576) <|
  gd (r0 < q_23.1.length ∧ sK q_23.1 r0 = (12, 12) ∧ 6 < (q_23.1.getD r0 (0, 0, [])).2.2.length) <|
  nm (zR q_23.1 r0 6 Z_20.length) fun Z_24 =>
  gd (198 ≤ 238 ∧ 6878 ≤ 10682 ∧ Z_24.length < 1048576) <|
  nm (Z_24 ++ [(11, 8, List.replicate 8 none)]) fun Z_25 =>
  nm (rM q_23.2 Z_24.length (fun _ => 0)) fun S_25 =>
  gd (r0 < Z_25.length ∧ sK Z_25 r0 = (12, 12)) <| (sR Z_25 r0 5).bind fun c_26 =>
  gd (205 ≤ 238 ∧ 8125 ≤ 10682) <| (f_X9_init Z_24.length c_26 Z_25 S_25).bind fun q_27 => gd (q_27.1.length ≤ 1048576) <|
  gd (r0 < q_27.1.length ∧ sK q_27.1 r0 = (12, 12) ∧ 7 < (q_27.1.getD r0 (0, 0, [])).2.2.length) <|
  nm (zR q_27.1 r0 7 Z_24.length) fun Z_28 =>
  gd (206 ≤ 238 ∧ 8145 ≤ 10682 ∧ Z_28.length < 1048576) <|
  nm (Z_28 ++ [(3, 20, List.replicate 20 none)]) fun Z_29 =>
  nm (rM q_27.2 Z_28.length (fun _ => 0)) fun S_29 =>
  gd (221 ≤ 238 ∧ 8361 ≤ 10682) <| (f_X1_init Z_28.length Z_29 S_29).bind fun q_30 => gd (q_30.1.length ≤ 1048576) <|
  gd (r0 < q_30.1.length ∧ sK q_30.1 r0 = (12, 12) ∧ 8 < (q_30.1.getD r0 (0, 0, [])).2.2.length) <|
  nm (zR q_30.1 r0 8 Z_28.length) fun Z_31 =>
  gd (222 ≤ 238 ∧ 8370 ≤ 10682 ∧ Z_31.length < 1048576) <|
  nm (Z_31 ++ [(8, 9, List.replicate 9 none)]) fun Z_32 =>
  nm (rM q_30.2 Z_31.length (fun _ => 0)) fun S_32 =>
  gd (236 ≤ 238 ∧ 9680 ≤ 10682) <| (f_X6_init Z_31.length Z_32 S_32).bind fun q_33 => gd (q_33.1.length ≤ 1048576) <|
  gd (r0 < q_33.1.length ∧ sK q_33.1 r0 = (12, 12) ∧ 9 < (q_33.1.getD r0 (0, 0, [])).2.2.length) <|
  nm (zR q_33.1 r0 9 Z_31.length) fun Z_34 =>
  gd (237 ≤ 238 ∧ 9682 ≤ 10682 ∧ Z_34.length < 1048576) <|
  nm (Z_34 ++ [(2, 2, List.replicate 2 none)]) fun Z_35 =>
  nm (rM q_33.2 Z_34.length (fun _ => 0)) fun S_35 =>
  gd (238 ≤ 238 ∧ 10682 ≤ 10682) <| (f_X0_init Z_34.length Z_35 S_35).bind fun q_36 => gd (q_36.1.length ≤ 1048576) <|
  gd (r0 < q_36.1.length ∧ sK q_36.1 r0 = (12, 12) ∧ 10 < (q_36.1.getD r0 (0, 0, [])).2.2.length) <|
  nm (zR q_36.1 r0 10 Z_34.length) fun Z_37 =>
  gd (r0 < Z_37.length ∧ sK Z_37 r0 = (12, 12) ∧ (tyX10 11 = .int ∨ (0 : Int32) = 0 ∨ (0 : Int32) = 1)) <|
  nm (uM q_36.2 r0 11 (0 : Int32)) fun S_38 =>
  gd (238 ≤ 238 ∧ 10682 ≤ 10682) (some (Z_37, S_38))
set_option maxRecDepth 100000 in
set_option maxHeartbeats 4000000 in
theorem b_X10_init {X : CX} {E : FE} (M0 : MC X E RX10 cX10_init 1 3 238 10682) (r0 : Nat) (Z : Sh) (S : Mm) : At X E true (mQc X 238 10682 E) 0 [some (.ref r0)] [] Z S 0 0 (f_X10_init_0 r0 Z S) := by
  have F := M0.1
  unfold f_X10_init_0
  refine a_aload_n F dX10_init_0 rfl rfl ?_
  refine k_obj F dX10_init_1 rfl ml_X10_3 oi_i oi_c (Nat.le_of_ble_eq_true rfl) (rm_fr M0.2.1 (by omega)) (rm_lo M0.2.1 (by omega)) ?_
  refine a_aload_n F dX10_init_4 rfl rfl ?_
  refine k_new F cfX1 hdX1 dX10_init_5 cl_X10_9 win_1 wii_1 M0.2.2.2.2.1 M0.2.2.2.2.2.1 ?_
  refine a_nmZ (fun Z_1 => ?_)
  refine a_nmS (fun S_1 => ?_)
  refine a_dup F dX10_init_8 rfl ?_
  refine k_call F (As := []) (c_X1_init X Z.length Z_1 S_1) mw_X1_init ml_X10_11 im_X1_init rfl M0.2.1 (Nat.le_of_ble_eq_true rfl) M0.2.2.2.2.1 M0.2.2.2.2.2.1 rfl rfl (Nat.le_of_ble_eq_true rfl) dX10_init_9 rfl (fun q_2 => ?_)
  refine k_putR (k := 0) F M0.2.2.2.2.2.2 cfX10 dX10_init_12 fl_X10_12 (by decide) fi_10_0 rfl (fun _ => ⟨rfl, rfl⟩) ?_
  refine a_nmZ (fun Z_3 => ?_)
  refine a_aload_n F dX10_init_15 rfl rfl ?_
  refine k_new F cfX6 hdX6 dX10_init_16 cl_X10_16 win_6 wii_6 M0.2.2.2.2.1 M0.2.2.2.2.2.1 ?_
  refine a_nmZ (fun Z_4 => ?_)
  refine a_nmS (fun S_4 => ?_)
  refine a_dup F dX10_init_19 rfl ?_
  refine k_callN (host := RX10) F (As := []) (c_X6_init X Z_3.length Z_4 S_4) mw_X6_init (by decide +kernel) im_X6_init rfl M0.2.1 (Nat.le_of_ble_eq_true rfl) M0.2.2.2.2.1 M0.2.2.2.2.2.1 rfl rfl (Nat.le_of_ble_eq_true rfl) dX10_init_20 rfl (fun q_5 => ?_)
  refine k_putR (k := 1) F M0.2.2.2.2.2.2 cfX10 dX10_init_23 fl_X10_19 (by decide) fi_10_1 rfl (fun _ => ⟨rfl, rfl⟩) ?_
  refine a_nmZ (fun Z_6 => ?_)
  refine a_aload_n F dX10_init_26 rfl rfl ?_
  refine k_new F cfX0 hdX0 dX10_init_27 cl_X10_23 win_0 wii_0 M0.2.2.2.2.1 M0.2.2.2.2.2.1 ?_
  refine a_nmZ (fun Z_7 => ?_)
  refine a_nmS (fun S_7 => ?_)
  refine a_dup F dX10_init_30 rfl ?_
  refine k_callN (host := RX10) F (As := []) (c_X0_init X Z_6.length Z_7 S_7) mw_X0_init (by decide +kernel) im_X0_init rfl M0.2.1 (Nat.le_of_ble_eq_true rfl) M0.2.2.2.2.1 M0.2.2.2.2.2.1 rfl rfl (Nat.le_of_ble_eq_true rfl) dX10_init_31 rfl (fun q_8 => ?_)
  refine k_putR (k := 2) F M0.2.2.2.2.2.2 cfX10 dX10_init_34 fl_X10_26 (by decide) fi_10_2 rfl (fun _ => ⟨rfl, rfl⟩) ?_
  refine a_nmZ (fun Z_9 => ?_)
  refine a_aload_n F dX10_init_37 rfl rfl ?_
  refine k_new F cfX2 hdX2 dX10_init_38 cl_X10_30 win_2 wii_2 M0.2.2.2.2.1 M0.2.2.2.2.2.1 ?_
  refine a_nmZ (fun Z_10 => ?_)
  refine a_nmS (fun S_10 => ?_)
  refine a_dup F dX10_init_41 rfl ?_
  refine k_call F (As := []) (c_X2_init X Z_9.length Z_10 S_10) mw_X2_init ml_X10_32 im_X2_init rfl M0.2.1 (Nat.le_of_ble_eq_true rfl) M0.2.2.2.2.1 M0.2.2.2.2.2.1 rfl rfl (Nat.le_of_ble_eq_true rfl) dX10_init_42 rfl (fun q_11 => ?_)
  refine k_putR (k := 3) F M0.2.2.2.2.2.2 cfX10 dX10_init_45 fl_X10_33 (by decide) fi_10_3 rfl (fun _ => ⟨rfl, rfl⟩) ?_
  refine a_nmZ (fun Z_12 => ?_)
  refine a_aload_n F dX10_init_48 rfl rfl ?_
  refine k_new F cfX7 hdX7 dX10_init_49 cl_X10_37 win_7 wii_7 M0.2.2.2.2.1 M0.2.2.2.2.2.1 ?_
  refine a_nmZ (fun Z_13 => ?_)
  refine a_nmS (fun S_13 => ?_)
  refine a_dup F dX10_init_52 rfl ?_
  refine a_aload_n F dX10_init_53 rfl rfl ?_
  refine k_getR (k := 0) F cfX10 dX10_init_54 fl_X10_12 (by decide) fi_10_0 (fun c_14 => ?_)
  refine a_aload_n F dX10_init_57 rfl rfl ?_
  refine k_getR (k := 1) F cfX10 dX10_init_58 fl_X10_19 (by decide) fi_10_1 (fun c_15 => ?_)
  refine k_call F (As := [.ref c_14, .ref c_15]) (c_X7_init X Z_12.length c_14 c_15 Z_13 S_13) mw_X7_init ml_X10_39 im_X7_init rfl M0.2.1 (Nat.le_of_ble_eq_true rfl) M0.2.2.2.2.1 M0.2.2.2.2.2.1 rfl rfl (Nat.le_of_ble_eq_true rfl) dX10_init_61 rfl (fun q_16 => ?_)
  refine k_putR (k := 4) F M0.2.2.2.2.2.2 cfX10 dX10_init_64 fl_X10_42 (by decide) fi_10_4 rfl (fun _ => ⟨rfl, rfl⟩) ?_
  refine a_nmZ (fun Z_17 => ?_)
  refine a_aload_n F dX10_init_67 rfl rfl ?_
  refine k_new F cfX5 hdX5 dX10_init_68 cl_X10_46 win_5 wii_5 M0.2.2.2.2.1 M0.2.2.2.2.2.1 ?_
  refine a_nmZ (fun Z_18 => ?_)
  refine a_nmS (fun S_18 => ?_)
  refine a_dup F dX10_init_71 rfl ?_
  refine k_callN (host := RX10) F (As := []) (c_X5_init X Z_17.length Z_18 S_18) mw_X5_init (by decide +kernel) im_X5_init rfl M0.2.1 (Nat.le_of_ble_eq_true rfl) M0.2.2.2.2.1 M0.2.2.2.2.2.1 rfl rfl (Nat.le_of_ble_eq_true rfl) dX10_init_72 rfl (fun q_19 => ?_)
  refine k_putR (k := 5) F M0.2.2.2.2.2.2 cfX10 dX10_init_75 fl_X10_49 (by decide) fi_10_5 rfl (fun _ => ⟨rfl, rfl⟩) ?_
  refine a_nmZ (fun Z_20 => ?_)
  refine a_aload_n F dX10_init_78 rfl rfl ?_
  refine k_new F cfX4 hdX4 dX10_init_79 cl_X10_53 win_4 wii_4 M0.2.2.2.2.1 M0.2.2.2.2.2.1 ?_
  refine a_nmZ (fun Z_21 => ?_)
  refine a_nmS (fun S_21 => ?_)
  refine a_dup F dX10_init_82 rfl ?_
  refine a_aload_n F dX10_init_83 rfl rfl ?_
  refine k_getR (k := 5) F cfX10 dX10_init_84 fl_X10_49 (by decide) fi_10_5 (fun c_22 => ?_)
  refine k_call F (As := [.ref c_22]) (c_X4_init X Z_20.length c_22 Z_21 S_21) mw_X4_init ml_X10_55 im_X4_init rfl M0.2.1 (Nat.le_of_ble_eq_true rfl) M0.2.2.2.2.1 M0.2.2.2.2.2.1 rfl rfl (Nat.le_of_ble_eq_true rfl) dX10_init_87 rfl (fun q_23 => ?_)
  refine k_putR (k := 6) F M0.2.2.2.2.2.2 cfX10 dX10_init_90 fl_X10_58 (by decide) fi_10_6 rfl (fun _ => ⟨rfl, rfl⟩) ?_
  refine a_nmZ (fun Z_24 => ?_)
  refine a_aload_n F dX10_init_93 rfl rfl ?_
  refine k_new F cfX9 hdX9 dX10_init_94 cl_X10_62 win_9 wii_9 M0.2.2.2.2.1 M0.2.2.2.2.2.1 ?_
  refine a_nmZ (fun Z_25 => ?_)
  refine a_nmS (fun S_25 => ?_)
  refine a_dup F dX10_init_97 rfl ?_
  refine a_aload_n F dX10_init_98 rfl rfl ?_
  refine k_getR (k := 5) F cfX10 dX10_init_99 fl_X10_49 (by decide) fi_10_5 (fun c_26 => ?_)
  refine k_call F (As := [.ref c_26]) (c_X9_init X Z_24.length c_26 Z_25 S_25) mw_X9_init ml_X10_64 im_X9_init rfl M0.2.1 (Nat.le_of_ble_eq_true rfl) M0.2.2.2.2.1 M0.2.2.2.2.2.1 rfl rfl (Nat.le_of_ble_eq_true rfl) dX10_init_102 rfl (fun q_27 => ?_)
  refine k_putR (k := 7) F M0.2.2.2.2.2.2 cfX10 dX10_init_105 fl_X10_65 (by decide) fi_10_7 rfl (fun _ => ⟨rfl, rfl⟩) ?_
  refine a_nmZ (fun Z_28 => ?_)
  refine a_aload_n F dX10_init_108 rfl rfl ?_
  refine k_new F cfX1 hdX1 dX10_init_109 cl_X10_9 win_1 wii_1 M0.2.2.2.2.1 M0.2.2.2.2.2.1 ?_
  refine a_nmZ (fun Z_29 => ?_)
  refine a_nmS (fun S_29 => ?_)
  refine a_dup F dX10_init_112 rfl ?_
  refine k_call F (As := []) (c_X1_init X Z_28.length Z_29 S_29) mw_X1_init ml_X10_11 im_X1_init rfl M0.2.1 (Nat.le_of_ble_eq_true rfl) M0.2.2.2.2.1 M0.2.2.2.2.2.1 rfl rfl (Nat.le_of_ble_eq_true rfl) dX10_init_113 rfl (fun q_30 => ?_)
  refine k_putR (k := 8) F M0.2.2.2.2.2.2 cfX10 dX10_init_116 fl_X10_69 (by decide) fi_10_8 rfl (fun _ => ⟨rfl, rfl⟩) ?_
  refine a_nmZ (fun Z_31 => ?_)
  refine a_aload_n F dX10_init_119 rfl rfl ?_
  refine k_new F cfX6 hdX6 dX10_init_120 cl_X10_16 win_6 wii_6 M0.2.2.2.2.1 M0.2.2.2.2.2.1 ?_
  refine a_nmZ (fun Z_32 => ?_)
  refine a_nmS (fun S_32 => ?_)
  refine a_dup F dX10_init_123 rfl ?_
  refine k_callN (host := RX10) F (As := []) (c_X6_init X Z_31.length Z_32 S_32) mw_X6_init (by decide +kernel) im_X6_init rfl M0.2.1 (Nat.le_of_ble_eq_true rfl) M0.2.2.2.2.1 M0.2.2.2.2.2.1 rfl rfl (Nat.le_of_ble_eq_true rfl) dX10_init_124 rfl (fun q_33 => ?_)
  refine k_putR (k := 9) F M0.2.2.2.2.2.2 cfX10 dX10_init_127 fl_X10_72 (by decide) fi_10_9 rfl (fun _ => ⟨rfl, rfl⟩) ?_
  refine a_nmZ (fun Z_34 => ?_)
  refine a_aload_n F dX10_init_130 rfl rfl ?_
  refine k_new F cfX0 hdX0 dX10_init_131 cl_X10_23 win_0 wii_0 M0.2.2.2.2.1 M0.2.2.2.2.2.1 ?_
  refine a_nmZ (fun Z_35 => ?_)
  refine a_nmS (fun S_35 => ?_)
  refine a_dup F dX10_init_134 rfl ?_
  refine k_callN (host := RX10) F (As := []) (c_X0_init X Z_34.length Z_35 S_35) mw_X0_init (by decide +kernel) im_X0_init rfl M0.2.1 (Nat.le_of_ble_eq_true rfl) M0.2.2.2.2.1 M0.2.2.2.2.2.1 rfl rfl (Nat.le_of_ble_eq_true rfl) dX10_init_135 rfl (fun q_36 => ?_)
  refine k_putR (k := 10) F M0.2.2.2.2.2.2 cfX10 dX10_init_138 fl_X10_75 (by decide) fi_10_10 rfl (fun _ => ⟨rfl, rfl⟩) ?_
  refine a_nmZ (fun Z_37 => ?_)
  refine a_aload_n F dX10_init_141 rfl rfl ?_
  refine a_iconst F dX10_init_142 ki_0 ?_
  refine k_putI (k := 11) F cfX10 dX10_init_143 fl_X10_78 (by decide) fi_10_11 rfl (Or.inr rfl) ?_
  refine a_nmS (fun S_38 => ?_)
  exact k_ret M0 dX10_init_146
def f_X10_init (r0 : Nat) (Z : Sh) (S : Mm) : Option (Sh × Mm) := gd (Z.length ≤ 1048576) (f_X10_init_0 r0 Z S)
theorem c_X10_init (X : CX) (r0 : Nat) (Z : Sh) (S : Mm) : CtC X Z yX10_init cX10_init 1 3 238 10682 [.ref r0] S (f_X10_init r0 Z S) :=
  ctC_of (by decide +kernel) rfl rfl (Nat.le_of_ble_eq_true rfl) (by simp [Value.category]) fun E M0 => b_X10_init M0 r0 Z S
set_option maxRecDepth 100000 in
def f_X11_init_0 (r0 : Nat) (Z : Sh) (S : Mm) : Option (Sh × Mm) :=
  gd (1 ≤ 30 ∧ 148 ≤ 9415 ∧ Z.length < 1048576) <|
  nm (Z ++ [(0, 148, [])]) fun Z_1 =>
  nm (rM S Z.length (fun _ => 0)) fun S_1 =>
  gd (r0 < Z_1.length ∧ sK Z_1 r0 = (13, 54) ∧ 1 < (Z_1.getD r0 (0, 0, [])).2.2.length) <|
  nm (zR Z_1 r0 1 Z.length) fun Z_2 =>
  gd (2 ≤ 30 ∧ 1332 ≤ 9415 ∧ Z_2.length < 1048576) <|
  nm (Z_2 ++ [(0, 1184, [])]) fun Z_3 =>
  nm (rM S_1 Z_2.length (fun _ => 0)) fun S_3 =>
  gd (r0 < Z_3.length ∧ sK Z_3 r0 = (13, 54) ∧ 2 < (Z_3.getD r0 (0, 0, [])).2.2.length) <|
  nm (zR Z_3 r0 2 Z_2.length) fun Z_4 =>
  gd (3 ≤ 30 ∧ 1480 ≤ 9415 ∧ Z_4.length < 1048576) <|
  nm (Z_4 ++ [(0, 148, [])]) fun Z_5 =>
  nm (rM S_3 Z_4.length (fun _ => 0)) fun S_5 =>
  gd (r0 < Z_5.length ∧ sK Z_5 r0 = (13, 54) ∧ 4 < (Z_5.getD r0 (0, 0, [])).2.2.length) <|
  nm (zR Z_5 r0 4 Z_4.length) fun Z_6 =>
  gd (4 ≤ 30 ∧ 1492 ≤ 9415 ∧ Z_6.length < 1048576) <|
  nm (Z_6 ++ [(0, 12, [])]) fun Z_7 =>
  nm (rM S_5 Z_6.length (fun _ => 0)) fun S_7 =>
  gd (r0 < Z_7.length ∧ sK Z_7 r0 = (13, 54) ∧ 7 < (Z_7.getD r0 (0, 0, [])).2.2.length) <|
  nm (zR Z_7 r0 7 Z_6.length) fun Z_8 =>
  gd (5 ≤ 30 ∧ 1504 ≤ 9415 ∧ Z_8.length < 1048576) <|
  nm (Z_8 ++ [(0, 12, [])]) fun Z_9 =>
  nm (rM S_7 Z_8.length (fun _ => 0)) fun S_9 =>
  gd (r0 < Z_9.length ∧ sK Z_9 r0 = (13, 54) ∧ 8 < (Z_9.getD r0 (0, 0, [])).2.2.length) <|
  nm (zR Z_9 r0 8 Z_8.length) fun Z_10 =>
  gd (6 ≤ 30 ∧ 1516 ≤ 9415 ∧ Z_10.length < 1048576) <|
  nm (Z_10 ++ [(0, 12, [])]) fun Z_11 =>
  nm (rM S_9 Z_10.length (fun _ => 0)) fun S_11 =>
  gd (r0 < Z_11.length ∧ sK Z_11 r0 = (13, 54) ∧ 9 < (Z_11.getD r0 (0, 0, [])).2.2.length) <|
  nm (zR Z_11 r0 9 Z_10.length) fun Z_12 =>
  gd (7 ≤ 30 ∧ 1528 ≤ 9415 ∧ Z_12.length < 1048576) <|
  nm (Z_12 ++ [(0, 12, [])]) fun Z_13 =>
  nm (rM S_11 Z_12.length (fun _ => 0)) fun S_13 =>
  gd (r0 < Z_13.length ∧ sK Z_13 r0 = (13, 54) ∧ 10 < (Z_13.getD r0 (0, 0, [])).2.2.length) <|
  nm (zR Z_13 r0 10 Z_12.length) fun Z_14 =>
  gd (8 ≤ 30 ∧ 1540 ≤ 9415 ∧ Z_14.length < 1048576) <|
  nm (Z_14 ++ [(0, 12, [])]) fun Z_15 =>
  nm (rM S_13 Z_14.length (fun _ => 0)) fun S_15 =>
  gd (r0 < Z_15.length ∧ sK Z_15 r0 = (13, 54) ∧ 11 < (Z_15.getD r0 (0, 0, [])).2.2.length) <|
  nm (zR Z_15 r0 11 Z_14.length) fun Z_16 =>
  gd (9 ≤ 30 ∧ 2540 ≤ 9415 ∧ Z_16.length < 1048576) <|
  nm (Z_16 ++ [(0, 1000, [])]) fun Z_17 =>
  nm (rM S_15 Z_16.length (fun _ => 0)) fun S_17 =>
  gd (r0 < Z_17.length ∧ sK Z_17 r0 = (13, 54) ∧ 13 < (Z_17.getD r0 (0, 0, [])).2.2.length) <|
  nm (zR Z_17 r0 13 Z_16.length) fun Z_18 =>
  gd (10 ≤ 30 ∧ 2684 ≤ 9415 ∧ Z_18.length < 1048576) <|
  nm (Z_18 ++ [(0, 144, [])]) fun Z_19 =>
  nm (rM S_17 Z_18.length (fun _ => 0)) fun S_19 =>
  gd (r0 < Z_19.length ∧ sK Z_19 r0 = (13, 54) ∧ 14 < (Z_19.getD r0 (0, 0, [])).2.2.length) <|
  nm (zR Z_19 r0 14 Z_18.length) fun Z_20 =>
  gd (11 ≤ 30 ∧ 3084 ≤ 9415 ∧ Z_20.length < 1048576) <|
  nm (Z_20 ++ [(0, 400, [])]) fun Z_21 =>
  nm (rM S_19 Z_20.length (fun _ => 0)) fun S_21 =>
  gd (r0 < Z_21.length ∧ sK Z_21 r0 = (13, 54) ∧ 15 < (Z_21.getD r0 (0, 0, [])).2.2.length) <|
  nm (zR Z_21 r0 15 Z_20.length) fun Z_22 =>
  gd (12 ≤ 30 ∧ 3177 ≤ 9415 ∧ Z_22.length < 1048576) <|
  nm (Z_22 ++ [(0, 93, [])]) fun Z_23 =>
  nm (rM S_21 Z_22.length (fun _ => 0)) fun S_23 =>
  gd (Z_22.length < Z_23.length ∧ sK Z_23 Z_22.length = (0, (sK Z_23 Z_22.length).2) ∧ inB (0 : Int32) (sK Z_23 Z_22.length).2 = true) <|
  nm (uM S_23 Z_22.length (ix (0 : Int32)) (32 : Int32)) fun S_24 =>
  gd (Z_22.length < Z_23.length ∧ sK Z_23 Z_22.length = (0, (sK Z_23 Z_22.length).2) ∧ inB (1 : Int32) (sK Z_23 Z_22.length).2 = true) <|
  nm (uM S_24 Z_22.length (ix (1 : Int32)) (104 : Int32)) fun S_25 =>
  gd (Z_22.length < Z_23.length ∧ sK Z_23 Z_22.length = (0, (sK Z_23 Z_22.length).2) ∧ inB (2 : Int32) (sK Z_23 Z_22.length).2 = true) <|
  nm (uM S_25 Z_22.length (ix (2 : Int32)) (101 : Int32)) fun S_26 =>
  gd (Z_22.length < Z_23.length ∧ sK Z_23 Z_22.length = (0, (sK Z_23 Z_22.length).2) ∧ inB (3 : Int32) (sK Z_23 Z_22.length).2 = true) <|
  nm (uM S_26 Z_22.length (ix (3 : Int32)) (105 : Int32)) fun S_27 =>
  gd (Z_22.length < Z_23.length ∧ sK Z_23 Z_22.length = (0, (sK Z_23 Z_22.length).2) ∧ inB (4 : Int32) (sK Z_23 Z_22.length).2 = true) <|
  nm (uM S_27 Z_22.length (ix (4 : Int32)) (114 : Int32)) fun S_28 =>
  gd (Z_22.length < Z_23.length ∧ sK Z_23 Z_22.length = (0, (sK Z_23 Z_22.length).2) ∧ inB (5 : Int32) (sK Z_23 Z_22.length).2 = true) <|
  nm (uM S_28 Z_22.length (ix (5 : Int32)) (32 : Int32)) fun S_29 =>
  gd (Z_22.length < Z_23.length ∧ sK Z_23 Z_22.length = (0, (sK Z_23 Z_22.length).2) ∧ inB (6 : Int32) (sK Z_23 Z_22.length).2 = true) <|
  nm (uM S_29 Z_22.length (ix (6 : Int32)) (119 : Int32)) fun S_30 =>
  gd (Z_22.length < Z_23.length ∧ sK Z_23 Z_22.length = (0, (sK Z_23 Z_22.length).2) ∧ inB (7 : Int32) (sK Z_23 Z_22.length).2 = true) <|
  nm (uM S_30 Z_22.length (ix (7 : Int32)) (104 : Int32)) fun S_31 =>
  gd (Z_22.length < Z_23.length ∧ sK Z_23 Z_22.length = (0, (sK Z_23 Z_22.length).2) ∧ inB (8 : Int32) (sK Z_23 Z_22.length).2 = true) <|
  nm (uM S_31 Z_22.length (ix (8 : Int32)) (101 : Int32)) fun S_32 =>
  gd (Z_22.length < Z_23.length ∧ sK Z_23 Z_22.length = (0, (sK Z_23 Z_22.length).2) ∧ inB (9 : Int32) (sK Z_23 Z_22.length).2 = true) <|
  nm (uM S_32 Z_22.length (ix (9 : Int32)) (110 : Int32)) fun S_33 =>
  gd (Z_22.length < Z_23.length ∧ sK Z_23 Z_22.length = (0, (sK Z_23 Z_22.length).2) ∧ inB (10 : Int32) (sK Z_23 Z_22.length).2 = true) <|
  nm (uM S_33 Z_22.length (ix (10 : Int32)) (32 : Int32)) fun S_34 =>
  gd (Z_22.length < Z_23.length ∧ sK Z_23 Z_22.length = (0, (sK Z_23 Z_22.length).2) ∧ inB (11 : Int32) (sK Z_23 Z_22.length).2 = true) <|
  nm (uM S_34 Z_22.length (ix (11 : Int32)) (111 : Int32)) fun S_35 =>
  gd (Z_22.length < Z_23.length ∧ sK Z_23 Z_22.length = (0, (sK Z_23 Z_22.length).2) ∧ inB (12 : Int32) (sK Z_23 Z_22.length).2 = true) <|
  nm (uM S_35 Z_22.length (ix (12 : Int32)) (114 : Int32)) fun S_36 =>
  gd (Z_22.length < Z_23.length ∧ sK Z_23 Z_22.length = (0, (sK Z_23 Z_22.length).2) ∧ inB (13 : Int32) (sK Z_23 Z_22.length).2 = true) <|
  nm (uM S_36 Z_22.length (ix (13 : Int32)) (32 : Int32)) fun S_37 =>
  gd (Z_22.length < Z_23.length ∧ sK Z_23 Z_22.length = (0, (sK Z_23 Z_22.length).2) ∧ inB (14 : Int32) (sK Z_23 Z_22.length).2 = true) <|
  nm (uM S_37 Z_22.length (ix (14 : Int32)) (97 : Int32)) fun S_38 =>
  gd (Z_22.length < Z_23.length ∧ sK Z_23 Z_22.length = (0, (sK Z_23 Z_22.length).2) ∧ inB (15 : Int32) (sK Z_23 Z_22.length).2 = true) <|
  nm (uM S_38 Z_22.length (ix (15 : Int32)) (110 : Int32)) fun S_39 =>
  gd (Z_22.length < Z_23.length ∧ sK Z_23 Z_22.length = (0, (sK Z_23 Z_22.length).2) ∧ inB (16 : Int32) (sK Z_23 Z_22.length).2 = true) <|
  nm (uM S_39 Z_22.length (ix (16 : Int32)) (100 : Int32)) fun S_40 =>
  gd (Z_22.length < Z_23.length ∧ sK Z_23 Z_22.length = (0, (sK Z_23 Z_22.length).2) ∧ inB (17 : Int32) (sK Z_23 Z_22.length).2 = true) <|
  nm (uM S_40 Z_22.length (ix (17 : Int32)) (32 : Int32)) fun S_41 =>
  gd (Z_22.length < Z_23.length ∧ sK Z_23 Z_22.length = (0, (sK Z_23 Z_22.length).2) ∧ inB (18 : Int32) (sK Z_23 Z_22.length).2 = true) <|
  nm (uM S_41 Z_22.length (ix (18 : Int32)) (110 : Int32)) fun S_42 =>
  gd (Z_22.length < Z_23.length ∧ sK Z_23 Z_22.length = (0, (sK Z_23 Z_22.length).2) ∧ inB (19 : Int32) (sK Z_23 Z_22.length).2 = true) <|
  nm (uM S_42 Z_22.length (ix (19 : Int32)) (111 : Int32)) fun S_43 =>
  gd (Z_22.length < Z_23.length ∧ sK Z_23 Z_22.length = (0, (sK Z_23 Z_22.length).2) ∧ inB (20 : Int32) (sK Z_23 Z_22.length).2 = true) <|
  nm (uM S_43 Z_22.length (ix (20 : Int32)) (116 : Int32)) fun S_44 =>
  gd (Z_22.length < Z_23.length ∧ sK Z_23 Z_22.length = (0, (sK Z_23 Z_22.length).2) ∧ inB (21 : Int32) (sK Z_23 Z_22.length).2 = true) <|
  nm (uM S_44 Z_22.length (ix (21 : Int32)) (32 : Int32)) fun S_45 =>
  gd (Z_22.length < Z_23.length ∧ sK Z_23 Z_22.length = (0, (sK Z_23 Z_22.length).2) ∧ inB (22 : Int32) (sK Z_23 Z_22.length).2 = true) <|
  nm (uM S_45 Z_22.length (ix (22 : Int32)) (108 : Int32)) fun S_46 =>
  gd (Z_22.length < Z_23.length ∧ sK Z_23 Z_22.length = (0, (sK Z_23 Z_22.length).2) ∧ inB (23 : Int32) (sK Z_23 Z_22.length).2 = true) <|
  nm (uM S_46 Z_22.length (ix (23 : Int32)) (101 : Int32)) fun S_47 =>
  gd (Z_22.length < Z_23.length ∧ sK Z_23 Z_22.length = (0, (sK Z_23 Z_22.length).2) ∧ inB (24 : Int32) (sK Z_23 Z_22.length).2 = true) <|
  nm (uM S_47 Z_22.length (ix (24 : Int32)) (116 : Int32)) fun S_48 =>
  gd (Z_22.length < Z_23.length ∧ sK Z_23 Z_22.length = (0, (sK Z_23 Z_22.length).2) ∧ inB (25 : Int32) (sK Z_23 Z_22.length).2 = true) <|
  nm (uM S_48 Z_22.length (ix (25 : Int32)) (116 : Int32)) fun S_49 =>
  gd (Z_22.length < Z_23.length ∧ sK Z_23 Z_22.length = (0, (sK Z_23 Z_22.length).2) ∧ inB (26 : Int32) (sK Z_23 Z_22.length).2 = true) <|
  nm (uM S_49 Z_22.length (ix (26 : Int32)) (101 : Int32)) fun S_50 =>
  gd (Z_22.length < Z_23.length ∧ sK Z_23 Z_22.length = (0, (sK Z_23 Z_22.length).2) ∧ inB (27 : Int32) (sK Z_23 Z_22.length).2 = true) <|
  nm (uM S_50 Z_22.length (ix (27 : Int32)) (114 : Int32)) fun S_51 =>
  gd (Z_22.length < Z_23.length ∧ sK Z_23 Z_22.length = (0, (sK Z_23 Z_22.length).2) ∧ inB (28 : Int32) (sK Z_23 Z_22.length).2 = true) <|
  nm (uM S_51 Z_22.length (ix (28 : Int32)) (32 : Int32)) fun S_52 =>
  gd (Z_22.length < Z_23.length ∧ sK Z_23 Z_22.length = (0, (sK Z_23 Z_22.length).2) ∧ inB (29 : Int32) (sK Z_23 Z_22.length).2 = true) <|
  nm (uM S_52 Z_22.length (ix (29 : Int32)) (118 : Int32)) fun S_53 =>
  gd (Z_22.length < Z_23.length ∧ sK Z_23 Z_22.length = (0, (sK Z_23 Z_22.length).2) ∧ inB (30 : Int32) (sK Z_23 Z_22.length).2 = true) <|
  nm (uM S_53 Z_22.length (ix (30 : Int32)) (111 : Int32)) fun S_54 =>
  gd (Z_22.length < Z_23.length ∧ sK Z_23 Z_22.length = (0, (sK Z_23 Z_22.length).2) ∧ inB (31 : Int32) (sK Z_23 Z_22.length).2 = true) <|
  nm (uM S_54 Z_22.length (ix (31 : Int32)) (119 : Int32)) fun S_55 =>
  gd (Z_22.length < Z_23.length ∧ sK Z_23 Z_22.length = (0, (sK Z_23 Z_22.length).2) ∧ inB (32 : Int32) (sK Z_23 Z_22.length).2 = true) <|
  nm (uM S_55 Z_22.length (ix (32 : Int32)) (101 : Int32)) fun S_56 =>
  gd (Z_22.length < Z_23.length ∧ sK Z_23 Z_22.length = (0, (sK Z_23 Z_22.length).2) ∧ inB (33 : Int32) (sK Z_23 Z_22.length).2 = true) <|
  nm (uM S_56 Z_22.length (ix (33 : Int32)) (108 : Int32)) fun S_57 =>
  gd (Z_22.length < Z_23.length ∧ sK Z_23 Z_22.length = (0, (sK Z_23 Z_22.length).2) ∧ inB (34 : Int32) (sK Z_23 Z_22.length).2 = true) <|
  nm (uM S_57 Z_22.length (ix (34 : Int32)) (32 : Int32)) fun S_58 =>
  gd (Z_22.length < Z_23.length ∧ sK Z_23 Z_22.length = (0, (sK Z_23 Z_22.length).2) ∧ inB (35 : Int32) (sK Z_23 Z_22.length).2 = true) <|
  nm (uM S_58 Z_22.length (ix (35 : Int32)) (97 : Int32)) fun S_59 =>
  gd (Z_22.length < Z_23.length ∧ sK Z_23 Z_22.length = (0, (sK Z_23 Z_22.length).2) ∧ inB (36 : Int32) (sK Z_23 Z_22.length).2 = true) <|
  nm (uM S_59 Z_22.length (ix (36 : Int32)) (103 : Int32)) fun S_60 =>
  gd (Z_22.length < Z_23.length ∧ sK Z_23 Z_22.length = (0, (sK Z_23 Z_22.length).2) ∧ inB (37 : Int32) (sK Z_23 Z_22.length).2 = true) <|
  nm (uM S_60 Z_22.length (ix (37 : Int32)) (101 : Int32)) fun S_61 =>
  gd (Z_22.length < Z_23.length ∧ sK Z_23 Z_22.length = (0, (sK Z_23 Z_22.length).2) ∧ inB (38 : Int32) (sK Z_23 Z_22.length).2 = true) <|
  nm (uM S_61 Z_22.length (ix (38 : Int32)) (32 : Int32)) fun S_62 =>
  gd (Z_22.length < Z_23.length ∧ sK Z_23 Z_22.length = (0, (sK Z_23 Z_22.length).2) ∧ inB (39 : Int32) (sK Z_23 Z_22.length).2 = true) <|
  nm (uM S_62 Z_22.length (ix (39 : Int32)) (107 : Int32)) fun S_63 =>
  gd (Z_22.length < Z_23.length ∧ sK Z_23 Z_22.length = (0, (sK Z_23 Z_22.length).2) ∧ inB (40 : Int32) (sK Z_23 Z_22.length).2 = true) <|
  nm (uM S_63 Z_22.length (ix (40 : Int32)) (105 : Int32)) fun S_64 =>
  gd (Z_22.length < Z_23.length ∧ sK Z_23 Z_22.length = (0, (sK Z_23 Z_22.length).2) ∧ inB (41 : Int32) (sK Z_23 Z_22.length).2 = true) <|
  nm (uM S_64 Z_22.length (ix (41 : Int32)) (110 : Int32)) fun S_65 =>
  gd (Z_22.length < Z_23.length ∧ sK Z_23 Z_22.length = (0, (sK Z_23 Z_22.length).2) ∧ inB (42 : Int32) (sK Z_23 Z_22.length).2 = true) <|
  nm (uM S_65 Z_22.length (ix (42 : Int32)) (32 : Int32)) fun S_66 =>
  gd (Z_22.length < Z_23.length ∧ sK Z_23 Z_22.length = (0, (sK Z_23 Z_22.length).2) ∧ inB (43 : Int32) (sK Z_23 Z_22.length).2 = true) <|
  nm (uM S_66 Z_22.length (ix (43 : Int32)) (99 : Int32)) fun S_67 =>
  gd (Z_22.length < Z_23.length ∧ sK Z_23 Z_22.length = (0, (sK Z_23 Z_22.length).2) ∧ inB (44 : Int32) (sK Z_23 Z_22.length).2 = true) <|
  nm (uM S_67 Z_22.length (ix (44 : Int32)) (104 : Int32)) fun S_68 =>
  gd (Z_22.length < Z_23.length ∧ sK Z_23 Z_22.length = (0, (sK Z_23 Z_22.length).2) ∧ inB (45 : Int32) (sK Z_23 Z_22.length).2 = true) <|
  nm (uM S_68 Z_22.length (ix (45 : Int32)) (105 : Int32)) fun S_69 =>
  gd (Z_22.length < Z_23.length ∧ sK Z_23 Z_22.length = (0, (sK Z_23 Z_22.length).2) ∧ inB (46 : Int32) (sK Z_23 Z_22.length).2 = true) <|
  nm (uM S_69 Z_22.length (ix (46 : Int32)) (108 : Int32)) fun S_70 =>
  gd (Z_22.length < Z_23.length ∧ sK Z_23 Z_22.length = (0, (sK Z_23 Z_22.length).2) ∧ inB (47 : Int32) (sK Z_23 Z_22.length).2 = true) <|
  nm (uM S_70 Z_22.length (ix (47 : Int32)) (100 : Int32)) fun S_71 =>
  gd (Z_22.length < Z_23.length ∧ sK Z_23 Z_22.length = (0, (sK Z_23 Z_22.length).2) ∧ inB (48 : Int32) (sK Z_23 Z_22.length).2 = true) <|
  nm (uM S_71 Z_22.length (ix (48 : Int32)) (32 : Int32)) fun S_72 =>
  gd (Z_22.length < Z_23.length ∧ sK Z_23 Z_22.length = (0, (sK Z_23 Z_22.length).2) ∧ inB (49 : Int32) (sK Z_23 Z_22.length).2 = true) <|
  nm (uM S_72 Z_22.length (ix (49 : Int32)) (115 : Int32)) fun S_73 =>
  gd (Z_22.length < Z_23.length ∧ sK Z_23 Z_22.length = (0, (sK Z_23 Z_22.length).2) ∧ inB (50 : Int32) (sK Z_23 Z_22.length).2 = true) <|
  nm (uM S_73 Z_22.length (ix (50 : Int32)) (112 : Int32)) fun S_74 =>
  gd (Z_22.length < Z_23.length ∧ sK Z_23 Z_22.length = (0, (sK Z_23 Z_22.length).2) ∧ inB (51 : Int32) (sK Z_23 Z_22.length).2 = true) <|
  nm (uM S_74 Z_22.length (ix (51 : Int32)) (111 : Int32)) fun S_75 =>
  gd (Z_22.length < Z_23.length ∧ sK Z_23 Z_22.length = (0, (sK Z_23 Z_22.length).2) ∧ inB (52 : Int32) (sK Z_23 Z_22.length).2 = true) <|
  nm (uM S_75 Z_22.length (ix (52 : Int32)) (117 : Int32)) fun S_76 =>
  gd (Z_22.length < Z_23.length ∧ sK Z_23 Z_22.length = (0, (sK Z_23 Z_22.length).2) ∧ inB (53 : Int32) (sK Z_23 Z_22.length).2 = true) <|
  nm (uM S_76 Z_22.length (ix (53 : Int32)) (115 : Int32)) fun S_77 =>
  gd (Z_22.length < Z_23.length ∧ sK Z_23 Z_22.length = (0, (sK Z_23 Z_22.length).2) ∧ inB (54 : Int32) (sK Z_23 Z_22.length).2 = true) <|
  nm (uM S_77 Z_22.length (ix (54 : Int32)) (101 : Int32)) fun S_78 =>
  gd (Z_22.length < Z_23.length ∧ sK Z_23 Z_22.length = (0, (sK Z_23 Z_22.length).2) ∧ inB (55 : Int32) (sK Z_23 Z_22.length).2 = true) <|
  nm (uM S_78 Z_22.length (ix (55 : Int32)) (32 : Int32)) fun S_79 =>
  gd (Z_22.length < Z_23.length ∧ sK Z_23 Z_22.length = (0, (sK Z_23 Z_22.length).2) ∧ inB (56 : Int32) (sK Z_23 Z_22.length).2 = true) <|
  nm (uM S_79 Z_22.length (ix (56 : Int32)) (111 : Int32)) fun S_80 =>
  gd (Z_22.length < Z_23.length ∧ sK Z_23 Z_22.length = (0, (sK Z_23 Z_22.length).2) ∧ inB (57 : Int32) (sK Z_23 Z_22.length).2 = true) <|
  nm (uM S_80 Z_22.length (ix (57 : Int32)) (119 : Int32)) fun S_81 =>
  gd (Z_22.length < Z_23.length ∧ sK Z_23 Z_22.length = (0, (sK Z_23 Z_22.length).2) ∧ inB (58 : Int32) (sK Z_23 Z_22.length).2 = true) <|
  nm (uM S_81 Z_22.length (ix (58 : Int32)) (110 : Int32)) fun S_82 =>
  gd (Z_22.length < Z_23.length ∧ sK Z_23 Z_22.length = (0, (sK Z_23 Z_22.length).2) ∧ inB (59 : Int32) (sK Z_23 Z_22.length).2 = true) <|
  nm (uM S_82 Z_22.length (ix (59 : Int32)) (115 : Int32)) fun S_83 =>
  gd (Z_22.length < Z_23.length ∧ sK Z_23 Z_22.length = (0, (sK Z_23 Z_22.length).2) ∧ inB (60 : Int32) (sK Z_23 Z_22.length).2 = true) <|
  nm (uM S_83 Z_22.length (ix (60 : Int32)) (32 : Int32)) fun S_84 =>
  gd (Z_22.length < Z_23.length ∧ sK Z_23 Z_22.length = (0, (sK Z_23 Z_22.length).2) ∧ inB (61 : Int32) (sK Z_23 Z_22.length).2 = true) <|
  nm (uM S_84 Z_22.length (ix (61 : Int32)) (115 : Int32)) fun S_85 =>
  gd (Z_22.length < Z_23.length ∧ sK Z_23 Z_22.length = (0, (sK Z_23 Z_22.length).2) ∧ inB (62 : Int32) (sK Z_23 Z_22.length).2 = true) <|
  nm (uM S_85 Z_22.length (ix (62 : Int32)) (107 : Int32)) fun S_86 =>
  gd (Z_22.length < Z_23.length ∧ sK Z_23 Z_22.length = (0, (sK Z_23 Z_22.length).2) ∧ inB (63 : Int32) (sK Z_23 Z_22.length).2 = true) <|
  nm (uM S_86 Z_22.length (ix (63 : Int32)) (105 : Int32)) fun S_87 =>
  gd (Z_22.length < Z_23.length ∧ sK Z_23 Z_22.length = (0, (sK Z_23 Z_22.length).2) ∧ inB (64 : Int32) (sK Z_23 Z_22.length).2 = true) <|
  nm (uM S_87 Z_22.length (ix (64 : Int32)) (108 : Int32)) fun S_88 =>
  gd (Z_22.length < Z_23.length ∧ sK Z_23 Z_22.length = (0, (sK Z_23 Z_22.length).2) ∧ inB (65 : Int32) (sK Z_23 Z_22.length).2 = true) <|
  nm (uM S_88 Z_22.length (ix (65 : Int32)) (108 : Int32)) fun S_89 =>
  gd (Z_22.length < Z_23.length ∧ sK Z_23 Z_22.length = (0, (sK Z_23 Z_22.length).2) ∧ inB (66 : Int32) (sK Z_23 Z_22.length).2 = true) <|
  nm (uM S_89 Z_22.length (ix (66 : Int32)) (32 : Int32)) fun S_90 =>
  gd (Z_22.length < Z_23.length ∧ sK Z_23 Z_22.length = (0, (sK Z_23 Z_22.length).2) ∧ inB (67 : Int32) (sK Z_23 Z_22.length).2 = true) <|
  nm (uM S_90 Z_22.length (ix (67 : Int32)) (99 : Int32)) fun S_91 =>
  gd (Z_22.length < Z_23.length ∧ sK Z_23 Z_22.length = (0, (sK Z_23 Z_22.length).2) ∧ inB (68 : Int32) (sK Z_23 Z_22.length).2 = true) <|
  nm (uM S_91 Z_22.length (ix (68 : Int32)) (111 : Int32)) fun S_92 =>
  gd (Z_22.length < Z_23.length ∧ sK Z_23 Z_22.length = (0, (sK Z_23 Z_22.length).2) ∧ inB (69 : Int32) (sK Z_23 Z_22.length).2 = true) <|
  nm (uM S_92 Z_22.length (ix (69 : Int32)) (105 : Int32)) fun S_93 =>
  gd (Z_22.length < Z_23.length ∧ sK Z_23 Z_22.length = (0, (sK Z_23 Z_22.length).2) ∧ inB (70 : Int32) (sK Z_23 Z_22.length).2 = true) <|
  nm (uM S_93 Z_22.length (ix (70 : Int32)) (110 : Int32)) fun S_94 =>
  gd (Z_22.length < Z_23.length ∧ sK Z_23 Z_22.length = (0, (sK Z_23 Z_22.length).2) ∧ inB (71 : Int32) (sK Z_23 Z_22.length).2 = true) <|
  nm (uM S_94 Z_22.length (ix (71 : Int32)) (32 : Int32)) fun S_95 =>
  gd (Z_22.length < Z_23.length ∧ sK Z_23 Z_22.length = (0, (sK Z_23 Z_22.length).2) ∧ inB (72 : Int32) (sK Z_23 Z_22.length).2 = true) <|
  nm (uM S_95 Z_22.length (ix (72 : Int32)) (100 : Int32)) fun S_96 =>
  gd (Z_22.length < Z_23.length ∧ sK Z_23 Z_22.length = (0, (sK Z_23 Z_22.length).2) ∧ inB (73 : Int32) (sK Z_23 Z_22.length).2 = true) <|
  nm (uM S_96 Z_22.length (ix (73 : Int32)) (97 : Int32)) fun S_97 =>
  gd (Z_22.length < Z_23.length ∧ sK Z_23 Z_22.length = (0, (sK Z_23 Z_22.length).2) ∧ inB (74 : Int32) (sK Z_23 Z_22.length).2 = true) <|
  nm (uM S_97 Z_22.length (ix (74 : Int32)) (121 : Int32)) fun S_98 =>
  gd (Z_22.length < Z_23.length ∧ sK Z_23 Z_22.length = (0, (sK Z_23 Z_22.length).2) ∧ inB (75 : Int32) (sK Z_23 Z_22.length).2 = true) <|
  nm (uM S_98 Z_22.length (ix (75 : Int32)) (32 : Int32)) fun S_99 =>
  gd (Z_22.length < Z_23.length ∧ sK Z_23 Z_22.length = (0, (sK Z_23 Z_22.length).2) ∧ inB (76 : Int32) (sK Z_23 Z_22.length).2 = true) <|
  nm (uM S_99 Z_22.length (ix (76 : Int32)) (108 : Int32)) fun S_100 =>
  gd (Z_22.length < Z_23.length ∧ sK Z_23 Z_22.length = (0, (sK Z_23 Z_22.length).2) ∧ inB (77 : Int32) (sK Z_23 Z_22.length).2 = true) <|
  nm (uM S_100 Z_22.length (ix (77 : Int32)) (101 : Int32)) fun S_101 =>
  gd (Z_22.length < Z_23.length ∧ sK Z_23 Z_22.length = (0, (sK Z_23 Z_22.length).2) ∧ inB (78 : Int32) (sK Z_23 Z_22.length).2 = true) <|
  nm (uM S_101 Z_22.length (ix (78 : Int32)) (97 : Int32)) fun S_102 =>
  gd (Z_22.length < Z_23.length ∧ sK Z_23 Z_22.length = (0, (sK Z_23 Z_22.length).2) ∧ inB (79 : Int32) (sK Z_23 Z_22.length).2 = true) <|
  nm (uM S_102 Z_22.length (ix (79 : Int32)) (118 : Int32)) fun S_103 =>
  gd (Z_22.length < Z_23.length ∧ sK Z_23 Z_22.length = (0, (sK Z_23 Z_22.length).2) ∧ inB (80 : Int32) (sK Z_23 Z_22.length).2 = true) <|
  nm (uM S_103 Z_22.length (ix (80 : Int32)) (101 : Int32)) fun S_104 =>
  gd (Z_22.length < Z_23.length ∧ sK Z_23 Z_22.length = (0, (sK Z_23 Z_22.length).2) ∧ inB (81 : Int32) (sK Z_23 Z_22.length).2 = true) <|
  nm (uM S_104 Z_22.length (ix (81 : Int32)) (32 : Int32)) fun S_105 =>
  gd (Z_22.length < Z_23.length ∧ sK Z_23 Z_22.length = (0, (sK Z_23 Z_22.length).2) ∧ inB (82 : Int32) (sK Z_23 Z_22.length).2 = true) <|
  nm (uM S_105 Z_22.length (ix (82 : Int32)) (116 : Int32)) fun S_106 =>
  gd (Z_22.length < Z_23.length ∧ sK Z_23 Z_22.length = (0, (sK Z_23 Z_22.length).2) ∧ inB (83 : Int32) (sK Z_23 Z_22.length).2 = true) <|
  nm (uM S_106 Z_22.length (ix (83 : Int32)) (111 : Int32)) fun S_107 =>
  gd (Z_22.length < Z_23.length ∧ sK Z_23 Z_22.length = (0, (sK Z_23 Z_22.length).2) ∧ inB (84 : Int32) (sK Z_23 Z_22.length).2 = true) <|
  nm (uM S_107 Z_22.length (ix (84 : Int32)) (32 : Int32)) fun S_108 =>
  gd (Z_22.length < Z_23.length ∧ sK Z_23 Z_22.length = (0, (sK Z_23 Z_22.length).2) ∧ inB (85 : Int32) (sK Z_23 Z_22.length).2 = true) <|
  nm (uM S_108 Z_22.length (ix (85 : Int32)) (105 : Int32)) fun S_109 =>
  gd (Z_22.length < Z_23.length ∧ sK Z_23 Z_22.length = (0, (sK Z_23 Z_22.length).2) ∧ inB (86 : Int32) (sK Z_23 Z_22.length).2 = true) <|
  nm (uM S_109 Z_22.length (ix (86 : Int32)) (102 : Int32)) fun S_110 =>
  gd (Z_22.length < Z_23.length ∧ sK Z_23 Z_22.length = (0, (sK Z_23 Z_22.length).2) ∧ inB (87 : Int32) (sK Z_23 Z_22.length).2 = true) <|
  nm (uM S_110 Z_22.length (ix (87 : Int32)) (32 : Int32)) fun S_111 =>
  gd (Z_22.length < Z_23.length ∧ sK Z_23 Z_22.length = (0, (sK Z_23 Z_22.length).2) ∧ inB (88 : Int32) (sK Z_23 Z_22.length).2 = true) <|
  nm (uM S_111 Z_22.length (ix (88 : Int32)) (114 : Int32)) fun S_112 =>
  gd (Z_22.length < Z_23.length ∧ sK Z_23 Z_22.length = (0, (sK Z_23 Z_22.length).2) ∧ inB (89 : Int32) (sK Z_23 Z_22.length).2 = true) <|
  nm (uM S_112 Z_22.length (ix (89 : Int32)) (101 : Int32)) fun S_113 =>
  gd (Z_22.length < Z_23.length ∧ sK Z_23 Z_22.length = (0, (sK Z_23 Z_22.length).2) ∧ inB (90 : Int32) (sK Z_23 Z_22.length).2 = true) <|
  nm (uM S_113 Z_22.length (ix (90 : Int32)) (115 : Int32)) fun S_114 =>
  gd (Z_22.length < Z_23.length ∧ sK Z_23 Z_22.length = (0, (sK Z_23 Z_22.length).2) ∧ inB (91 : Int32) (sK Z_23 Z_22.length).2 = true) <|
  nm (uM S_114 Z_22.length (ix (91 : Int32)) (116 : Int32)) fun S_115 =>
  gd (Z_22.length < Z_23.length ∧ sK Z_23 Z_22.length = (0, (sK Z_23 Z_22.length).2) ∧ inB (92 : Int32) (sK Z_23 Z_22.length).2 = true) <|
  nm (uM S_115 Z_22.length (ix (92 : Int32)) (32 : Int32)) fun S_116 =>
  gd (r0 < Z_23.length ∧ sK Z_23 r0 = (13, 54) ∧ 21 < (Z_23.getD r0 (0, 0, [])).2.2.length) <|
  nm (zR Z_23 r0 21 Z_22.length) fun Z_117 =>
  gd (13 ≤ 30 ∧ 3209 ≤ 9415 ∧ Z_117.length < 1048576) <|
  nm (Z_117 ++ [(0, 32, [])]) fun Z_118 =>
  nm (rM S_116 Z_117.length (fun _ => 0)) fun S_118 =>
  gd (r0 < Z_118.length ∧ sK Z_118 r0 = (13, 54) ∧ 23 < (Z_118.getD r0 (0, 0, [])).2.2.length) <|
  nm (zR Z_118 r0 23 Z_117.length) fun Z_119 =>
  gd (14 ≤ 30 ∧ 3241 ≤ 9415 ∧ Z_119.length < 1048576) <|
  nm (Z_119 ++ [(0, 32, [])]) fun Z_120 =>
  nm (rM S_118 Z_119.length (fun _ => 0)) fun S_120 =>
  gd (r0 < Z_120.length ∧ sK Z_120 r0 = (13, 54) ∧ 24 < (Z_120.getD r0 (0, 0, [])).2.2.length) <|
  nm (zR Z_120 r0 24 Z_119.length) fun Z_121 =>
  gd (15 ≤ 30 ∧ 3273 ≤ 9415 ∧ Z_121.length < 1048576) <|
  nm (Z_121 ++ [(0, 32, [])]) fun Z_122 =>
  nm (rM S_120 Z_121.length (fun _ => 0)) fun S_122 =>
  gd (r0 < Z_122.length ∧ sK Z_122 r0 = (13, 54) ∧ 25 < (Z_122.getD r0 (0, 0, [])).2.2.length) <|
  nm (zR Z_122 r0 25 Z_121.length) fun Z_123 =>
  gd (16 ≤ 30 ∧ 4073 ≤ 9415 ∧ Z_123.length < 1048576) <|
  nm (Z_123 ++ [(0, 800, [])]) fun Z_124 =>
  nm (rM S_122 Z_123.length (fun _ => 0)) fun S_124 =>
  gd (r0 < Z_124.length ∧ sK Z_124 r0 = (13, 54) ∧ 26 < (Z_124.getD r0 (0, 0, [])).2.2.length) <|
  nm (zR Z_124 r0 26 Z_123.length) fun Z_125 =>
  gd (17 ≤ 30 ∧ 4873 ≤ 9415 ∧ Z_125.length < 1048576) <|
  nm (Z_125 ++ [(0, 800, [])]) fun Z_126 =>
  nm (rM S_124 Z_125.length (fun _ => 0)) fun S_126 =>
  gd (r0 < Z_126.length ∧ sK Z_126 r0 = (13, 54) ∧ 27 < (Z_126.getD r0 (0, 0, [])).2.2.length) <|
  nm (zR Z_126 r0 27 Z_125.length) fun Z_127 =>
  gd (18 ≤ 30 ∧ 4913 ≤ 9415 ∧ Z_127.length < 1048576) <|
  nm (Z_127 ++ [(0, 40, [])]) fun Z_128 =>
  nm (rM S_126 Z_127.length (fun _ => 0)) fun S_128 =>
  gd (r0 < Z_128.length ∧ sK Z_128 r0 = (13, 54) ∧ 30 < (Z_128.getD r0 (0, 0, [])).2.2.length) <|
  nm (zR Z_128 r0 30 Z_127.length) fun Z_129 =>
  gd (r0 < Z_129.length ∧ sK Z_129 r0 = (13, 54) ∧ (tyX11 35 = .int ∨ (-1 : Int32) = 0 ∨ (-1 : Int32) = 1)) <|
  nm (uM S_128 r0 35 (-1 : Int32)) fun S_130 =>
  gd (19 ≤ 30 ∧ 4925 ≤ 9415 ∧ Z_129.length < 1048576) <|
  nm (Z_129 ++ [(0, 12, [])]) fun Z_131 =>
  nm (rM S_130 Z_129.length (fun _ => 0)) fun S_131 =>
  gd (r0 < Z_131.length ∧ sK Z_131 r0 = (13, 54) ∧ 36 < (Z_131.getD r0 (0, 0, [])).2.2.length) <|
  nm (zR Z_131 r0 36 Z_129.length) fun Z_132 =>
  gd (20 ≤ 30 ∧ 5081 ≤ 9415 ∧ Z_132.length < 1048576) <|
  nm (Z_132 ++ [(0, 156, [])]) fun Z_133 =>
  nm (rM S_131 Z_132.length (fun _ => 0)) fun S_133 =>
  gd (r0 < Z_133.length ∧ sK Z_133 r0 = (13, 54) ∧ 37 < (Z_133.getD r0 (0, 0, [])).2.2.length) <|
  nm (zR Z_133 r0 37 Z_132.length) fun Z_134 =>
  gd (21 ≤ 30 ∧ 5237 ≤ 9415 ∧ Z_134.length < 1048576) <|
  nm (Z_134 ++ [(0, 156, [])]) fun Z_135 =>
  nm (rM S_133 Z_134.length (fun _ => 0)) fun S_135 =>
  gd (r0 < Z_135.length ∧ sK Z_135 r0 = (13, 54) ∧ 38 < (Z_135.getD r0 (0, 0, [])).2.2.length) <|
  nm (zR Z_135 r0 38 Z_134.length) fun Z_136 =>
  gd (22 ≤ 30 ∧ 5393 ≤ 9415 ∧ Z_136.length < 1048576) <|
  nm (Z_136 ++ [(0, 156, [])]) fun Z_137 =>
  nm (rM S_135 Z_136.length (fun _ => 0)) fun S_137 =>
  gd (r0 < Z_137.length ∧ sK Z_137 r0 = (13, 54) ∧ 39 < (Z_137.getD r0 (0, 0, [])).2.2.length) <|
  nm (zR Z_137 r0 39 Z_136.length) fun Z_138 =>
  gd (23 ≤ 30 ∧ 5401 ≤ 9415 ∧ Z_138.length < 1048576) <|
  nm (Z_138 ++ [(0, 8, [])]) fun Z_139 =>
  nm (rM S_137 Z_138.length (fun _ => 0)) fun S_139 =>
  gd (r0 < Z_139.length ∧ sK Z_139 r0 = (13, 54) ∧ 41 < (Z_139.getD r0 (0, 0, [])).2.2.length) <|
  nm (zR Z_139 r0 41 Z_138.length) fun Z_140 =>
  gd (24 ≤ 30 ∧ 5409 ≤ 9415 ∧ Z_140.length < 1048576) <|
  nm (Z_140 ++ [(0, 8, [])]) fun Z_141 =>
  nm (rM S_139 Z_140.length (fun _ => 0)) fun S_141 =>
  gd (r0 < Z_141.length ∧ sK Z_141 r0 = (13, 54) ∧ 42 < (Z_141.getD r0 (0, 0, [])).2.2.length) <|
  nm (zR Z_141 r0 42 Z_140.length) fun Z_142 =>
  gd (25 ≤ 30 ∧ 5769 ≤ 9415 ∧ Z_142.length < 1048576) <|
  nm (Z_142 ++ [(0, 360, [])]) fun Z_143 =>
  nm (rM S_141 Z_142.length (fun _ => 0)) fun S_143 =>
  gd (r0 < Z_143.length ∧ sK Z_143 r0 = (13, 54) ∧ 43 < (Z_143.getD r0 (0, 0, [])).2.2.length) <|
  nm (zR Z_143 r0 43 Z_142.length) fun Z_144 =>
  gd (26 ≤ 30 ∧ 5779 ≤ 9415 ∧ Z_144.length < 1048576) <|
  nm (Z_144 ++ [(0, 10, [])]) fun Z_145 =>
  nm (rM S_143 Z_144.length (fun _ => 0)) fun S_145 =>
  gd (r0 < Z_145.length ∧ sK Z_145 r0 = (13, 54) ∧ 44 < (Z_145.getD r0 (0, 0, [])).2.2.length) <|
  nm (zR Z_145 r0 44 Z_144.length) fun Z_146 =>
  gd (27 ≤ 30 ∧ 6199 ≤ 9415 ∧ Z_146.length < 1048576) <|
  nm (Z_146 ++ [(0, 420, [])]) fun Z_147 =>
  nm (rM S_145 Z_146.length (fun _ => 0)) fun S_147 =>
  gd (r0 < Z_147.length ∧ sK Z_147 r0 = (13, 54) ∧ 45 < (Z_147.getD r0 (0, 0, [])).2.2.length) <|
  nm (zR Z_147 r0 45 Z_146.length) fun Z_148 =>
  gd (28 ≤ 30 ∧ 6211 ≤ 9415 ∧ Z_148.length < 1048576) <|
  nm (Z_148 ++ [(0, 12, [])]) fun Z_149 =>
  nm (rM S_147 Z_148.length (fun _ => 0)) fun S_149 =>
  gd (r0 < Z_149.length ∧ sK Z_149 r0 = (13, 54) ∧ 46 < (Z_149.getD r0 (0, 0, [])).2.2.length) <|
  nm (zR Z_149 r0 46 Z_148.length) fun Z_150 =>
  gd (r0 < Z_150.length ∧ sK Z_150 r0 = (13, 54) ∧ (tyX11 47 = .int ∨ (-1 : Int32) = 0 ∨ (-1 : Int32) = 1)) <|
  nm (uM S_149 r0 47 (-1 : Int32)) fun S_151 =>
  gd (29 ≤ 30 ∧ 6215 ≤ 9415 ∧ Z_150.length < 1048576) <|
  nm (Z_150 ++ [(0, 4, [])]) fun Z_152 =>
  nm (rM S_151 Z_150.length (fun _ => 0)) fun S_152 =>
  gd (r0 < Z_152.length ∧ sK Z_152 r0 = (13, 54) ∧ 49 < (Z_152.getD r0 (0, 0, [])).2.2.length) <|
  nm (zR Z_152 r0 49 Z_150.length) fun Z_153 =>
  gd (30 ≤ 30 ∧ 9415 ≤ 9415 ∧ Z_153.length < 1048576) <|
  nm (Z_153 ++ [(0, 3200, [])]) fun Z_154 =>
  nm (rM S_152 Z_153.length (fun _ => 0)) fun S_154 =>
  gd (r0 < Z_154.length ∧ sK Z_154 r0 = (13, 54) ∧ 53 < (Z_154.getD r0 (0, 0, [])).2.2.length) <|
  nm (zR Z_154 r0 53 Z_153.length) fun Z_155 =>
  gd (30 ≤ 30 ∧ 9415 ≤ 9415) (some (Z_155, S_154))
set_option maxRecDepth 100000 in
set_option maxHeartbeats 4000000 in
theorem b_X11_init {X : CX} {E : FE} (M0 : MC X E RX11 cX11_init 1 1 30 9415) (r0 : Nat) (Z : Sh) (S : Mm) : At X E true (mQc X 30 9415 E) 0 [some (.ref r0)] [] Z S 0 0 (f_X11_init_0 r0 Z S) := by
  have F := M0.1
  unfold f_X11_init_0
  refine a_aload_n F dX11_init_0 rfl rfl ?_
  refine k_obj F dX11_init_1 rfl ml_X11_1 oi_i oi_c (Nat.le_of_ble_eq_true rfl) (rm_fr M0.2.1 (by omega)) (rm_lo M0.2.1 (by omega)) ?_
  refine a_aload_n F dX11_init_4 rfl rfl ?_
  refine a_sipush F dX11_init_5 ks_148 ?_
  refine k_newa (N := 148) F dX11_init_8 w_ac nn_148 ix_148 (by decide) M0.2.2.2.2.1 M0.2.2.2.2.2.1 ?_
  refine a_nmZ (fun Z_1 => ?_)
  refine a_nmS (fun S_1 => ?_)
  refine k_putR (k := 1) F M0.2.2.2.2.2.2 cfX11 dX11_init_10 fl_X11_7 (by decide) fi_11_1 rfl (fun _ => ⟨rfl, rfl⟩) ?_
  refine a_nmZ (fun Z_2 => ?_)
  refine a_aload_n F dX11_init_13 rfl rfl ?_
  refine a_sipush F dX11_init_14 ks_1184 ?_
  refine k_newa (N := 1184) F dX11_init_17 w_ac nn_1184 ix_1184 (by decide) M0.2.2.2.2.1 M0.2.2.2.2.2.1 ?_
  refine a_nmZ (fun Z_3 => ?_)
  refine a_nmS (fun S_3 => ?_)
  refine k_putR (k := 2) F M0.2.2.2.2.2.2 cfX11 dX11_init_19 fl_X11_13 (by decide) fi_11_2 rfl (fun _ => ⟨rfl, rfl⟩) ?_
  refine a_nmZ (fun Z_4 => ?_)
  refine a_aload_n F dX11_init_22 rfl rfl ?_
  refine a_sipush F dX11_init_23 ks_148 ?_
  refine k_newa (N := 148) F dX11_init_26 w_ac nn_148 ix_148 (by decide) M0.2.2.2.2.1 M0.2.2.2.2.2.1 ?_
  refine a_nmZ (fun Z_5 => ?_)
  refine a_nmS (fun S_5 => ?_)
  refine k_putR (k := 4) F M0.2.2.2.2.2.2 cfX11 dX11_init_28 fl_X11_16 (by decide) fi_11_4 rfl (fun _ => ⟨rfl, rfl⟩) ?_
  refine a_nmZ (fun Z_6 => ?_)
  refine a_aload_n F dX11_init_31 rfl rfl ?_
  refine a_bipush F dX11_init_32 kb_12 ?_
  refine k_newa (N := 12) F dX11_init_34 w_ac nn_12 ix_12 (by decide) M0.2.2.2.2.1 M0.2.2.2.2.2.1 ?_
  refine a_nmZ (fun Z_7 => ?_)
  refine a_nmS (fun S_7 => ?_)
  refine k_putR (k := 7) F M0.2.2.2.2.2.2 cfX11 dX11_init_36 fl_X11_19 (by decide) fi_11_7 rfl (fun _ => ⟨rfl, rfl⟩) ?_
  refine a_nmZ (fun Z_8 => ?_)
  refine a_aload_n F dX11_init_39 rfl rfl ?_
  refine a_bipush F dX11_init_40 kb_12 ?_
  refine k_newa (N := 12) F dX11_init_42 w_ac nn_12 ix_12 (by decide) M0.2.2.2.2.1 M0.2.2.2.2.2.1 ?_
  refine a_nmZ (fun Z_9 => ?_)
  refine a_nmS (fun S_9 => ?_)
  refine k_putR (k := 8) F M0.2.2.2.2.2.2 cfX11 dX11_init_44 fl_X11_22 (by decide) fi_11_8 rfl (fun _ => ⟨rfl, rfl⟩) ?_
  refine a_nmZ (fun Z_10 => ?_)
  refine a_aload_n F dX11_init_47 rfl rfl ?_
  refine a_bipush F dX11_init_48 kb_12 ?_
  refine k_newa (N := 12) F dX11_init_50 w_ac nn_12 ix_12 (by decide) M0.2.2.2.2.1 M0.2.2.2.2.2.1 ?_
  refine a_nmZ (fun Z_11 => ?_)
  refine a_nmS (fun S_11 => ?_)
  refine k_putR (k := 9) F M0.2.2.2.2.2.2 cfX11 dX11_init_52 fl_X11_25 (by decide) fi_11_9 rfl (fun _ => ⟨rfl, rfl⟩) ?_
  refine a_nmZ (fun Z_12 => ?_)
  refine a_aload_n F dX11_init_55 rfl rfl ?_
  refine a_bipush F dX11_init_56 kb_12 ?_
  refine k_newa (N := 12) F dX11_init_58 w_ac nn_12 ix_12 (by decide) M0.2.2.2.2.1 M0.2.2.2.2.2.1 ?_
  refine a_nmZ (fun Z_13 => ?_)
  refine a_nmS (fun S_13 => ?_)
  refine k_putR (k := 10) F M0.2.2.2.2.2.2 cfX11 dX11_init_60 fl_X11_28 (by decide) fi_11_10 rfl (fun _ => ⟨rfl, rfl⟩) ?_
  refine a_nmZ (fun Z_14 => ?_)
  refine a_aload_n F dX11_init_63 rfl rfl ?_
  refine a_bipush F dX11_init_64 kb_12 ?_
  refine k_newa (N := 12) F dX11_init_66 w_ac nn_12 ix_12 (by decide) M0.2.2.2.2.1 M0.2.2.2.2.2.1 ?_
  refine a_nmZ (fun Z_15 => ?_)
  refine a_nmS (fun S_15 => ?_)
  refine k_putR (k := 11) F M0.2.2.2.2.2.2 cfX11 dX11_init_68 fl_X11_31 (by decide) fi_11_11 rfl (fun _ => ⟨rfl, rfl⟩) ?_
  refine a_nmZ (fun Z_16 => ?_)
  refine a_aload_n F dX11_init_71 rfl rfl ?_
  refine a_sipush F dX11_init_72 ks_1000 ?_
  refine k_newa (N := 1000) F dX11_init_75 w_ac nn_1000 ix_1000 (by decide) M0.2.2.2.2.1 M0.2.2.2.2.2.1 ?_
  refine a_nmZ (fun Z_17 => ?_)
  refine a_nmS (fun S_17 => ?_)
  refine k_putR (k := 13) F M0.2.2.2.2.2.2 cfX11 dX11_init_77 fl_X11_34 (by decide) fi_11_13 rfl (fun _ => ⟨rfl, rfl⟩) ?_
  refine a_nmZ (fun Z_18 => ?_)
  refine a_aload_n F dX11_init_80 rfl rfl ?_
  refine a_sipush F dX11_init_81 ks_144 ?_
  refine k_newa (N := 144) F dX11_init_84 w_ac nn_144 ix_144 (by decide) M0.2.2.2.2.1 M0.2.2.2.2.2.1 ?_
  refine a_nmZ (fun Z_19 => ?_)
  refine a_nmS (fun S_19 => ?_)
  refine k_putR (k := 14) F M0.2.2.2.2.2.2 cfX11 dX11_init_86 fl_X11_37 (by decide) fi_11_14 rfl (fun _ => ⟨rfl, rfl⟩) ?_
  refine a_nmZ (fun Z_20 => ?_)
  refine a_aload_n F dX11_init_89 rfl rfl ?_
  refine a_sipush F dX11_init_90 ks_400 ?_
  refine k_newa (N := 400) F dX11_init_93 w_ac nn_400 ix_400 (by decide) M0.2.2.2.2.1 M0.2.2.2.2.2.1 ?_
  refine a_nmZ (fun Z_21 => ?_)
  refine a_nmS (fun S_21 => ?_)
  refine k_putR (k := 15) F M0.2.2.2.2.2.2 cfX11 dX11_init_95 fl_X11_40 (by decide) fi_11_15 rfl (fun _ => ⟨rfl, rfl⟩) ?_
  refine a_nmZ (fun Z_22 => ?_)
  refine a_aload_n F dX11_init_98 rfl rfl ?_
  refine a_bipush F dX11_init_99 kb_93 ?_
  refine k_newa (N := 93) F dX11_init_101 w_ac nn_93 ix_93 (by decide) M0.2.2.2.2.1 M0.2.2.2.2.2.1 ?_
  refine a_nmZ (fun Z_23 => ?_)
  refine a_nmS (fun S_23 => ?_)
  refine a_dup F dX11_init_103 rfl ?_
  refine a_iconst F dX11_init_104 ki_0 ?_
  refine a_bipush F dX11_init_105 kb_32 ?_
  refine k_iast (m := (sK Z_23 Z_22.length).2) F dX11_init_107 ?_
  refine a_nmS (fun S_24 => ?_)
  refine a_dup F dX11_init_108 rfl ?_
  refine a_iconst F dX11_init_109 ki_1 ?_
  refine a_bipush F dX11_init_110 kb_104 ?_
  refine k_iast (m := (sK Z_23 Z_22.length).2) F dX11_init_112 ?_
  refine a_nmS (fun S_25 => ?_)
  refine a_dup F dX11_init_113 rfl ?_
  refine a_iconst F dX11_init_114 ki_2 ?_
  refine a_bipush F dX11_init_115 kb_101 ?_
  refine k_iast (m := (sK Z_23 Z_22.length).2) F dX11_init_117 ?_
  refine a_nmS (fun S_26 => ?_)
  refine a_dup F dX11_init_118 rfl ?_
  refine a_iconst F dX11_init_119 ki_3 ?_
  refine a_bipush F dX11_init_120 kb_105 ?_
  refine k_iast (m := (sK Z_23 Z_22.length).2) F dX11_init_122 ?_
  refine a_nmS (fun S_27 => ?_)
  refine a_dup F dX11_init_123 rfl ?_
  refine a_iconst F dX11_init_124 ki_4 ?_
  refine a_bipush F dX11_init_125 kb_114 ?_
  refine k_iast (m := (sK Z_23 Z_22.length).2) F dX11_init_127 ?_
  refine a_nmS (fun S_28 => ?_)
  refine a_dup F dX11_init_128 rfl ?_
  refine a_iconst F dX11_init_129 ki_5 ?_
  refine a_bipush F dX11_init_130 kb_32 ?_
  refine k_iast (m := (sK Z_23 Z_22.length).2) F dX11_init_132 ?_
  refine a_nmS (fun S_29 => ?_)
  refine a_dup F dX11_init_133 rfl ?_
  refine a_bipush F dX11_init_134 kb_6 ?_
  refine a_bipush F dX11_init_136 kb_119 ?_
  refine k_iast (m := (sK Z_23 Z_22.length).2) F dX11_init_138 ?_
  refine a_nmS (fun S_30 => ?_)
  refine a_dup F dX11_init_139 rfl ?_
  refine a_bipush F dX11_init_140 kb_7 ?_
  refine a_bipush F dX11_init_142 kb_104 ?_
  refine k_iast (m := (sK Z_23 Z_22.length).2) F dX11_init_144 ?_
  refine a_nmS (fun S_31 => ?_)
  refine a_dup F dX11_init_145 rfl ?_
  refine a_bipush F dX11_init_146 kb_8 ?_
  refine a_bipush F dX11_init_148 kb_101 ?_
  refine k_iast (m := (sK Z_23 Z_22.length).2) F dX11_init_150 ?_
  refine a_nmS (fun S_32 => ?_)
  refine a_dup F dX11_init_151 rfl ?_
  refine a_bipush F dX11_init_152 kb_9 ?_
  refine a_bipush F dX11_init_154 kb_110 ?_
  refine k_iast (m := (sK Z_23 Z_22.length).2) F dX11_init_156 ?_
  refine a_nmS (fun S_33 => ?_)
  refine a_dup F dX11_init_157 rfl ?_
  refine a_bipush F dX11_init_158 kb_10 ?_
  refine a_bipush F dX11_init_160 kb_32 ?_
  refine k_iast (m := (sK Z_23 Z_22.length).2) F dX11_init_162 ?_
  refine a_nmS (fun S_34 => ?_)
  refine a_dup F dX11_init_163 rfl ?_
  refine a_bipush F dX11_init_164 kb_11 ?_
  refine a_bipush F dX11_init_166 kb_111 ?_
  refine k_iast (m := (sK Z_23 Z_22.length).2) F dX11_init_168 ?_
  refine a_nmS (fun S_35 => ?_)
  refine a_dup F dX11_init_169 rfl ?_
  refine a_bipush F dX11_init_170 kb_12 ?_
  refine a_bipush F dX11_init_172 kb_114 ?_
  refine k_iast (m := (sK Z_23 Z_22.length).2) F dX11_init_174 ?_
  refine a_nmS (fun S_36 => ?_)
  refine a_dup F dX11_init_175 rfl ?_
  refine a_bipush F dX11_init_176 kb_13 ?_
  refine a_bipush F dX11_init_178 kb_32 ?_
  refine k_iast (m := (sK Z_23 Z_22.length).2) F dX11_init_180 ?_
  refine a_nmS (fun S_37 => ?_)
  refine a_dup F dX11_init_181 rfl ?_
  refine a_bipush F dX11_init_182 kb_14 ?_
  refine a_bipush F dX11_init_184 kb_97 ?_
  refine k_iast (m := (sK Z_23 Z_22.length).2) F dX11_init_186 ?_
  refine a_nmS (fun S_38 => ?_)
  refine a_dup F dX11_init_187 rfl ?_
  refine a_bipush F dX11_init_188 kb_15 ?_
  refine a_bipush F dX11_init_190 kb_110 ?_
  refine k_iast (m := (sK Z_23 Z_22.length).2) F dX11_init_192 ?_
  refine a_nmS (fun S_39 => ?_)
  refine a_dup F dX11_init_193 rfl ?_
  refine a_bipush F dX11_init_194 kb_16 ?_
  refine a_bipush F dX11_init_196 kb_100 ?_
  refine k_iast (m := (sK Z_23 Z_22.length).2) F dX11_init_198 ?_
  refine a_nmS (fun S_40 => ?_)
  refine a_dup F dX11_init_199 rfl ?_
  refine a_bipush F dX11_init_200 kb_17 ?_
  refine a_bipush F dX11_init_202 kb_32 ?_
  refine k_iast (m := (sK Z_23 Z_22.length).2) F dX11_init_204 ?_
  refine a_nmS (fun S_41 => ?_)
  refine a_dup F dX11_init_205 rfl ?_
  refine a_bipush F dX11_init_206 kb_18 ?_
  refine a_bipush F dX11_init_208 kb_110 ?_
  refine k_iast (m := (sK Z_23 Z_22.length).2) F dX11_init_210 ?_
  refine a_nmS (fun S_42 => ?_)
  refine a_dup F dX11_init_211 rfl ?_
  refine a_bipush F dX11_init_212 kb_19 ?_
  refine a_bipush F dX11_init_214 kb_111 ?_
  refine k_iast (m := (sK Z_23 Z_22.length).2) F dX11_init_216 ?_
  refine a_nmS (fun S_43 => ?_)
  refine a_dup F dX11_init_217 rfl ?_
  refine a_bipush F dX11_init_218 kb_20 ?_
  refine a_bipush F dX11_init_220 kb_116 ?_
  refine k_iast (m := (sK Z_23 Z_22.length).2) F dX11_init_222 ?_
  refine a_nmS (fun S_44 => ?_)
  refine a_dup F dX11_init_223 rfl ?_
  refine a_bipush F dX11_init_224 kb_21 ?_
  refine a_bipush F dX11_init_226 kb_32 ?_
  refine k_iast (m := (sK Z_23 Z_22.length).2) F dX11_init_228 ?_
  refine a_nmS (fun S_45 => ?_)
  refine a_dup F dX11_init_229 rfl ?_
  refine a_bipush F dX11_init_230 kb_22 ?_
  refine a_bipush F dX11_init_232 kb_108 ?_
  refine k_iast (m := (sK Z_23 Z_22.length).2) F dX11_init_234 ?_
  refine a_nmS (fun S_46 => ?_)
  refine a_dup F dX11_init_235 rfl ?_
  refine a_bipush F dX11_init_236 kb_23 ?_
  refine a_bipush F dX11_init_238 kb_101 ?_
  refine k_iast (m := (sK Z_23 Z_22.length).2) F dX11_init_240 ?_
  refine a_nmS (fun S_47 => ?_)
  refine a_dup F dX11_init_241 rfl ?_
  refine a_bipush F dX11_init_242 kb_24 ?_
  refine a_bipush F dX11_init_244 kb_116 ?_
  refine k_iast (m := (sK Z_23 Z_22.length).2) F dX11_init_246 ?_
  refine a_nmS (fun S_48 => ?_)
  refine a_dup F dX11_init_247 rfl ?_
  refine a_bipush F dX11_init_248 kb_25 ?_
  refine a_bipush F dX11_init_250 kb_116 ?_
  refine k_iast (m := (sK Z_23 Z_22.length).2) F dX11_init_252 ?_
  refine a_nmS (fun S_49 => ?_)
  refine a_dup F dX11_init_253 rfl ?_
  refine a_bipush F dX11_init_254 kb_26 ?_
  refine a_bipush F dX11_init_256 kb_101 ?_
  refine k_iast (m := (sK Z_23 Z_22.length).2) F dX11_init_258 ?_
  refine a_nmS (fun S_50 => ?_)
  refine a_dup F dX11_init_259 rfl ?_
  refine a_bipush F dX11_init_260 kb_27 ?_
  refine a_bipush F dX11_init_262 kb_114 ?_
  refine k_iast (m := (sK Z_23 Z_22.length).2) F dX11_init_264 ?_
  refine a_nmS (fun S_51 => ?_)
  refine a_dup F dX11_init_265 rfl ?_
  refine a_bipush F dX11_init_266 kb_28 ?_
  refine a_bipush F dX11_init_268 kb_32 ?_
  refine k_iast (m := (sK Z_23 Z_22.length).2) F dX11_init_270 ?_
  refine a_nmS (fun S_52 => ?_)
  refine a_dup F dX11_init_271 rfl ?_
  refine a_bipush F dX11_init_272 kb_29 ?_
  refine a_bipush F dX11_init_274 kb_118 ?_
  refine k_iast (m := (sK Z_23 Z_22.length).2) F dX11_init_276 ?_
  refine a_nmS (fun S_53 => ?_)
  refine a_dup F dX11_init_277 rfl ?_
  refine a_bipush F dX11_init_278 kb_30 ?_
  refine a_bipush F dX11_init_280 kb_111 ?_
  refine k_iast (m := (sK Z_23 Z_22.length).2) F dX11_init_282 ?_
  refine a_nmS (fun S_54 => ?_)
  refine a_dup F dX11_init_283 rfl ?_
  refine a_bipush F dX11_init_284 kb_31 ?_
  refine a_bipush F dX11_init_286 kb_119 ?_
  refine k_iast (m := (sK Z_23 Z_22.length).2) F dX11_init_288 ?_
  refine a_nmS (fun S_55 => ?_)
  refine a_dup F dX11_init_289 rfl ?_
  refine a_bipush F dX11_init_290 kb_32 ?_
  refine a_bipush F dX11_init_292 kb_101 ?_
  refine k_iast (m := (sK Z_23 Z_22.length).2) F dX11_init_294 ?_
  refine a_nmS (fun S_56 => ?_)
  refine a_dup F dX11_init_295 rfl ?_
  refine a_bipush F dX11_init_296 kb_33 ?_
  refine a_bipush F dX11_init_298 kb_108 ?_
  refine k_iast (m := (sK Z_23 Z_22.length).2) F dX11_init_300 ?_
  refine a_nmS (fun S_57 => ?_)
  refine a_dup F dX11_init_301 rfl ?_
  refine a_bipush F dX11_init_302 kb_34 ?_
  refine a_bipush F dX11_init_304 kb_32 ?_
  refine k_iast (m := (sK Z_23 Z_22.length).2) F dX11_init_306 ?_
  refine a_nmS (fun S_58 => ?_)
  refine a_dup F dX11_init_307 rfl ?_
  refine a_bipush F dX11_init_308 kb_35 ?_
  refine a_bipush F dX11_init_310 kb_97 ?_
  refine k_iast (m := (sK Z_23 Z_22.length).2) F dX11_init_312 ?_
  refine a_nmS (fun S_59 => ?_)
  refine a_dup F dX11_init_313 rfl ?_
  refine a_bipush F dX11_init_314 kb_36 ?_
  refine a_bipush F dX11_init_316 kb_103 ?_
  refine k_iast (m := (sK Z_23 Z_22.length).2) F dX11_init_318 ?_
  refine a_nmS (fun S_60 => ?_)
  refine a_dup F dX11_init_319 rfl ?_
  refine a_bipush F dX11_init_320 kb_37 ?_
  refine a_bipush F dX11_init_322 kb_101 ?_
  refine k_iast (m := (sK Z_23 Z_22.length).2) F dX11_init_324 ?_
  refine a_nmS (fun S_61 => ?_)
  refine a_dup F dX11_init_325 rfl ?_
  refine a_bipush F dX11_init_326 kb_38 ?_
  refine a_bipush F dX11_init_328 kb_32 ?_
  refine k_iast (m := (sK Z_23 Z_22.length).2) F dX11_init_330 ?_
  refine a_nmS (fun S_62 => ?_)
  refine a_dup F dX11_init_331 rfl ?_
  refine a_bipush F dX11_init_332 kb_39 ?_
  refine a_bipush F dX11_init_334 kb_107 ?_
  refine k_iast (m := (sK Z_23 Z_22.length).2) F dX11_init_336 ?_
  refine a_nmS (fun S_63 => ?_)
  refine a_dup F dX11_init_337 rfl ?_
  refine a_bipush F dX11_init_338 kb_40 ?_
  refine a_bipush F dX11_init_340 kb_105 ?_
  refine k_iast (m := (sK Z_23 Z_22.length).2) F dX11_init_342 ?_
  refine a_nmS (fun S_64 => ?_)
  refine a_dup F dX11_init_343 rfl ?_
  refine a_bipush F dX11_init_344 kb_41 ?_
  refine a_bipush F dX11_init_346 kb_110 ?_
  refine k_iast (m := (sK Z_23 Z_22.length).2) F dX11_init_348 ?_
  refine a_nmS (fun S_65 => ?_)
  refine a_dup F dX11_init_349 rfl ?_
  refine a_bipush F dX11_init_350 kb_42 ?_
  refine a_bipush F dX11_init_352 kb_32 ?_
  refine k_iast (m := (sK Z_23 Z_22.length).2) F dX11_init_354 ?_
  refine a_nmS (fun S_66 => ?_)
  refine a_dup F dX11_init_355 rfl ?_
  refine a_bipush F dX11_init_356 kb_43 ?_
  refine a_bipush F dX11_init_358 kb_99 ?_
  refine k_iast (m := (sK Z_23 Z_22.length).2) F dX11_init_360 ?_
  refine a_nmS (fun S_67 => ?_)
  refine a_dup F dX11_init_361 rfl ?_
  refine a_bipush F dX11_init_362 kb_44 ?_
  refine a_bipush F dX11_init_364 kb_104 ?_
  refine k_iast (m := (sK Z_23 Z_22.length).2) F dX11_init_366 ?_
  refine a_nmS (fun S_68 => ?_)
  refine a_dup F dX11_init_367 rfl ?_
  refine a_bipush F dX11_init_368 kb_45 ?_
  refine a_bipush F dX11_init_370 kb_105 ?_
  refine k_iast (m := (sK Z_23 Z_22.length).2) F dX11_init_372 ?_
  refine a_nmS (fun S_69 => ?_)
  refine a_dup F dX11_init_373 rfl ?_
  refine a_bipush F dX11_init_374 kb_46 ?_
  refine a_bipush F dX11_init_376 kb_108 ?_
  refine k_iast (m := (sK Z_23 Z_22.length).2) F dX11_init_378 ?_
  refine a_nmS (fun S_70 => ?_)
  refine a_dup F dX11_init_379 rfl ?_
  refine a_bipush F dX11_init_380 kb_47 ?_
  refine a_bipush F dX11_init_382 kb_100 ?_
  refine k_iast (m := (sK Z_23 Z_22.length).2) F dX11_init_384 ?_
  refine a_nmS (fun S_71 => ?_)
  refine a_dup F dX11_init_385 rfl ?_
  refine a_bipush F dX11_init_386 kb_48 ?_
  refine a_bipush F dX11_init_388 kb_32 ?_
  refine k_iast (m := (sK Z_23 Z_22.length).2) F dX11_init_390 ?_
  refine a_nmS (fun S_72 => ?_)
  refine a_dup F dX11_init_391 rfl ?_
  refine a_bipush F dX11_init_392 kb_49 ?_
  refine a_bipush F dX11_init_394 kb_115 ?_
  refine k_iast (m := (sK Z_23 Z_22.length).2) F dX11_init_396 ?_
  refine a_nmS (fun S_73 => ?_)
  refine a_dup F dX11_init_397 rfl ?_
  refine a_bipush F dX11_init_398 kb_50 ?_
  refine a_bipush F dX11_init_400 kb_112 ?_
  refine k_iast (m := (sK Z_23 Z_22.length).2) F dX11_init_402 ?_
  refine a_nmS (fun S_74 => ?_)
  refine a_dup F dX11_init_403 rfl ?_
  refine a_bipush F dX11_init_404 kb_51 ?_
  refine a_bipush F dX11_init_406 kb_111 ?_
  refine k_iast (m := (sK Z_23 Z_22.length).2) F dX11_init_408 ?_
  refine a_nmS (fun S_75 => ?_)
  refine a_dup F dX11_init_409 rfl ?_
  refine a_bipush F dX11_init_410 kb_52 ?_
  refine a_bipush F dX11_init_412 kb_117 ?_
  refine k_iast (m := (sK Z_23 Z_22.length).2) F dX11_init_414 ?_
  refine a_nmS (fun S_76 => ?_)
  refine a_dup F dX11_init_415 rfl ?_
  refine a_bipush F dX11_init_416 kb_53 ?_
  refine a_bipush F dX11_init_418 kb_115 ?_
  refine k_iast (m := (sK Z_23 Z_22.length).2) F dX11_init_420 ?_
  refine a_nmS (fun S_77 => ?_)
  refine a_dup F dX11_init_421 rfl ?_
  refine a_bipush F dX11_init_422 kb_54 ?_
  refine a_bipush F dX11_init_424 kb_101 ?_
  refine k_iast (m := (sK Z_23 Z_22.length).2) F dX11_init_426 ?_
  refine a_nmS (fun S_78 => ?_)
  refine a_dup F dX11_init_427 rfl ?_
  refine a_bipush F dX11_init_428 kb_55 ?_
  refine a_bipush F dX11_init_430 kb_32 ?_
  refine k_iast (m := (sK Z_23 Z_22.length).2) F dX11_init_432 ?_
  refine a_nmS (fun S_79 => ?_)
  refine a_dup F dX11_init_433 rfl ?_
  refine a_bipush F dX11_init_434 kb_56 ?_
  refine a_bipush F dX11_init_436 kb_111 ?_
  refine k_iast (m := (sK Z_23 Z_22.length).2) F dX11_init_438 ?_
  refine a_nmS (fun S_80 => ?_)
  refine a_dup F dX11_init_439 rfl ?_
  refine a_bipush F dX11_init_440 kb_57 ?_
  refine a_bipush F dX11_init_442 kb_119 ?_
  refine k_iast (m := (sK Z_23 Z_22.length).2) F dX11_init_444 ?_
  refine a_nmS (fun S_81 => ?_)
  refine a_dup F dX11_init_445 rfl ?_
  refine a_bipush F dX11_init_446 kb_58 ?_
  refine a_bipush F dX11_init_448 kb_110 ?_
  refine k_iast (m := (sK Z_23 Z_22.length).2) F dX11_init_450 ?_
  refine a_nmS (fun S_82 => ?_)
  refine a_dup F dX11_init_451 rfl ?_
  refine a_bipush F dX11_init_452 kb_59 ?_
  refine a_bipush F dX11_init_454 kb_115 ?_
  refine k_iast (m := (sK Z_23 Z_22.length).2) F dX11_init_456 ?_
  refine a_nmS (fun S_83 => ?_)
  refine a_dup F dX11_init_457 rfl ?_
  refine a_bipush F dX11_init_458 kb_60 ?_
  refine a_bipush F dX11_init_460 kb_32 ?_
  refine k_iast (m := (sK Z_23 Z_22.length).2) F dX11_init_462 ?_
  refine a_nmS (fun S_84 => ?_)
  refine a_dup F dX11_init_463 rfl ?_
  refine a_bipush F dX11_init_464 kb_61 ?_
  refine a_bipush F dX11_init_466 kb_115 ?_
  refine k_iast (m := (sK Z_23 Z_22.length).2) F dX11_init_468 ?_
  refine a_nmS (fun S_85 => ?_)
  refine a_dup F dX11_init_469 rfl ?_
  refine a_bipush F dX11_init_470 kb_62 ?_
  refine a_bipush F dX11_init_472 kb_107 ?_
  refine k_iast (m := (sK Z_23 Z_22.length).2) F dX11_init_474 ?_
  refine a_nmS (fun S_86 => ?_)
  refine a_dup F dX11_init_475 rfl ?_
  refine a_bipush F dX11_init_476 kb_63 ?_
  refine a_bipush F dX11_init_478 kb_105 ?_
  refine k_iast (m := (sK Z_23 Z_22.length).2) F dX11_init_480 ?_
  refine a_nmS (fun S_87 => ?_)
  refine a_dup F dX11_init_481 rfl ?_
  refine a_bipush F dX11_init_482 kb_64 ?_
  refine a_bipush F dX11_init_484 kb_108 ?_
  refine k_iast (m := (sK Z_23 Z_22.length).2) F dX11_init_486 ?_
  refine a_nmS (fun S_88 => ?_)
  refine a_dup F dX11_init_487 rfl ?_
  refine a_bipush F dX11_init_488 kb_65 ?_
  refine a_bipush F dX11_init_490 kb_108 ?_
  refine k_iast (m := (sK Z_23 Z_22.length).2) F dX11_init_492 ?_
  refine a_nmS (fun S_89 => ?_)
  refine a_dup F dX11_init_493 rfl ?_
  refine a_bipush F dX11_init_494 kb_66 ?_
  refine a_bipush F dX11_init_496 kb_32 ?_
  refine k_iast (m := (sK Z_23 Z_22.length).2) F dX11_init_498 ?_
  refine a_nmS (fun S_90 => ?_)
  refine a_dup F dX11_init_499 rfl ?_
  refine a_bipush F dX11_init_500 kb_67 ?_
  refine a_bipush F dX11_init_502 kb_99 ?_
  refine k_iast (m := (sK Z_23 Z_22.length).2) F dX11_init_504 ?_
  refine a_nmS (fun S_91 => ?_)
  refine a_dup F dX11_init_505 rfl ?_
  refine a_bipush F dX11_init_506 kb_68 ?_
  refine a_bipush F dX11_init_508 kb_111 ?_
  refine k_iast (m := (sK Z_23 Z_22.length).2) F dX11_init_510 ?_
  refine a_nmS (fun S_92 => ?_)
  refine a_dup F dX11_init_511 rfl ?_
  refine a_bipush F dX11_init_512 kb_69 ?_
  refine a_bipush F dX11_init_514 kb_105 ?_
  refine k_iast (m := (sK Z_23 Z_22.length).2) F dX11_init_516 ?_
  refine a_nmS (fun S_93 => ?_)
  refine a_dup F dX11_init_517 rfl ?_
  refine a_bipush F dX11_init_518 kb_70 ?_
  refine a_bipush F dX11_init_520 kb_110 ?_
  refine k_iast (m := (sK Z_23 Z_22.length).2) F dX11_init_522 ?_
  refine a_nmS (fun S_94 => ?_)
  refine a_dup F dX11_init_523 rfl ?_
  refine a_bipush F dX11_init_524 kb_71 ?_
  refine a_bipush F dX11_init_526 kb_32 ?_
  refine k_iast (m := (sK Z_23 Z_22.length).2) F dX11_init_528 ?_
  refine a_nmS (fun S_95 => ?_)
  refine a_dup F dX11_init_529 rfl ?_
  refine a_bipush F dX11_init_530 kb_72 ?_
  refine a_bipush F dX11_init_532 kb_100 ?_
  refine k_iast (m := (sK Z_23 Z_22.length).2) F dX11_init_534 ?_
  refine a_nmS (fun S_96 => ?_)
  refine a_dup F dX11_init_535 rfl ?_
  refine a_bipush F dX11_init_536 kb_73 ?_
  refine a_bipush F dX11_init_538 kb_97 ?_
  refine k_iast (m := (sK Z_23 Z_22.length).2) F dX11_init_540 ?_
  refine a_nmS (fun S_97 => ?_)
  refine a_dup F dX11_init_541 rfl ?_
  refine a_bipush F dX11_init_542 kb_74 ?_
  refine a_bipush F dX11_init_544 kb_121 ?_
  refine k_iast (m := (sK Z_23 Z_22.length).2) F dX11_init_546 ?_
  refine a_nmS (fun S_98 => ?_)
  refine a_dup F dX11_init_547 rfl ?_
  refine a_bipush F dX11_init_548 kb_75 ?_
  refine a_bipush F dX11_init_550 kb_32 ?_
  refine k_iast (m := (sK Z_23 Z_22.length).2) F dX11_init_552 ?_
  refine a_nmS (fun S_99 => ?_)
  refine a_dup F dX11_init_553 rfl ?_
  refine a_bipush F dX11_init_554 kb_76 ?_
  refine a_bipush F dX11_init_556 kb_108 ?_
  refine k_iast (m := (sK Z_23 Z_22.length).2) F dX11_init_558 ?_
  refine a_nmS (fun S_100 => ?_)
  refine a_dup F dX11_init_559 rfl ?_
  refine a_bipush F dX11_init_560 kb_77 ?_
  refine a_bipush F dX11_init_562 kb_101 ?_
  refine k_iast (m := (sK Z_23 Z_22.length).2) F dX11_init_564 ?_
  refine a_nmS (fun S_101 => ?_)
  refine a_dup F dX11_init_565 rfl ?_
  refine a_bipush F dX11_init_566 kb_78 ?_
  refine a_bipush F dX11_init_568 kb_97 ?_
  refine k_iast (m := (sK Z_23 Z_22.length).2) F dX11_init_570 ?_
  refine a_nmS (fun S_102 => ?_)
  refine a_dup F dX11_init_571 rfl ?_
  refine a_bipush F dX11_init_572 kb_79 ?_
  refine a_bipush F dX11_init_574 kb_118 ?_
  refine k_iast (m := (sK Z_23 Z_22.length).2) F dX11_init_576 ?_
  refine a_nmS (fun S_103 => ?_)
  refine a_dup F dX11_init_577 rfl ?_
  refine a_bipush F dX11_init_578 kb_80 ?_
  refine a_bipush F dX11_init_580 kb_101 ?_
  refine k_iast (m := (sK Z_23 Z_22.length).2) F dX11_init_582 ?_
  refine a_nmS (fun S_104 => ?_)
  refine a_dup F dX11_init_583 rfl ?_
  refine a_bipush F dX11_init_584 kb_81 ?_
  refine a_bipush F dX11_init_586 kb_32 ?_
  refine k_iast (m := (sK Z_23 Z_22.length).2) F dX11_init_588 ?_
  refine a_nmS (fun S_105 => ?_)
  refine a_dup F dX11_init_589 rfl ?_
  refine a_bipush F dX11_init_590 kb_82 ?_
  refine a_bipush F dX11_init_592 kb_116 ?_
  refine k_iast (m := (sK Z_23 Z_22.length).2) F dX11_init_594 ?_
  refine a_nmS (fun S_106 => ?_)
  refine a_dup F dX11_init_595 rfl ?_
  refine a_bipush F dX11_init_596 kb_83 ?_
  refine a_bipush F dX11_init_598 kb_111 ?_
  refine k_iast (m := (sK Z_23 Z_22.length).2) F dX11_init_600 ?_
  refine a_nmS (fun S_107 => ?_)
  refine a_dup F dX11_init_601 rfl ?_
  refine a_bipush F dX11_init_602 kb_84 ?_
  refine a_bipush F dX11_init_604 kb_32 ?_
  refine k_iast (m := (sK Z_23 Z_22.length).2) F dX11_init_606 ?_
  refine a_nmS (fun S_108 => ?_)
  refine a_dup F dX11_init_607 rfl ?_
  refine a_bipush F dX11_init_608 kb_85 ?_
  refine a_bipush F dX11_init_610 kb_105 ?_
  refine k_iast (m := (sK Z_23 Z_22.length).2) F dX11_init_612 ?_
  refine a_nmS (fun S_109 => ?_)
  refine a_dup F dX11_init_613 rfl ?_
  refine a_bipush F dX11_init_614 kb_86 ?_
  refine a_bipush F dX11_init_616 kb_102 ?_
  refine k_iast (m := (sK Z_23 Z_22.length).2) F dX11_init_618 ?_
  refine a_nmS (fun S_110 => ?_)
  refine a_dup F dX11_init_619 rfl ?_
  refine a_bipush F dX11_init_620 kb_87 ?_
  refine a_bipush F dX11_init_622 kb_32 ?_
  refine k_iast (m := (sK Z_23 Z_22.length).2) F dX11_init_624 ?_
  refine a_nmS (fun S_111 => ?_)
  refine a_dup F dX11_init_625 rfl ?_
  refine a_bipush F dX11_init_626 kb_88 ?_
  refine a_bipush F dX11_init_628 kb_114 ?_
  refine k_iast (m := (sK Z_23 Z_22.length).2) F dX11_init_630 ?_
  refine a_nmS (fun S_112 => ?_)
  refine a_dup F dX11_init_631 rfl ?_
  refine a_bipush F dX11_init_632 kb_89 ?_
  refine a_bipush F dX11_init_634 kb_101 ?_
  refine k_iast (m := (sK Z_23 Z_22.length).2) F dX11_init_636 ?_
  refine a_nmS (fun S_113 => ?_)
  refine a_dup F dX11_init_637 rfl ?_
  refine a_bipush F dX11_init_638 kb_90 ?_
  refine a_bipush F dX11_init_640 kb_115 ?_
  refine k_iast (m := (sK Z_23 Z_22.length).2) F dX11_init_642 ?_
  refine a_nmS (fun S_114 => ?_)
  refine a_dup F dX11_init_643 rfl ?_
  refine a_bipush F dX11_init_644 kb_91 ?_
  refine a_bipush F dX11_init_646 kb_116 ?_
  refine k_iast (m := (sK Z_23 Z_22.length).2) F dX11_init_648 ?_
  refine a_nmS (fun S_115 => ?_)
  refine a_dup F dX11_init_649 rfl ?_
  refine a_bipush F dX11_init_650 kb_92 ?_
  refine a_bipush F dX11_init_652 kb_32 ?_
  refine k_iast (m := (sK Z_23 Z_22.length).2) F dX11_init_654 ?_
  refine a_nmS (fun S_116 => ?_)
  refine k_putR (k := 21) F M0.2.2.2.2.2.2 cfX11 dX11_init_655 fl_X11_43 (by decide) fi_11_21 rfl (fun _ => ⟨rfl, rfl⟩) ?_
  refine a_nmZ (fun Z_117 => ?_)
  refine a_aload_n F dX11_init_658 rfl rfl ?_
  refine a_bipush F dX11_init_659 kb_32 ?_
  refine k_newa (N := 32) F dX11_init_661 w_ac nn_32 ix_32 (by decide) M0.2.2.2.2.1 M0.2.2.2.2.2.1 ?_
  refine a_nmZ (fun Z_118 => ?_)
  refine a_nmS (fun S_118 => ?_)
  refine k_putR (k := 23) F M0.2.2.2.2.2.2 cfX11 dX11_init_663 fl_X11_46 (by decide) fi_11_23 rfl (fun _ => ⟨rfl, rfl⟩) ?_
  refine a_nmZ (fun Z_119 => ?_)
  refine a_aload_n F dX11_init_666 rfl rfl ?_
  refine a_bipush F dX11_init_667 kb_32 ?_
  refine k_newa (N := 32) F dX11_init_669 w_ac nn_32 ix_32 (by decide) M0.2.2.2.2.1 M0.2.2.2.2.2.1 ?_
  refine a_nmZ (fun Z_120 => ?_)
  refine a_nmS (fun S_120 => ?_)
  refine k_putR (k := 24) F M0.2.2.2.2.2.2 cfX11 dX11_init_671 fl_X11_49 (by decide) fi_11_24 rfl (fun _ => ⟨rfl, rfl⟩) ?_
  refine a_nmZ (fun Z_121 => ?_)
  refine a_aload_n F dX11_init_674 rfl rfl ?_
  refine a_bipush F dX11_init_675 kb_32 ?_
  refine k_newa (N := 32) F dX11_init_677 w_ac nn_32 ix_32 (by decide) M0.2.2.2.2.1 M0.2.2.2.2.2.1 ?_
  refine a_nmZ (fun Z_122 => ?_)
  refine a_nmS (fun S_122 => ?_)
  refine k_putR (k := 25) F M0.2.2.2.2.2.2 cfX11 dX11_init_679 fl_X11_52 (by decide) fi_11_25 rfl (fun _ => ⟨rfl, rfl⟩) ?_
  refine a_nmZ (fun Z_123 => ?_)
  refine a_aload_n F dX11_init_682 rfl rfl ?_
  refine a_sipush F dX11_init_683 ks_800 ?_
  refine k_newa (N := 800) F dX11_init_686 w_ac nn_800 ix_800 (by decide) M0.2.2.2.2.1 M0.2.2.2.2.2.1 ?_
  refine a_nmZ (fun Z_124 => ?_)
  refine a_nmS (fun S_124 => ?_)
  refine k_putR (k := 26) F M0.2.2.2.2.2.2 cfX11 dX11_init_688 fl_X11_55 (by decide) fi_11_26 rfl (fun _ => ⟨rfl, rfl⟩) ?_
  refine a_nmZ (fun Z_125 => ?_)
  refine a_aload_n F dX11_init_691 rfl rfl ?_
  refine a_sipush F dX11_init_692 ks_800 ?_
  refine k_newa (N := 800) F dX11_init_695 w_ac nn_800 ix_800 (by decide) M0.2.2.2.2.1 M0.2.2.2.2.2.1 ?_
  refine a_nmZ (fun Z_126 => ?_)
  refine a_nmS (fun S_126 => ?_)
  refine k_putR (k := 27) F M0.2.2.2.2.2.2 cfX11 dX11_init_697 fl_X11_58 (by decide) fi_11_27 rfl (fun _ => ⟨rfl, rfl⟩) ?_
  refine a_nmZ (fun Z_127 => ?_)
  refine a_aload_n F dX11_init_700 rfl rfl ?_
  refine a_bipush F dX11_init_701 kb_40 ?_
  refine k_newa (N := 40) F dX11_init_703 w_ac nn_40 ix_40 (by decide) M0.2.2.2.2.1 M0.2.2.2.2.2.1 ?_
  refine a_nmZ (fun Z_128 => ?_)
  refine a_nmS (fun S_128 => ?_)
  refine k_putR (k := 30) F M0.2.2.2.2.2.2 cfX11 dX11_init_705 fl_X11_61 (by decide) fi_11_30 rfl (fun _ => ⟨rfl, rfl⟩) ?_
  refine a_nmZ (fun Z_129 => ?_)
  refine a_aload_n F dX11_init_708 rfl rfl ?_
  refine a_iconst F dX11_init_709 ki_m1 ?_
  refine k_putI (k := 35) F cfX11 dX11_init_710 fl_X11_64 (by decide) fi_11_35 rfl (Or.inl rfl) ?_
  refine a_nmS (fun S_130 => ?_)
  refine a_aload_n F dX11_init_713 rfl rfl ?_
  refine a_bipush F dX11_init_714 kb_12 ?_
  refine k_newa (N := 12) F dX11_init_716 w_ac nn_12 ix_12 (by decide) M0.2.2.2.2.1 M0.2.2.2.2.2.1 ?_
  refine a_nmZ (fun Z_131 => ?_)
  refine a_nmS (fun S_131 => ?_)
  refine k_putR (k := 36) F M0.2.2.2.2.2.2 cfX11 dX11_init_718 fl_X11_68 (by decide) fi_11_36 rfl (fun _ => ⟨rfl, rfl⟩) ?_
  refine a_nmZ (fun Z_132 => ?_)
  refine a_aload_n F dX11_init_721 rfl rfl ?_
  refine a_sipush F dX11_init_722 ks_156 ?_
  refine k_newa (N := 156) F dX11_init_725 w_ac nn_156 ix_156 (by decide) M0.2.2.2.2.1 M0.2.2.2.2.2.1 ?_
  refine a_nmZ (fun Z_133 => ?_)
  refine a_nmS (fun S_133 => ?_)
  refine k_putR (k := 37) F M0.2.2.2.2.2.2 cfX11 dX11_init_727 fl_X11_71 (by decide) fi_11_37 rfl (fun _ => ⟨rfl, rfl⟩) ?_
  refine a_nmZ (fun Z_134 => ?_)
  refine a_aload_n F dX11_init_730 rfl rfl ?_
  refine a_sipush F dX11_init_731 ks_156 ?_
  refine k_newa (N := 156) F dX11_init_734 w_ac nn_156 ix_156 (by decide) M0.2.2.2.2.1 M0.2.2.2.2.2.1 ?_
  refine a_nmZ (fun Z_135 => ?_)
  refine a_nmS (fun S_135 => ?_)
  refine k_putR (k := 38) F M0.2.2.2.2.2.2 cfX11 dX11_init_736 fl_X11_74 (by decide) fi_11_38 rfl (fun _ => ⟨rfl, rfl⟩) ?_
  refine a_nmZ (fun Z_136 => ?_)
  refine a_aload_n F dX11_init_739 rfl rfl ?_
  refine a_sipush F dX11_init_740 ks_156 ?_
  refine k_newa (N := 156) F dX11_init_743 w_ac nn_156 ix_156 (by decide) M0.2.2.2.2.1 M0.2.2.2.2.2.1 ?_
  refine a_nmZ (fun Z_137 => ?_)
  refine a_nmS (fun S_137 => ?_)
  refine k_putR (k := 39) F M0.2.2.2.2.2.2 cfX11 dX11_init_745 fl_X11_77 (by decide) fi_11_39 rfl (fun _ => ⟨rfl, rfl⟩) ?_
  refine a_nmZ (fun Z_138 => ?_)
  refine a_aload_n F dX11_init_748 rfl rfl ?_
  refine a_bipush F dX11_init_749 kb_8 ?_
  refine k_newa (N := 8) F dX11_init_751 w_ac nn_8 ix_8 (by decide) M0.2.2.2.2.1 M0.2.2.2.2.2.1 ?_
  refine a_nmZ (fun Z_139 => ?_)
  refine a_nmS (fun S_139 => ?_)
  refine k_putR (k := 41) F M0.2.2.2.2.2.2 cfX11 dX11_init_753 fl_X11_80 (by decide) fi_11_41 rfl (fun _ => ⟨rfl, rfl⟩) ?_
  refine a_nmZ (fun Z_140 => ?_)
  refine a_aload_n F dX11_init_756 rfl rfl ?_
  refine a_bipush F dX11_init_757 kb_8 ?_
  refine k_newa (N := 8) F dX11_init_759 w_ac nn_8 ix_8 (by decide) M0.2.2.2.2.1 M0.2.2.2.2.2.1 ?_
  refine a_nmZ (fun Z_141 => ?_)
  refine a_nmS (fun S_141 => ?_)
  refine k_putR (k := 42) F M0.2.2.2.2.2.2 cfX11 dX11_init_761 fl_X11_83 (by decide) fi_11_42 rfl (fun _ => ⟨rfl, rfl⟩) ?_
  refine a_nmZ (fun Z_142 => ?_)
  refine a_aload_n F dX11_init_764 rfl rfl ?_
  refine a_sipush F dX11_init_765 ks_360 ?_
  refine k_newa (N := 360) F dX11_init_768 w_ac nn_360 ix_360 (by decide) M0.2.2.2.2.1 M0.2.2.2.2.2.1 ?_
  refine a_nmZ (fun Z_143 => ?_)
  refine a_nmS (fun S_143 => ?_)
  refine k_putR (k := 43) F M0.2.2.2.2.2.2 cfX11 dX11_init_770 fl_X11_86 (by decide) fi_11_43 rfl (fun _ => ⟨rfl, rfl⟩) ?_
  refine a_nmZ (fun Z_144 => ?_)
  refine a_aload_n F dX11_init_773 rfl rfl ?_
  refine a_bipush F dX11_init_774 kb_10 ?_
  refine k_newa (N := 10) F dX11_init_776 w_ac nn_10 ix_10 (by decide) M0.2.2.2.2.1 M0.2.2.2.2.2.1 ?_
  refine a_nmZ (fun Z_145 => ?_)
  refine a_nmS (fun S_145 => ?_)
  refine k_putR (k := 44) F M0.2.2.2.2.2.2 cfX11 dX11_init_778 fl_X11_89 (by decide) fi_11_44 rfl (fun _ => ⟨rfl, rfl⟩) ?_
  refine a_nmZ (fun Z_146 => ?_)
  refine a_aload_n F dX11_init_781 rfl rfl ?_
  refine a_sipush F dX11_init_782 ks_420 ?_
  refine k_newa (N := 420) F dX11_init_785 w_ac nn_420 ix_420 (by decide) M0.2.2.2.2.1 M0.2.2.2.2.2.1 ?_
  refine a_nmZ (fun Z_147 => ?_)
  refine a_nmS (fun S_147 => ?_)
  refine k_putR (k := 45) F M0.2.2.2.2.2.2 cfX11 dX11_init_787 fl_X11_92 (by decide) fi_11_45 rfl (fun _ => ⟨rfl, rfl⟩) ?_
  refine a_nmZ (fun Z_148 => ?_)
  refine a_aload_n F dX11_init_790 rfl rfl ?_
  refine a_bipush F dX11_init_791 kb_12 ?_
  refine k_newa (N := 12) F dX11_init_793 w_ac nn_12 ix_12 (by decide) M0.2.2.2.2.1 M0.2.2.2.2.2.1 ?_
  refine a_nmZ (fun Z_149 => ?_)
  refine a_nmS (fun S_149 => ?_)
  refine k_putR (k := 46) F M0.2.2.2.2.2.2 cfX11 dX11_init_795 fl_X11_95 (by decide) fi_11_46 rfl (fun _ => ⟨rfl, rfl⟩) ?_
  refine a_nmZ (fun Z_150 => ?_)
  refine a_aload_n F dX11_init_798 rfl rfl ?_
  refine a_iconst F dX11_init_799 ki_m1 ?_
  refine k_putI (k := 47) F cfX11 dX11_init_800 fl_X11_98 (by decide) fi_11_47 rfl (Or.inl rfl) ?_
  refine a_nmS (fun S_151 => ?_)
  refine a_aload_n F dX11_init_803 rfl rfl ?_
  refine a_iconst F dX11_init_804 ki_4 ?_
  refine k_newa (N := 4) F dX11_init_805 w_ac nn_4 ix_4 (by decide) M0.2.2.2.2.1 M0.2.2.2.2.2.1 ?_
  refine a_nmZ (fun Z_152 => ?_)
  refine a_nmS (fun S_152 => ?_)
  refine k_putR (k := 49) F M0.2.2.2.2.2.2 cfX11 dX11_init_807 fl_X11_101 (by decide) fi_11_49 rfl (fun _ => ⟨rfl, rfl⟩) ?_
  refine a_nmZ (fun Z_153 => ?_)
  refine a_aload_n F dX11_init_810 rfl rfl ?_
  refine a_sipush F dX11_init_811 ks_3200 ?_
  refine k_newa (N := 3200) F dX11_init_814 w_ac nn_3200 ix_3200 (by decide) M0.2.2.2.2.1 M0.2.2.2.2.2.1 ?_
  refine a_nmZ (fun Z_154 => ?_)
  refine a_nmS (fun S_154 => ?_)
  refine k_putR (k := 53) F M0.2.2.2.2.2.2 cfX11 dX11_init_816 fl_X11_104 (by decide) fi_11_53 rfl (fun _ => ⟨rfl, rfl⟩) ?_
  refine a_nmZ (fun Z_155 => ?_)
  exact k_ret M0 dX11_init_819
def f_X11_init (r0 : Nat) (Z : Sh) (S : Mm) : Option (Sh × Mm) := gd (Z.length ≤ 1048576) (f_X11_init_0 r0 Z S)
theorem c_X11_init (X : CX) (r0 : Nat) (Z : Sh) (S : Mm) : CtC X Z yX11_init cX11_init 1 1 30 9415 [.ref r0] S (f_X11_init r0 Z S) :=
  ctC_of (by decide +kernel) rfl rfl (Nat.le_of_ble_eq_true rfl) (by simp [Value.category]) fun E M0 => b_X11_init M0 r0 Z S
