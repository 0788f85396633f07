def f_X10_person_72 (x1 x2 x3 : Int32) (S : Mm) : Option (Int32 × Mm) :=
  (f_X2_forget S).bind fun S_1 =>
  (f_X1_addPerson 1 x1 x2 x3 S_1).bind fun q_2 =>
  some (q_2.1, q_2.2)
set_option maxRecDepth 20000 in
theorem b_X10_person_72 {X : CX} {E : FE} (M0 : MF X E RX10 cX10_person 4 3 (some .int)) (x1 x2 x3 : Int32) (S : Mm) : At X E false (mQi X Z1 E) 72 [some (.ref 0), some (.int x1), some (.int x2), some (.int x3)] [] Z1 S 0 0 (f_X10_person_72 x1 x2 x3 S) := by
  have F := M0.1
  unfold f_X10_person_72
  refine a_aload_n F dX10_person_72 rfl rfl ?_
  refine a_getR (k := 3) F cfX10 dX10_person_73 fl_X10_33 (by decide) fi_10_3 zl_0 zk_0 zr_0_3 ?_
  refine a_callVV F (As := []) cfX2 rfl (c_X2_forget X S) mw_X2_forget ml_X10_86 im_X2_forget se_X2_forget M0.2.1 (Nat.le_of_ble_eq_true rfl) ⟨Nat.zero_le _, Nat.zero_le _⟩ rfl rfl (Nat.le_of_ble_eq_true rfl) zl_34 zk_34 dX10_person_76 rfl (fun S_1 => ?_)
  refine a_aload_n F dX10_person_79 rfl rfl ?_
  refine a_getR (k := 0) F cfX10 dX10_person_80 fl_X10_12 (by decide) fi_10_0 zl_0 zk_0 zr_0_0 ?_
  refine a_iload_n F dX10_person_83 rfl rfl ?_
  refine a_iload_n F dX10_person_84 rfl rfl ?_
  refine a_iload_n F dX10_person_85 rfl rfl ?_
  refine a_callVI F (As := [.int x1, .int x2, .int x3]) cfX1 rfl (c_X1_addPerson X icl_1 x1 x2 x3 S_1) mw_X1_addPerson ml_X10_97 im_X1_addPerson se_X1_addPerson M0.2.1 (Nat.le_of_ble_eq_true rfl) ⟨Nat.zero_le _, Nat.zero_le _⟩ rfl rfl (Nat.le_of_ble_eq_true rfl) zl_1 zk_1 dX10_person_86 rfl (fun q_2 => ?_)
  exact a_iret F M0.2.2.1 M0.2.2.2 dX10_person_89
def f_X10_person_60 (x1 x2 x3 : Int32) (S : Mm) : Option (Int32 × Mm) :=
  if x1 = (-1 : Int32) then (
   f_X10_person_72 x1 x2 x3 S
  ) else (
   if x1 = x2 then (
    some ((-1 : Int32), S)
   ) else (
    f_X10_person_72 x1 x2 x3 S
   )
  )
set_option maxRecDepth 20000 in
theorem b_X10_person_60 {X : CX} {E : FE} (M0 : MF X E RX10 cX10_person 4 3 (some .int)) (x1 x2 x3 : Int32) (S : Mm) : At X E false (mQi X Z1 E) 60 [some (.ref 0), some (.int x1), some (.int x2), some (.int x3)] [] Z1 S 0 0 (f_X10_person_60 x1 x2 x3 S) := by
  have F := M0.1
  unfold f_X10_person_60
  refine a_iload_n F dX10_person_60 rfl rfl ?_
  refine a_iconst F dX10_person_61 ki_m1 ?_
  refine a_icmp_eq F 72 dX10_person_62 (by decide) ?_ ?_
  · exact b_X10_person_72 M0 x1 x2 x3 S
  · refine a_iload_n F dX10_person_65 rfl rfl ?_
    refine a_iload_n F dX10_person_66 rfl rfl ?_
    refine a_icmp_ne F 72 dX10_person_67 (by decide) ?_ ?_
    · refine a_iconst F dX10_person_70 ki_m1 ?_
      exact a_iret F M0.2.2.1 M0.2.2.2 dX10_person_71
    · exact b_X10_person_72 M0 x1 x2 x3 S
def f_X10_person_42 (x1 x2 x3 : Int32) (S : Mm) : Option (Int32 × Mm) :=
  if x2 = (-1 : Int32) then (
   f_X10_person_60 x1 x2 x3 S
  ) else (
   (f_X1_isThere 1 x2 S).bind fun q_1 =>
   if q_1.1 = 0 then (
    some ((-1 : Int32), q_1.2)
   ) else (
    f_X10_person_60 x1 x2 x3 q_1.2
   )
  )
set_option maxRecDepth 20000 in
theorem b_X10_person_42 {X : CX} {E : FE} (M0 : MF X E RX10 cX10_person 4 3 (some .int)) (x1 x2 x3 : Int32) (S : Mm) : At X E false (mQi X Z1 E) 42 [some (.ref 0), some (.int x1), some (.int x2), some (.int x3)] [] Z1 S 0 0 (f_X10_person_42 x1 x2 x3 S) := by
  have F := M0.1
  unfold f_X10_person_42
  refine a_iload_n F dX10_person_42 rfl rfl ?_
  refine a_iconst F dX10_person_43 ki_m1 ?_
  refine a_icmp_eq F 60 dX10_person_44 (by decide) ?_ ?_
  · exact b_X10_person_60 M0 x1 x2 x3 S
  · refine a_aload_n F dX10_person_47 rfl rfl ?_
    refine a_getR (k := 0) F cfX10 dX10_person_48 fl_X10_12 (by decide) fi_10_0 zl_0 zk_0 zr_0_0 ?_
    refine a_iload_n F dX10_person_51 rfl rfl ?_
    refine a_callVI F (As := [.int x2]) cfX1 rfl (c_X1_isThere X icl_1 x2 S) mw_X1_isThere ml_X10_93 im_X1_isThere se_X1_isThere M0.2.1 (Nat.le_of_ble_eq_true rfl) ⟨Nat.zero_le _, Nat.zero_le _⟩ rfl rfl (Nat.le_of_ble_eq_true rfl) zl_1 zk_1 dX10_person_52 rfl (fun q_1 => ?_)
    refine a_if_ne F 60 dX10_person_55 (by decide) ?_ ?_
    · refine a_iconst F dX10_person_58 ki_m1 ?_
      exact a_iret F M0.2.2.1 M0.2.2.2 dX10_person_59
    · exact b_X10_person_60 M0 x1 x2 x3 q_1.2
def f_X10_person (p1 p2 p3 : Int32) (S : Mm) : Option (Int32 × Mm) :=
  if (12 : Int32) ≤ (S 1 3) then (
   some ((-1 : Int32), S)
  ) else (
   if p3 < 0 then (
    some ((-1 : Int32), S)
   ) else (
    if p3 ≤ (99999 : Int32) then (
     if p1 = (-1 : Int32) then (
      f_X10_person_42 p1 p2 p3 S
     ) else (
      (f_X1_isThere 1 p1 S).bind fun q_1 =>
      if q_1.1 = 0 then (
       some ((-1 : Int32), q_1.2)
      ) else (
       f_X10_person_42 p1 p2 p3 q_1.2
      )
     )
    ) else (
     some ((-1 : Int32), S)
    )
   )
  )
set_option maxRecDepth 20000 in
theorem b_X10_person {X : CX} {E : FE} (M0 : MF X E RX10 cX10_person 4 3 (some .int)) (p1 p2 p3 : Int32) (S : Mm) : At X E false (mQi X Z1 E) 0 [some (.ref 0), some (.int p1), some (.int p2), some (.int p3)] [] Z1 S 0 0 (f_X10_person p1 p2 p3 S) := by
  have F := M0.1
  unfold f_X10_person
  refine a_aload_n F dX10_person_0 rfl rfl ?_
  refine a_getR (k := 0) F cfX10 dX10_person_1 fl_X10_12 (by decide) fi_10_0 zl_0 zk_0 zr_0_0 ?_
  refine a_getI (k := 3) F cfX1 dX10_person_4 fl_X10_89 (by decide) fi_1_3 zl_1 zk_1 ?_
  refine a_bipush F dX10_person_7 kb_12 ?_
  refine a_icmp_ge F 22 dX10_person_9 (by decide) ?_ ?_
  · refine a_iconst F dX10_person_22 ki_m1 ?_
    exact a_iret F M0.2.2.1 M0.2.2.2 dX10_person_23
  · refine a_iload_n F dX10_person_12 rfl rfl ?_
    refine a_if_lt F 22 dX10_person_13 (by decide) ?_ ?_
    · refine a_iconst F dX10_person_22 ki_m1 ?_
      exact a_iret F M0.2.2.1 M0.2.2.2 dX10_person_23
    · refine a_iload_n F dX10_person_16 rfl rfl ?_
      refine a_ldc F dX10_person_17 con_X10_92 ?_
      refine a_icmp_le F 24 dX10_person_19 (by decide) ?_ ?_
      · refine a_iload_n F dX10_person_24 rfl rfl ?_
        refine a_iconst F dX10_person_25 ki_m1 ?_
        refine a_icmp_eq F 42 dX10_person_26 (by decide) ?_ ?_
        · exact b_X10_person_42 M0 p1 p2 p3 S
        · refine a_aload_n F dX10_person_29 rfl rfl ?_
          refine a_getR (k := 0) F cfX10 dX10_person_30 fl_X10_12 (by decide) fi_10_0 zl_0 zk_0 zr_0_0 ?_
          refine a_iload_n F dX10_person_33 rfl rfl ?_
          refine a_callVI F (As := [.int p1]) cfX1 rfl (c_X1_isThere X icl_1 p1 S) mw_X1_isThere ml_X10_93 im_X1_isThere se_X1_isThere M0.2.1 (Nat.le_of_ble_eq_true rfl) ⟨Nat.zero_le _, Nat.zero_le _⟩ rfl rfl (Nat.le_of_ble_eq_true rfl) zl_1 zk_1 dX10_person_34 rfl (fun q_1 => ?_)
          refine a_if_ne F 42 dX10_person_37 (by decide) ?_ ?_
          · refine a_iconst F dX10_person_40 ki_m1 ?_
            exact a_iret F M0.2.2.1 M0.2.2.2 dX10_person_41
          · exact b_X10_person_42 M0 p1 p2 p3 q_1.2
      · refine a_iconst F dX10_person_22 ki_m1 ?_
        exact a_iret F M0.2.2.1 M0.2.2.2 dX10_person_23
theorem c_X10_person (X : CX) (p1 p2 p3 : Int32) (S : Mm) : CtI X Z1 yX10_person cX10_person 4 (some .int) 3 [.ref 0, .int p1, .int p2, .int p3] S (f_X10_person p1 p2 p3 S) :=
  ctI_of (by decide +kernel) rfl (Nat.le_of_ble_eq_true rfl) (by simp [Value.category]) z1len fun E F R hra hlk => b_X10_person ⟨F, R, hra, hlk⟩ p1 p2 p3 S
def f_X10_setOfPerson_57 (x2 x3 : Int32) (S : Mm) : Option (Int32 × Mm) :=
  gd (inB x2 12 = true) <|
  nm (uM S 5 (ix x2) x3) fun S_1 =>
  some ((1 : Int32), S_1)
set_option maxRecDepth 20000 in
theorem b_X10_setOfPerson_57 {X : CX} {E : FE} (M0 : MF X E RX10 cX10_setOfPerson 4 1 (some .boolean)) (x2 x3 : Int32) (S : Mm) : At X E false (mQi X Z1 E) 57 [some (.ref 0), none, some (.int x2), some (.int x3)] [] Z1 S 0 0 (f_X10_setOfPerson_57 x2 x3 S) := by
  have F := M0.1
  unfold f_X10_setOfPerson_57
  refine a_aload_n F dX10_setOfPerson_57 rfl rfl ?_
  refine a_getR (k := 0) F cfX10 dX10_setOfPerson_58 fl_X10_12 (by decide) fi_10_0 zl_0 zk_0 zr_0_0 ?_
  refine a_getR (k := 8) F cfX1 dX10_setOfPerson_61 fl_X10_114 (by decide) fi_1_8 zl_1 zk_1 zr_1_8 ?_
  refine a_iload_n F dX10_setOfPerson_64 rfl rfl ?_
  refine a_iload_n F dX10_setOfPerson_65 rfl rfl ?_
  refine a_gd (a_iast F dX10_setOfPerson_66 zl_5 zk_5 ?_)
  refine a_nmS (fun S_1 => ?_)
  refine a_iconst F dX10_setOfPerson_67 ki_1 ?_
  exact a_zretK F M0.2.2.1 M0.2.2.2 dX10_setOfPerson_68 (Or.inr rfl)
def f_X10_setOfPerson (p1 p2 p3 : Int32) (S : Mm) : Option (Int32 × Mm) :=
  tsw p1 0 [
   (
    if p3 = (-1 : Int32) then (
     f_X10_setOfPerson_57 p2 p3 S
    ) else (
     if p3 ≤ (S 1 1) then (
      some ((0 : Int32), S)
     ) else (
      if p3 ≤ (9999 : Int32) then (
       f_X10_setOfPerson_57 p2 p3 S
      ) else (
       some ((0 : Int32), S)
      )
     )
    )
   ),
   (
    if p3 < 0 then (
     some ((0 : Int32), S)
    ) else (
     if p3 ≤ (9999 : Int32) then (
      gd (inB p2 12 = true) <|
      nm (uM S 6 (ix p2) p3) fun S_1 =>
      some ((1 : Int32), S_1)
     ) else (
      some ((0 : Int32), S)
     )
    )
   ),
   (
    if p3 < 0 then (
     some ((0 : Int32), S)
    ) else (
     if p3 ≤ (99 : Int32) then (
      gd (inB p2 12 = true) <|
      nm (uM S 7 (ix p2) p3) fun S_2 =>
      some ((1 : Int32), S_2)
     ) else (
      some ((0 : Int32), S)
     )
    )
   ),
   (
    if p3 < 0 then (
     some ((0 : Int32), S)
    ) else (
     if p3 ≤ (99999 : Int32) then (
      gd (inB p2 12 = true) <|
      nm (uM S 8 (ix p2) p3) fun S_3 =>
      some ((1 : Int32), S_3)
     ) else (
      some ((0 : Int32), S)
     )
    )
   )
  ] (
   some ((0 : Int32), S)
  )
set_option maxRecDepth 20000 in
theorem b_X10_setOfPerson {X : CX} {E : FE} (M0 : MF X E RX10 cX10_setOfPerson 4 1 (some .boolean)) (p1 p2 p3 : Int32) (S : Mm) : At X E false (mQi X Z1 E) 0 [some (.ref 0), some (.int p1), some (.int p2), some (.int p3)] [] Z1 S 0 0 (f_X10_setOfPerson p1 p2 p3 S) := by
  have F := M0.1
  unfold f_X10_setOfPerson
  refine a_iload_n F dX10_setOfPerson_0 rfl rfl ?_
  refine a_tsw F [32, 69, 94, 118] 142 dX10_setOfPerson_1 (by decide +kernel) (by decide +kernel) (by decide +kernel) ?_ ⟨?_, ?_, ?_, ?_, trivial⟩
  · refine a_iconst F dX10_setOfPerson_142 ki_0 ?_
    exact a_zretK F M0.2.2.1 M0.2.2.2 dX10_setOfPerson_143 (Or.inl rfl)
  · refine a_iload_n F dX10_setOfPerson_32 rfl rfl ?_
    refine a_iconst F dX10_setOfPerson_33 ki_m1 ?_
    refine a_icmp_eq F 57 dX10_setOfPerson_34 (by decide) ?_ ?_
    · refine a_mask [true, false, true, true] (L' := [some (.ref 0), none, some (.int p2), some (.int p3)]) rfl rfl ?_
      exact b_X10_setOfPerson_57 M0 p2 p3 S
    · refine a_iload_n F dX10_setOfPerson_37 rfl rfl ?_
      refine a_aload_n F dX10_setOfPerson_38 rfl rfl ?_
      refine a_getR (k := 0) F cfX10 dX10_setOfPerson_39 fl_X10_12 (by decide) fi_10_0 zl_0 zk_0 zr_0_0 ?_
      refine a_getI (k := 1) F cfX1 dX10_setOfPerson_42 fl_X10_111 (by decide) fi_1_1 zl_1 zk_1 ?_
      refine a_icmp_le F 55 dX10_setOfPerson_45 (by decide) ?_ ?_
      · refine a_iconst F dX10_setOfPerson_55 ki_0 ?_
        exact a_zretK F M0.2.2.1 M0.2.2.2 dX10_setOfPerson_56 (Or.inl rfl)
      · refine a_iload_n F dX10_setOfPerson_48 rfl rfl ?_
        refine a_sipush F dX10_setOfPerson_49 ks_9999 ?_
        refine a_icmp_le F 57 dX10_setOfPerson_52 (by decide) ?_ ?_
        · refine a_mask [true, false, true, true] (L' := [some (.ref 0), none, some (.int p2), some (.int p3)]) rfl rfl ?_
          exact b_X10_setOfPerson_57 M0 p2 p3 S
        · refine a_iconst F dX10_setOfPerson_55 ki_0 ?_
          exact a_zretK F M0.2.2.1 M0.2.2.2 dX10_setOfPerson_56 (Or.inl rfl)
  · refine a_iload_n F dX10_setOfPerson_69 rfl rfl ?_
    refine a_if_lt F 80 dX10_setOfPerson_70 (by decide) ?_ ?_
    · refine a_iconst F dX10_setOfPerson_80 ki_0 ?_
      exact a_zretK F M0.2.2.1 M0.2.2.2 dX10_setOfPerson_81 (Or.inl rfl)
    · refine a_iload_n F dX10_setOfPerson_73 rfl rfl ?_
      refine a_sipush F dX10_setOfPerson_74 ks_9999 ?_
      refine a_icmp_le F 82 dX10_setOfPerson_77 (by decide) ?_ ?_
      · refine a_aload_n F dX10_setOfPerson_82 rfl rfl ?_
        refine a_getR (k := 0) F cfX10 dX10_setOfPerson_83 fl_X10_12 (by decide) fi_10_0 zl_0 zk_0 zr_0_0 ?_
        refine a_getR (k := 9) F cfX1 dX10_setOfPerson_86 fl_X10_118 (by decide) fi_1_9 zl_1 zk_1 zr_1_9 ?_
        refine a_iload_n F dX10_setOfPerson_89 rfl rfl ?_
        refine a_iload_n F dX10_setOfPerson_90 rfl rfl ?_
        refine a_gd (a_iast F dX10_setOfPerson_91 zl_6 zk_6 ?_)
        refine a_nmS (fun S_1 => ?_)
        refine a_iconst F dX10_setOfPerson_92 ki_1 ?_
        exact a_zretK F M0.2.2.1 M0.2.2.2 dX10_setOfPerson_93 (Or.inr rfl)
      · refine a_iconst F dX10_setOfPerson_80 ki_0 ?_
        exact a_zretK F M0.2.2.1 M0.2.2.2 dX10_setOfPerson_81 (Or.inl rfl)
  · refine a_iload_n F dX10_setOfPerson_94 rfl rfl ?_
    refine a_if_lt F 104 dX10_setOfPerson_95 (by decide) ?_ ?_
    · refine a_iconst F dX10_setOfPerson_104 ki_0 ?_
      exact a_zretK F M0.2.2.1 M0.2.2.2 dX10_setOfPerson_105 (Or.inl rfl)
    · refine a_iload_n F dX10_setOfPerson_98 rfl rfl ?_
      refine a_bipush F dX10_setOfPerson_99 kb_99 ?_
      refine a_icmp_le F 106 dX10_setOfPerson_101 (by decide) ?_ ?_
      · refine a_aload_n F dX10_setOfPerson_106 rfl rfl ?_
        refine a_getR (k := 0) F cfX10 dX10_setOfPerson_107 fl_X10_12 (by decide) fi_10_0 zl_0 zk_0 zr_0_0 ?_
        refine a_getR (k := 10) F cfX1 dX10_setOfPerson_110 fl_X10_121 (by decide) fi_1_10 zl_1 zk_1 zr_1_10 ?_
        refine a_iload_n F dX10_setOfPerson_113 rfl rfl ?_
        refine a_iload_n F dX10_setOfPerson_114 rfl rfl ?_
        refine a_gd (a_iast F dX10_setOfPerson_115 zl_7 zk_7 ?_)
        refine a_nmS (fun S_2 => ?_)
        refine a_iconst F dX10_setOfPerson_116 ki_1 ?_
        exact a_zretK F M0.2.2.1 M0.2.2.2 dX10_setOfPerson_117 (Or.inr rfl)
      · refine a_iconst F dX10_setOfPerson_104 ki_0 ?_
        exact a_zretK F M0.2.2.1 M0.2.2.2 dX10_setOfPerson_105 (Or.inl rfl)
  · refine a_iload_n F dX10_setOfPerson_118 rfl rfl ?_
    refine a_if_lt F 128 dX10_setOfPerson_119 (by decide) ?_ ?_
    · refine a_iconst F dX10_setOfPerson_128 ki_0 ?_
      exact a_zretK F M0.2.2.1 M0.2.2.2 dX10_setOfPerson_129 (Or.inl rfl)
    · refine a_iload_n F dX10_setOfPerson_122 rfl rfl ?_
      refine a_ldc F dX10_setOfPerson_123 con_X10_92 ?_
      refine a_icmp_le F 130 dX10_setOfPerson_125 (by decide) ?_ ?_
      · refine a_aload_n F dX10_setOfPerson_130 rfl rfl ?_
        refine a_getR (k := 0) F cfX10 dX10_setOfPerson_131 fl_X10_12 (by decide) fi_10_0 zl_0 zk_0 zr_0_0 ?_
        refine a_getR (k := 11) F cfX1 dX10_setOfPerson_134 fl_X10_124 (by decide) fi_1_11 zl_1 zk_1 zr_1_11 ?_
        refine a_iload_n F dX10_setOfPerson_137 rfl rfl ?_
        refine a_iload_n F dX10_setOfPerson_138 rfl rfl ?_
        refine a_gd (a_iast F dX10_setOfPerson_139 zl_8 zk_8 ?_)
        refine a_nmS (fun S_3 => ?_)
        refine a_iconst F dX10_setOfPerson_140 ki_1 ?_
        exact a_zretK F M0.2.2.1 M0.2.2.2 dX10_setOfPerson_141 (Or.inr rfl)
      · refine a_iconst F dX10_setOfPerson_128 ki_0 ?_
        exact a_zretK F M0.2.2.1 M0.2.2.2 dX10_setOfPerson_129 (Or.inl rfl)
theorem c_X10_setOfPerson (X : CX) (p1 p2 p3 : Int32) (S : Mm) : CtI X Z1 yX10_setOfPerson cX10_setOfPerson 4 (some .boolean) 1 [.ref 0, .int p1, .int p2, .int p3] S (f_X10_setOfPerson p1 p2 p3 S) :=
  ctI_of (by decide +kernel) rfl (Nat.le_of_ble_eq_true rfl) (by simp [Value.category]) z1len fun E F R hra hlk => b_X10_setOfPerson ⟨F, R, hra, hlk⟩ p1 p2 p3 S
def f_X10_set_50 (S : Mm) : Option (Int32 × Mm) :=
  (f_X2_forget S).bind fun S_1 =>
  some ((1 : Int32), S_1)
set_option maxRecDepth 20000 in
theorem b_X10_set_50 {X : CX} {E : FE} (M0 : MF X E RX10 cX10_set 4 3 (some .boolean)) (S : Mm) : At X E false (mQi X Z1 E) 50 [some (.ref 0), none, none, none] [] Z1 S 0 0 (f_X10_set_50 S) := by
  have F := M0.1
  unfold f_X10_set_50
  refine a_aload_n F dX10_set_50 rfl rfl ?_
  refine a_getR (k := 3) F cfX10 dX10_set_51 fl_X10_33 (by decide) fi_10_3 zl_0 zk_0 zr_0_3 ?_
  refine a_callVV F (As := []) cfX2 rfl (c_X2_forget X S) mw_X2_forget ml_X10_86 im_X2_forget se_X2_forget M0.2.1 (Nat.le_of_ble_eq_true rfl) ⟨Nat.zero_le _, Nat.zero_le _⟩ rfl rfl (Nat.le_of_ble_eq_true rfl) zl_34 zk_34 dX10_set_54 rfl (fun S_1 => ?_)
  refine a_iconst F dX10_set_57 ki_1 ?_
  exact a_zretK F M0.2.2.1 M0.2.2.2 dX10_set_58 (Or.inr rfl)
def f_X10_set (p1 p2 p3 : Int32) (S : Mm) : Option (Int32 × Mm) :=
  if p1 = (4 : Int32) then (
   if p3 < 0 then (
    some ((0 : Int32), S)
   ) else (
    if p3 ≤ (3 : Int32) then (
     nm (uM S 1 2 p3) fun S_1 =>
     f_X10_set_50 S_1
    ) else (
     some ((0 : Int32), S)
    )
   )
  ) else (
   (f_X1_lives 1 p2 S).bind fun q_2 =>
   if q_2.1 = 0 then (
    some ((0 : Int32), q_2.2)
   ) else (
    (f_X10_setOfPerson p1 p2 p3 q_2.2).bind fun q_3 =>
    if q_3.1 = 0 then (
     some ((0 : Int32), q_3.2)
    ) else (
     f_X10_set_50 q_3.2
    )
   )
  )
set_option maxRecDepth 20000 in
theorem b_X10_set {X : CX} {E : FE} (M0 : MF X E RX10 cX10_set 4 3 (some .boolean)) (p1 p2 p3 : Int32) (S : Mm) : At X E false (mQi X Z1 E) 0 [some (.ref 0), some (.int p1), some (.int p2), some (.int p3)] [] Z1 S 0 0 (f_X10_set p1 p2 p3 S) := by
  have F := M0.1
  unfold f_X10_set
  refine a_iload_n F dX10_set_0 rfl rfl ?_
  refine a_iconst F dX10_set_1 ki_4 ?_
  refine a_icmp_ne F 27 dX10_set_2 (by decide) ?_ ?_
  · refine a_iload_n F dX10_set_5 rfl rfl ?_
    refine a_if_lt F 14 dX10_set_6 (by decide) ?_ ?_
    · refine a_iconst F dX10_set_14 ki_0 ?_
      exact a_zretK F M0.2.2.1 M0.2.2.2 dX10_set_15 (Or.inl rfl)
    · refine a_iload_n F dX10_set_9 rfl rfl ?_
      refine a_iconst F dX10_set_10 ki_3 ?_
      refine a_icmp_le F 16 dX10_set_11 (by decide) ?_ ?_
      · refine a_aload_n F dX10_set_16 rfl rfl ?_
        refine a_getR (k := 0) F cfX10 dX10_set_17 fl_X10_12 (by decide) fi_10_0 zl_0 zk_0 zr_0_0 ?_
        refine a_iload_n F dX10_set_20 rfl rfl ?_
        refine a_putI (k := 2) F cfX1 dX10_set_21 fl_X10_101 (by decide) fi_1_2 rfl rfl zl_1 zk_1 ?_
        refine a_nmS (fun S_1 => ?_)
        refine a_goto F 50 dX10_set_24 (by decide) ?_
        refine a_mask [true, false, false, false] (L' := [some (.ref 0), none, none, none]) rfl rfl ?_
        exact b_X10_set_50 M0 S_1
      · refine a_iconst F dX10_set_14 ki_0 ?_
        exact a_zretK F M0.2.2.1 M0.2.2.2 dX10_set_15 (Or.inl rfl)
  · refine a_aload_n F dX10_set_27 rfl rfl ?_
    refine a_getR (k := 0) F cfX10 dX10_set_28 fl_X10_12 (by decide) fi_10_0 zl_0 zk_0 zr_0_0 ?_
    refine a_iload_n F dX10_set_31 rfl rfl ?_
    refine a_callVI F (As := [.int p2]) cfX1 rfl (c_X1_lives X icl_1 p2 S) mw_X1_lives ml_X10_104 im_X1_lives se_X1_lives M0.2.1 (Nat.le_of_ble_eq_true rfl) ⟨Nat.zero_le _, Nat.zero_le _⟩ rfl rfl (Nat.le_of_ble_eq_true rfl) zl_1 zk_1 dX10_set_32 rfl (fun q_2 => ?_)
    refine a_if_eq F 48 dX10_set_35 (by decide) ?_ ?_
    · refine a_iconst F dX10_set_48 ki_0 ?_
      exact a_zretK F M0.2.2.1 M0.2.2.2 dX10_set_49 (Or.inl rfl)
    · refine a_aload_n F dX10_set_38 rfl rfl ?_
      refine a_iload_n F dX10_set_39 rfl rfl ?_
      refine a_iload_n F dX10_set_40 rfl rfl ?_
      refine a_iload_n F dX10_set_41 rfl rfl ?_
      refine a_callVI F (As := [.int p1, .int p2, .int p3]) cfX10 rfl (c_X10_setOfPerson X p1 p2 p3 q_2.2) mw_X10_setOfPerson ml_X10_107 im_X10_setOfPerson se_X10_setOfPerson M0.2.1 (Nat.le_of_ble_eq_true rfl) ⟨Nat.zero_le _, Nat.zero_le _⟩ rfl rfl (Nat.le_of_ble_eq_true rfl) zl_0 zk_0 dX10_set_42 rfl (fun q_3 => ?_)
      refine a_if_ne F 50 dX10_set_45 (by decide) ?_ ?_
      · refine a_iconst F dX10_set_48 ki_0 ?_
        exact a_zretK F M0.2.2.1 M0.2.2.2 dX10_set_49 (Or.inl rfl)
      · refine a_mask [true, false, false, false] (L' := [some (.ref 0), none, none, none]) rfl rfl ?_
        exact b_X10_set_50 M0 q_3.2
theorem c_X10_set (X : CX) (p1 p2 p3 : Int32) (S : Mm) : CtI X Z1 yX10_set cX10_set 4 (some .boolean) 3 [.ref 0, .int p1, .int p2, .int p3] S (f_X10_set p1 p2 p3 S) :=
  ctI_of (by decide +kernel) rfl (Nat.le_of_ble_eq_true rfl) (by simp [Value.category]) z1len fun E F R hra hlk => b_X10_set ⟨F, R, hra, hlk⟩ p1 p2 p3 S
def f_X7_writableTogether (p1 : Int32) (S : Mm) : Option (Int32 × Mm) :=
  (f_X7_ask 1 S).bind fun S_1 =>
  (f_X7_together p1 S_1).bind fun q_2 =>
  some (q_2.1, q_2.2)
set_option maxRecDepth 20000 in
theorem b_X7_writableTogether {X : CX} {E : FE} (M0 : MF X E RX7 cX7_writableTogether 2 5 (some .int)) (p1 : Int32) (S : Mm) : At X E false (mQi X Z1 E) 0 [some (.ref 165), some (.int p1)] [] Z1 S 0 0 (f_X7_writableTogether p1 S) := by
  have F := M0.1
  unfold f_X7_writableTogether
  refine a_aload_n F dX7_writableTogether_0 rfl rfl ?_
  refine a_aload_n F dX7_writableTogether_1 rfl rfl ?_
  refine a_getR (k := 0) F cfX7 dX7_writableTogether_2 fl_X7_25 (by decide) fi_7_0 zl_165 zk_165 zr_165_0 ?_
  refine a_callVV F (As := [.ref 1]) cfX7 rfl (c_X7_ask X icl_1 S) mw_X7_ask ml_X7_36 im_X7_ask se_X7_ask M0.2.1 (Nat.le_of_ble_eq_true rfl) ⟨Nat.zero_le _, Nat.zero_le _⟩ rfl rfl (Nat.le_of_ble_eq_true rfl) zl_165 zk_165 dX7_writableTogether_5 rfl (fun S_1 => ?_)
  refine a_aload_n F dX7_writableTogether_8 rfl rfl ?_
  refine a_iload_n F dX7_writableTogether_9 rfl rfl ?_
  refine a_callVI F (As := [.int p1]) cfX7 rfl (c_X7_together X p1 S_1) mw_X7_together ml_X7_40 im_X7_together se_X7_together M0.2.1 (Nat.le_of_ble_eq_true rfl) ⟨Nat.zero_le _, Nat.zero_le _⟩ rfl rfl (Nat.le_of_ble_eq_true rfl) zl_165 zk_165 dX7_writableTogether_10 rfl (fun q_2 => ?_)
  exact a_iret F M0.2.2.1 M0.2.2.2 dX7_writableTogether_13
theorem c_X7_writableTogether (X : CX) (p1 : Int32) (S : Mm) : CtI X Z1 yX7_writableTogether cX7_writableTogether 2 (some .int) 5 [.ref 165, .int p1] S (f_X7_writableTogether p1 S) :=
  ctI_of (by decide +kernel) rfl (Nat.le_of_ble_eq_true rfl) (by simp [Value.category]) z1len fun E F R hra hlk => b_X7_writableTogether ⟨F, R, hra, hlk⟩ p1 S
def f_X10_sign (p1 p2 : Int32) (S : Mm) : Option (Int32 × Mm) :=
  (f_X10_isDeed p1 S).bind fun q_1 =>
  if q_1.1 = 0 then (
   some ((-1 : Int32), q_1.2)
  ) else (
   if p2 = 0 then (
    some ((-1 : Int32), q_1.2)
   ) else (
    if (p2 &&& ((q_1.2 1 4) ^^^ (-1 : Int32))) = 0 then (
     (f_X2_keep_32 1 q_1.2).bind fun S_2 =>
     gd (inB p1 8 = true) <|
     nm (uM S_2 14 (ix p1) p2) fun S_3 =>
     gd (inB p1 8 = true) <|
     (f_X7_writableTogether p2 S_3).bind fun q_4 =>
     gd (inB p1 8 = true) <|
     nm (uM q_4.2 15 (ix p1) ((S_3 31 (ix p1)) &&& (q_4.1 ^^^ (-1 : Int32)))) fun S_5 =>
     gd (inB p1 8 = true) <|
     nm (uM S_5 16 (ix p1) (S_5 1 1)) fun S_6 =>
     gd (inB p1 8 = true) <|
     some ((S_6 15 (ix p1)), S_6)
    ) else (
     some ((-1 : Int32), q_1.2)
    )
   )
  )
set_option maxRecDepth 20000 in
theorem b_X10_sign {X : CX} {E : FE} (M0 : MF X E RX10 cX10_sign 3 6 (some .int)) (p1 p2 : Int32) (S : Mm) : At X E false (mQi X Z1 E) 0 [some (.ref 0), some (.int p1), some (.int p2)] [] Z1 S 0 0 (f_X10_sign p1 p2 S) := by
  have F := M0.1
  unfold f_X10_sign
  refine a_aload_n F dX10_sign_0 rfl rfl ?_
  refine a_iload_n F dX10_sign_1 rfl rfl ?_
  refine a_callVI F (As := [.int p1]) cfX10 rfl (c_X10_isDeed X p1 S) mw_X10_isDeed ml_X10_205 im_X10_isDeed se_X10_isDeed M0.2.1 (Nat.le_of_ble_eq_true rfl) ⟨Nat.zero_le _, Nat.zero_le _⟩ rfl rfl (Nat.le_of_ble_eq_true rfl) zl_0 zk_0 dX10_sign_2 rfl (fun q_1 => ?_)
  refine a_if_eq F 26 dX10_sign_5 (by decide) ?_ ?_
  · refine a_iconst F dX10_sign_26 ki_m1 ?_
    exact a_iret F M0.2.2.1 M0.2.2.2 dX10_sign_27
  · refine a_iload_n F dX10_sign_8 rfl rfl ?_
    refine a_if_eq F 26 dX10_sign_9 (by decide) ?_ ?_
    · refine a_iconst F dX10_sign_26 ki_m1 ?_
      exact a_iret F M0.2.2.1 M0.2.2.2 dX10_sign_27
    · refine a_iload_n F dX10_sign_12 rfl rfl ?_
      refine a_aload_n F dX10_sign_13 rfl rfl ?_
      refine a_getR (k := 0) F cfX10 dX10_sign_14 fl_X10_12 (by decide) fi_10_0 zl_0 zk_0 zr_0_0 ?_
      refine a_getI (k := 4) F cfX1 dX10_sign_17 fl_X10_208 (by decide) fi_1_4 zl_1 zk_1 ?_
      refine a_iconst F dX10_sign_20 ki_m1 ?_
      refine a_ixor F dX10_sign_21 ?_
      refine a_iand F dX10_sign_22 ?_
      refine a_if_eq F 28 dX10_sign_23 (by decide) ?_ ?_
      · refine a_aload_n F dX10_sign_28 rfl rfl ?_
        refine a_getR (k := 3) F cfX10 dX10_sign_29 fl_X10_33 (by decide) fi_10_3 zl_0 zk_0 zr_0_3 ?_
        refine a_aload_n F dX10_sign_32 rfl rfl ?_
        refine a_getR (k := 0) F cfX10 dX10_sign_33 fl_X10_12 (by decide) fi_10_0 zl_0 zk_0 zr_0_0 ?_
        refine a_aload_n F dX10_sign_36 rfl rfl ?_
        refine a_getR (k := 2) F cfX10 dX10_sign_37 fl_X10_26 (by decide) fi_10_2 zl_0 zk_0 zr_0_2 ?_
        refine a_callVV F (As := [.ref 1, .ref 32]) cfX2 rfl (c_X2_keep_32 X icl_1 q_1.2) mw_X2_keep ml_X10_175 im_X2_keep se_X2_keep M0.2.1 (Nat.le_of_ble_eq_true rfl) ⟨Nat.zero_le _, Nat.zero_le _⟩ rfl rfl (Nat.le_of_ble_eq_true rfl) zl_34 zk_34 dX10_sign_40 rfl (fun S_2 => ?_)
        refine a_aload_n F dX10_sign_43 rfl rfl ?_
        refine a_getR (k := 0) F cfX10 dX10_sign_44 fl_X10_12 (by decide) fi_10_0 zl_0 zk_0 zr_0_0 ?_
        refine a_getR (k := 17) F cfX1 dX10_sign_47 fl_X10_211 (by decide) fi_1_17 zl_1 zk_1 zr_1_17 ?_
        refine a_iload_n F dX10_sign_50 rfl rfl ?_
        refine a_iload_n F dX10_sign_51 rfl rfl ?_
        refine a_gd (a_iast F dX10_sign_52 zl_14 zk_14 ?_)
        refine a_nmS (fun S_3 => ?_)
        refine a_aload_n F dX10_sign_53 rfl rfl ?_
        refine a_getR (k := 0) F cfX10 dX10_sign_54 fl_X10_12 (by decide) fi_10_0 zl_0 zk_0 zr_0_0 ?_
        refine a_getR (k := 18) F cfX1 dX10_sign_57 fl_X10_214 (by decide) fi_1_18 zl_1 zk_1 zr_1_18 ?_
        refine a_iload_n F dX10_sign_60 rfl rfl ?_
        refine a_aload_n F dX10_sign_61 rfl rfl ?_
        refine a_getR (k := 1) F cfX10 dX10_sign_62 fl_X10_19 (by decide) fi_10_1 zl_0 zk_0 zr_0_1 ?_
        refine a_getR (k := 8) F cfX6 dX10_sign_65 fl_X10_217 (by decide) fi_6_8 zl_17 zk_17 zr_17_8 ?_
        refine a_iload_n F dX10_sign_68 rfl rfl ?_
        refine a_gd (a_iald F dX10_sign_69 zl_31 zk_31 ?_)
        refine a_aload_n F dX10_sign_70 rfl rfl ?_
        refine a_getR (k := 4) F cfX10 dX10_sign_71 fl_X10_42 (by decide) fi_10_4 zl_0 zk_0 zr_0_4 ?_
        refine a_iload_n F dX10_sign_74 rfl rfl ?_
        refine a_callVI F (As := [.int p2]) cfX7 rfl (c_X7_writableTogether X p2 S_3) mw_X7_writableTogether ml_X10_220 im_X7_writableTogether se_X7_writableTogether M0.2.1 (Nat.le_of_ble_eq_true rfl) ⟨Nat.zero_le _, Nat.zero_le _⟩ rfl rfl (Nat.le_of_ble_eq_true rfl) zl_165 zk_165 dX10_sign_75 rfl (fun q_4 => ?_)
        refine a_iconst F dX10_sign_78 ki_m1 ?_
        refine a_ixor F dX10_sign_79 ?_
        refine a_iand F dX10_sign_80 ?_
        refine a_gd (a_iast F dX10_sign_81 zl_15 zk_15 ?_)
        refine a_nmS (fun S_5 => ?_)
        refine a_aload_n F dX10_sign_82 rfl rfl ?_
        refine a_getR (k := 0) F cfX10 dX10_sign_83 fl_X10_12 (by decide) fi_10_0 zl_0 zk_0 zr_0_0 ?_
        refine a_getR (k := 19) F cfX1 dX10_sign_86 fl_X10_223 (by decide) fi_1_19 zl_1 zk_1 zr_1_19 ?_
        refine a_iload_n F dX10_sign_89 rfl rfl ?_
        refine a_aload_n F dX10_sign_90 rfl rfl ?_
        refine a_getR (k := 0) F cfX10 dX10_sign_91 fl_X10_12 (by decide) fi_10_0 zl_0 zk_0 zr_0_0 ?_
        refine a_getI (k := 1) F cfX1 dX10_sign_94 fl_X10_111 (by decide) fi_1_1 zl_1 zk_1 ?_
        refine a_gd (a_iast F dX10_sign_97 zl_16 zk_16 ?_)
        refine a_nmS (fun S_6 => ?_)
        refine a_aload_n F dX10_sign_98 rfl rfl ?_
        refine a_getR (k := 0) F cfX10 dX10_sign_99 fl_X10_12 (by decide) fi_10_0 zl_0 zk_0 zr_0_0 ?_
        refine a_getR (k := 18) F cfX1 dX10_sign_102 fl_X10_214 (by decide) fi_1_18 zl_1 zk_1 zr_1_18 ?_
        refine a_iload_n F dX10_sign_105 rfl rfl ?_
        refine a_gd (a_iald F dX10_sign_106 zl_15 zk_15 ?_)
        exact a_iret F M0.2.2.1 M0.2.2.2 dX10_sign_107
      · refine a_iconst F dX10_sign_26 ki_m1 ?_
        exact a_iret F M0.2.2.1 M0.2.2.2 dX10_sign_27
theorem c_X10_sign (X : CX) (p1 p2 : Int32) (S : Mm) : CtI X Z1 yX10_sign cX10_sign 3 (some .int) 6 [.ref 0, .int p1, .int p2] S (f_X10_sign p1 p2 S) :=
  ctI_of (by decide +kernel) rfl (Nat.le_of_ble_eq_true rfl) (by simp [Value.category]) z1len fun E F R hra hlk => b_X10_sign ⟨F, R, hra, hlk⟩ p1 p2 S
def f_X7_silencedBy (p1 : Int32) (S : Mm) : Option (Int32 × Mm) :=
  (f_X1_become 166 1 S).bind fun S_1 =>
  (f_X1_die_17_n 166 p1 S_1).bind fun S_2 =>
  (f_X7_spoken 1 S_2).bind fun q_3 =>
  (f_X7_spoken 166 q_3.2).bind fun q_4 =>
  some ((q_3.1 &&& (q_4.1 ^^^ (-1 : Int32))), q_4.2)
set_option maxRecDepth 20000 in
theorem b_X7_silencedBy {X : CX} {E : FE} (M0 : MF X E RX7 cX7_silencedBy 3 6 (some .int)) (p1 : Int32) (S : Mm) : At X E false (mQi X Z1 E) 0 [some (.ref 165), some (.int p1), none] [] Z1 S 0 0 (f_X7_silencedBy p1 S) := by
  have F := M0.1
  unfold f_X7_silencedBy
  refine a_aload_n F dX7_silencedBy_0 rfl rfl ?_
  refine a_getR (k := 2) F cfX7 dX7_silencedBy_1 fl_X7_12 (by decide) fi_7_2 zl_165 zk_165 zr_165_2 ?_
  refine a_aload_n F dX7_silencedBy_4 rfl rfl ?_
  refine a_getR (k := 0) F cfX7 dX7_silencedBy_5 fl_X7_25 (by decide) fi_7_0 zl_165 zk_165 zr_165_0 ?_
  refine a_callVV F (As := [.ref 1]) cfX1 rfl (c_X1_become X icl_166 icl_1 S) mw_X1_become ml_X7_70 im_X1_become se_X1_become M0.2.1 (Nat.le_of_ble_eq_true rfl) ⟨Nat.zero_le _, Nat.zero_le _⟩ rfl rfl (Nat.le_of_ble_eq_true rfl) zl_166 zk_166 dX7_silencedBy_8 rfl (fun S_1 => ?_)
  refine a_aload_n F dX7_silencedBy_11 rfl rfl ?_
  refine a_getR (k := 2) F cfX7 dX7_silencedBy_12 fl_X7_12 (by decide) fi_7_2 zl_165 zk_165 zr_165_2 ?_
  refine a_iload_n F dX7_silencedBy_15 rfl rfl ?_
  refine a_aload_n F dX7_silencedBy_16 rfl rfl ?_
  refine a_getR (k := 1) F cfX7 dX7_silencedBy_17 fl_X7_28 (by decide) fi_7_1 zl_165 zk_165 zr_165_1 ?_
  refine a_null F dX7_silencedBy_20 ?_
  refine a_callVV F (As := [.int p1, .ref 17, .null]) cfX1 rfl (c_X1_die_17_n X icl_166 p1 S_1) mw_X1_die ml_X7_73 im_X1_die se_X1_die M0.2.1 (Nat.le_of_ble_eq_true rfl) ⟨Nat.zero_le _, Nat.zero_le _⟩ rfl rfl (Nat.le_of_ble_eq_true rfl) zl_166 zk_166 dX7_silencedBy_21 rfl (fun S_2 => ?_)
  refine a_aload_n F dX7_silencedBy_24 rfl rfl ?_
  refine a_aload_n F dX7_silencedBy_25 rfl rfl ?_
  refine a_getR (k := 0) F cfX7 dX7_silencedBy_26 fl_X7_25 (by decide) fi_7_0 zl_165 zk_165 zr_165_0 ?_
  refine a_callVI F (As := [.ref 1]) cfX7 rfl (c_X7_spoken X icl_1 S_2) mw_X7_spoken ml_X7_77 im_X7_spoken se_X7_spoken M0.2.1 (Nat.le_of_ble_eq_true rfl) ⟨Nat.zero_le _, Nat.zero_le _⟩ rfl rfl (Nat.le_of_ble_eq_true rfl) zl_165 zk_165 dX7_silencedBy_29 rfl (fun q_3 => ?_)
  refine a_istore_n (L' := [some (.ref 165), some (.int p1), some (.int q_3.1)]) F dX7_silencedBy_32 rfl (lt_b rfl) rfl ?_
  refine a_iload_n F dX7_silencedBy_33 rfl rfl ?_
  refine a_aload_n F dX7_silencedBy_34 rfl rfl ?_
  refine a_aload_n F dX7_silencedBy_35 rfl rfl ?_
  refine a_getR (k := 2) F cfX7 dX7_silencedBy_36 fl_X7_12 (by decide) fi_7_2 zl_165 zk_165 zr_165_2 ?_
  refine a_callVI F (As := [.ref 166]) cfX7 rfl (c_X7_spoken X icl_166 q_3.2) mw_X7_spoken ml_X7_77 im_X7_spoken se_X7_spoken M0.2.1 (Nat.le_of_ble_eq_true rfl) ⟨Nat.zero_le _, Nat.zero_le _⟩ rfl rfl (Nat.le_of_ble_eq_true rfl) zl_165 zk_165 dX7_silencedBy_39 rfl (fun q_4 => ?_)
  refine a_iconst F dX7_silencedBy_42 ki_m1 ?_
  refine a_ixor F dX7_silencedBy_43 ?_
  refine a_iand F dX7_silencedBy_44 ?_
  exact a_iret F M0.2.2.1 M0.2.2.2 dX7_silencedBy_45
theorem c_X7_silencedBy (X : CX) (p1 : Int32) (S : Mm) : CtI X Z1 yX7_silencedBy cX7_silencedBy 3 (some .int) 6 [.ref 165, .int p1] S (f_X7_silencedBy p1 S) :=
  ctI_of (by decide +kernel) rfl (Nat.le_of_ble_eq_true rfl) (by simp [Value.category]) z1len fun E F R hra hlk => b_X7_silencedBy ⟨F, R, hra, hlk⟩ p1 S
def f_X10_silent (p1 : Int32) (S : Mm) : Option (Int32 × Mm) :=
  (f_X1_lives 1 p1 S).bind fun q_1 =>
  if q_1.1 = 0 then (
   some ((-1 : Int32), q_1.2)
  ) else (
   (f_X7_silencedBy p1 q_1.2).bind fun q_2 =>
   some (q_2.1, q_2.2)
  )
set_option maxRecDepth 20000 in
theorem b_X10_silent {X : CX} {E : FE} (M0 : MF X E RX10 cX10_silent 2 7 (some .int)) (p1 : Int32) (S : Mm) : At X E false (mQi X Z1 E) 0 [some (.ref 0), some (.int p1)] [] Z1 S 0 0 (f_X10_silent p1 S) := by
  have F := M0.1
  unfold f_X10_silent
  refine a_aload_n F dX10_silent_0 rfl rfl ?_
  refine a_getR (k := 0) F cfX10 dX10_silent_1 fl_X10_12 (by decide) fi_10_0 zl_0 zk_0 zr_0_0 ?_
  refine a_iload_n F dX10_silent_4 rfl rfl ?_
  refine a_callVI F (As := [.int p1]) cfX1 rfl (c_X1_lives X icl_1 p1 S) mw_X1_lives ml_X10_104 im_X1_lives se_X1_lives M0.2.1 (Nat.le_of_ble_eq_true rfl) ⟨Nat.zero_le _, Nat.zero_le _⟩ rfl rfl (Nat.le_of_ble_eq_true rfl) zl_1 zk_1 dX10_silent_5 rfl (fun q_1 => ?_)
  refine a_if_ne F 13 dX10_silent_8 (by decide) ?_ ?_
  · refine a_iconst F dX10_silent_11 ki_m1 ?_
    exact a_iret F M0.2.2.1 M0.2.2.2 dX10_silent_12
  · refine a_aload_n F dX10_silent_13 rfl rfl ?_
    refine a_getR (k := 4) F cfX10 dX10_silent_14 fl_X10_42 (by decide) fi_10_4 zl_0 zk_0 zr_0_4 ?_
    refine a_iload_n F dX10_silent_17 rfl rfl ?_
    refine a_callVI F (As := [.int p1]) cfX7 rfl (c_X7_silencedBy X p1 q_1.2) mw_X7_silencedBy ml_X10_309 im_X7_silencedBy se_X7_silencedBy M0.2.1 (Nat.le_of_ble_eq_true rfl) ⟨Nat.zero_le _, Nat.zero_le _⟩ rfl rfl (Nat.le_of_ble_eq_true rfl) zl_165 zk_165 dX10_silent_18 rfl (fun q_2 => ?_)
    exact a_iret F M0.2.2.1 M0.2.2.2 dX10_silent_21
theorem c_X10_silent (X : CX) (p1 : Int32) (S : Mm) : CtI X Z1 yX10_silent cX10_silent 2 (some .int) 7 [.ref 0, .int p1] S (f_X10_silent p1 S) :=
  ctI_of (by decide +kernel) rfl (Nat.le_of_ble_eq_true rfl) (by simp [Value.category]) z1len fun E F R hra hlk => b_X10_silent ⟨F, R, hra, hlk⟩ p1 S
def f_X10_state (p1 : Int32) (S : Mm) : Option (Int32 × Mm) :=
  nm ((S 1 0)) fun x2_1 =>
  nm (uM S 1 0 p1) fun S_2 =>
  (f_X2_forget S_2).bind fun S_3 =>
  some (x2_1, S_3)
set_option maxRecDepth 20000 in
theorem b_X10_state {X : CX} {E : FE} (M0 : MF X E RX10 cX10_state 3 2 (some .int)) (p1 : Int32) (S : Mm) : At X E false (mQi X Z1 E) 0 [some (.ref 0), some (.int p1), none] [] Z1 S 0 0 (f_X10_state p1 S) := by
  have F := M0.1
  unfold f_X10_state
  refine a_aload_n F dX10_state_0 rfl rfl ?_
  refine a_getR (k := 0) F cfX10 dX10_state_1 fl_X10_12 (by decide) fi_10_0 zl_0 zk_0 zr_0_0 ?_
  refine a_getI (k := 0) F cfX1 dX10_state_4 fl_X10_82 (by decide) fi_1_0 zl_1 zk_1 ?_
  refine a_istore_nN (L' := fun x2_1 => [some (.ref 0), some (.int p1), some (.int x2_1)]) F dX10_state_7 rfl (lt_b rfl) (fun _ => rfl) (fun x2_1 => ?_)
  refine a_aload_n F dX10_state_8 rfl rfl ?_
  refine a_getR (k := 0) F cfX10 dX10_state_9 fl_X10_12 (by decide) fi_10_0 zl_0 zk_0 zr_0_0 ?_
  refine a_iload_n F dX10_state_12 rfl rfl ?_
  refine a_putI (k := 0) F cfX1 dX10_state_13 fl_X10_82 (by decide) fi_1_0 rfl rfl zl_1 zk_1 ?_
  refine a_nmS (fun S_2 => ?_)
  refine a_aload_n F dX10_state_16 rfl rfl ?_
  refine a_getR (k := 3) F cfX10 dX10_state_17 fl_X10_33 (by decide) fi_10_3 zl_0 zk_0 zr_0_3 ?_
  refine a_callVV F (As := []) cfX2 rfl (c_X2_forget X S_2) mw_X2_forget ml_X10_86 im_X2_forget se_X2_forget M0.2.1 (Nat.le_of_ble_eq_true rfl) ⟨Nat.zero_le _, Nat.zero_le _⟩ rfl rfl (Nat.le_of_ble_eq_true rfl) zl_34 zk_34 dX10_state_20 rfl (fun S_3 => ?_)
  refine a_iload_n F dX10_state_23 rfl rfl ?_
  exact a_iret F M0.2.2.1 M0.2.2.2 dX10_state_24
theorem c_X10_state (X : CX) (p1 : Int32) (S : Mm) : CtI X Z1 yX10_state cX10_state 3 (some .int) 2 [.ref 0, .int p1] S (f_X10_state p1 S) :=
  ctI_of (by decide +kernel) rfl (Nat.le_of_ble_eq_true rfl) (by simp [Value.category]) z1len fun E F R hra hlk => b_X10_state ⟨F, R, hra, hlk⟩ p1 S
def f_X5_faultless (S : Mm) : Option Mm :=
  nm (uM S 184 2 (0 : Int32)) fun S_1 =>
  nm (uM S_1 184 3 (-1 : Int32)) fun S_2 =>
  some S_2
set_option maxRecDepth 20000 in
theorem b_X5_faultless {X : CX} {E : FE} (M0 : MF X E RX5 cX5_faultless 1 1 none) (S : Mm) : At X E false (mQv X Z1 E) 0 [some (.ref 184)] [] Z1 S 0 0 (f_X5_faultless S) := by
  have F := M0.1
  unfold f_X5_faultless
  refine a_aload_n F dX5_faultless_0 rfl rfl ?_
  refine a_iconst F dX5_faultless_1 ki_0 ?_
  refine a_putI (k := 2) F cfX5 dX5_faultless_2 fl_X5_19 (by decide) fi_5_2 rfl rfl zl_184 zk_184 ?_
  refine a_nmS (fun S_1 => ?_)
  refine a_aload_n F dX5_faultless_5 rfl rfl ?_
  refine a_iconst F dX5_faultless_6 ki_m1 ?_
  refine a_putI (k := 3) F cfX5 dX5_faultless_7 fl_X5_22 (by decide) fi_5_3 rfl rfl zl_184 zk_184 ?_
  refine a_nmS (fun S_2 => ?_)
  exact a_vret F M0.2.2.1 M0.2.2.2 dX5_faultless_10
theorem c_X5_faultless (X : CX) (S : Mm) : CtV X Z1 yX5_faultless cX5_faultless 1 1 [.ref 184] S (f_X5_faultless S) :=
  ctV_of (by decide +kernel) rfl (Nat.le_of_ble_eq_true rfl) (by simp [Value.category]) z1len fun E F R hra hlk => b_X5_faultless ⟨F, R, hra, hlk⟩ S
def f_X10_isBlank_12 (S : Mm) : Option (Int32 × Mm) :=
  some ((1 : Int32), S)
set_option maxRecDepth 20000 in
theorem b_X10_isBlank_12 {X : CX} {E : FE} (M0 : MF X E RX10 cX10_isBlank 1 1 (some .boolean)) (S : Mm) : At X E false (mQi X Z1 E) 12 [none] [] Z1 S 0 0 (f_X10_isBlank_12 S) := by
  have F := M0.1
  unfold f_X10_isBlank_12
  refine a_iconst F dX10_isBlank_12 ki_1 ?_
  refine a_goto F 17 dX10_isBlank_13 (by decide) ?_
  exact a_zretK F M0.2.2.1 M0.2.2.2 dX10_isBlank_17 (Or.inr rfl)
def f_X10_isBlank (p0 : Int32) (S : Mm) : Option (Int32 × Mm) :=
  if p0 = (32 : Int32) then (
   f_X10_isBlank_12 S
  ) else (
   if p0 = (10 : Int32) then (
    f_X10_isBlank_12 S
   ) else (
    some ((0 : Int32), S)
   )
  )
set_option maxRecDepth 20000 in
theorem b_X10_isBlank {X : CX} {E : FE} (M0 : MF X E RX10 cX10_isBlank 1 1 (some .boolean)) (p0 : Int32) (S : Mm) : At X E false (mQi X Z1 E) 0 [some (.int p0)] [] Z1 S 0 0 (f_X10_isBlank p0 S) := by
  have F := M0.1
  unfold f_X10_isBlank
  refine a_iload_n F dX10_isBlank_0 rfl rfl ?_
  refine a_bipush F dX10_isBlank_1 kb_32 ?_
  refine a_icmp_eq F 12 dX10_isBlank_3 (by decide) ?_ ?_
  · refine a_mask [false] (L' := [none]) rfl rfl ?_
    exact b_X10_isBlank_12 M0 S
  · refine a_iload_n F dX10_isBlank_6 rfl rfl ?_
    refine a_bipush F dX10_isBlank_7 kb_10 ?_
    refine a_icmp_ne F 16 dX10_isBlank_9 (by decide) ?_ ?_
    · refine a_mask [false] (L' := [none]) rfl rfl ?_
      exact b_X10_isBlank_12 M0 S
    · refine a_iconst F dX10_isBlank_16 ki_0 ?_
      exact a_zretK F M0.2.2.1 M0.2.2.2 dX10_isBlank_17 (Or.inl rfl)
theorem c_X10_isBlank (X : CX) (p0 : Int32) (S : Mm) : CtI X Z1 yX10_isBlank cX10_isBlank 1 (some .boolean) 1 [.int p0] S (f_X10_isBlank p0 S) :=
  ctI_of (by decide +kernel) rfl (Nat.le_of_ble_eq_true rfl) (by simp [Value.category]) z1len fun E F R hra hlk => b_X10_isBlank ⟨F, R, hra, hlk⟩ p0 S
def f_X8_isOfWord_28 (S : Mm) : Option (Int32 × Mm) :=
  some ((0 : Int32), S)
set_option maxRecDepth 20000 in
theorem b_X8_isOfWord_28 {X : CX} {E : FE} (M0 : MF X E RX8 cX8_isOfWord 1 1 (some .boolean)) (S : Mm) : At X E false (mQi X Z1 E) 28 [none] [] Z1 S 0 0 (f_X8_isOfWord_28 S) := by
  have F := M0.1
  unfold f_X8_isOfWord_28
  refine a_iconst F dX8_isOfWord_28 ki_0 ?_
  exact a_zretK F M0.2.2.1 M0.2.2.2 dX8_isOfWord_29 (Or.inl rfl)
def f_X8_isOfWord_24 (S : Mm) : Option (Int32 × Mm) :=
  some ((1 : Int32), S)
set_option maxRecDepth 20000 in
theorem b_X8_isOfWord_24 {X : CX} {E : FE} (M0 : MF X E RX8 cX8_isOfWord 1 1 (some .boolean)) (S : Mm) : At X E false (mQi X Z1 E) 24 [none] [] Z1 S 0 0 (f_X8_isOfWord_24 S) := by
  have F := M0.1
  unfold f_X8_isOfWord_24
  refine a_iconst F dX8_isOfWord_24 ki_1 ?_
  refine a_goto F 29 dX8_isOfWord_25 (by decide) ?_
  exact a_zretK F M0.2.2.1 M0.2.2.2 dX8_isOfWord_29 (Or.inr rfl)
def f_X8_isOfWord_12 (x0 : Int32) (S : Mm) : Option (Int32 × Mm) :=
  if x0 < (65 : Int32) then (
   f_X8_isOfWord_28 S
  ) else (
   if (90 : Int32) < x0 then (
    f_X8_isOfWord_28 S
   ) else (
    f_X8_isOfWord_24 S
   )
  )
set_option maxRecDepth 20000 in
theorem b_X8_isOfWord_12 {X : CX} {E : FE} (M0 : MF X E RX8 cX8_isOfWord 1 1 (some .boolean)) (x0 : Int32) (S : Mm) : At X E false (mQi X Z1 E) 12 [some (.int x0)] [] Z1 S 0 0 (f_X8_isOfWord_12 x0 S) := by
  have F := M0.1
  unfold f_X8_isOfWord_12
  refine a_iload_n F dX8_isOfWord_12 rfl rfl ?_
  refine a_bipush F dX8_isOfWord_13 kb_65 ?_
  refine a_icmp_lt F 28 dX8_isOfWord_15 (by decide) ?_ ?_
  · refine a_mask [false] (L' := [none]) rfl rfl ?_
    exact b_X8_isOfWord_28 M0 S
  · refine a_iload_n F dX8_isOfWord_18 rfl rfl ?_
    refine a_bipush F dX8_isOfWord_19 kb_90 ?_
    refine a_icmp_gt F 28 dX8_isOfWord_21 (by decide) ?_ ?_
    · refine a_mask [false] (L' := [none]) rfl rfl ?_
      exact b_X8_isOfWord_28 M0 S
    · refine a_mask [false] (L' := [none]) rfl rfl ?_
      exact b_X8_isOfWord_24 M0 S
def f_X8_isOfWord (p0 : Int32) (S : Mm) : Option (Int32 × Mm) :=
  if p0 < (97 : Int32) then (
   f_X8_isOfWord_12 p0 S
  ) else (
   if p0 ≤ (122 : Int32) then (
    f_X8_isOfWord_24 S
   ) else (
    f_X8_isOfWord_12 p0 S
   )
  )
set_option maxRecDepth 20000 in
theorem b_X8_isOfWord {X : CX} {E : FE} (M0 : MF X E RX8 cX8_isOfWord 1 1 (some .boolean)) (p0 : Int32) (S : Mm) : At X E false (mQi X Z1 E) 0 [some (.int p0)] [] Z1 S 0 0 (f_X8_isOfWord p0 S) := by
  have F := M0.1
  unfold f_X8_isOfWord
  refine a_iload_n F dX8_isOfWord_0 rfl rfl ?_
  refine a_bipush F dX8_isOfWord_1 kb_97 ?_
  refine a_icmp_lt F 12 dX8_isOfWord_3 (by decide) ?_ ?_
  · exact b_X8_isOfWord_12 M0 p0 S
  · refine a_iload_n F dX8_isOfWord_6 rfl rfl ?_
    refine a_bipush F dX8_isOfWord_7 kb_122 ?_
    refine a_icmp_le F 24 dX8_isOfWord_9 (by decide) ?_ ?_
    · refine a_mask [false] (L' := [none]) rfl rfl ?_
      exact b_X8_isOfWord_24 M0 S
    · exact b_X8_isOfWord_12 M0 p0 S
theorem c_X8_isOfWord (X : CX) (p0 : Int32) (S : Mm) : CtI X Z1 yX8_isOfWord cX8_isOfWord 1 (some .boolean) 1 [.int p0] S (f_X8_isOfWord p0 S) :=
  ctI_of (by decide +kernel) rfl (Nat.le_of_ble_eq_true rfl) (by simp [Value.category]) z1len fun E F R hra hlk => b_X8_isOfWord ⟨F, R, hra, hlk⟩ p0 S
def f_J0_coder_7d493 (r0 : Nat) (S : Mm) : Option (Int32 × Mm) :=
  gd (narrow .byte (.int (0 : Int32)) = .int (0 : Int32)) <| some ((0 : Int32), S)
set_option maxRecDepth 20000 in
theorem b_J0_coder_7d493 {X : CX} {E : FE} (M0 : MF X E RJ0 cJ0_coder_7d493 1 1 (some .byte)) {r0 : Nat} (h0 : r0 < 4) (S : Mm) : At X E false (mQi X Z1 E) 0 [some (.ref (1048576 + r0))] [] Z1 S 0 0 (f_J0_coder_7d493 r0 S) := by
  have F := M0.1
  unfold f_J0_coder_7d493
  refine a_getCo F dJ0_coder_7d493_0 fl_J0_38 ?_
  refine a_ifF (o2 := none) (by decide : ¬ (1 : Int32) = 0) (a_if_eq F 13 dJ0_coder_7d493_3 (by decide) a_none ?_)
  refine a_aload_n F dJ0_coder_7d493_6 rfl rfl ?_
  refine a_sCod F h0 dJ0_coder_7d493_7 fl_J0_15 ?_
  refine a_goto F 14 dJ0_coder_7d493_10 (by decide) ?_
  exact a_gd (a_nret F M0.2.2.1 M0.2.2.2 dJ0_coder_7d493_14)
theorem c_J0_coder_7d493 (X : CX) {r0 : Nat} (h0 : r0 < 4) (S : Mm) : CtI X Z1 yJ0_coder_7d493 cJ0_coder_7d493 1 (some .byte) 1 [.ref (1048576 + r0)] S (f_J0_coder_7d493 r0 S) :=
  ctI_of (by decide +kernel) rfl (Nat.le_of_ble_eq_true rfl) (by simp [Value.category]) z1len fun E F R hra hlk => b_J0_coder_7d493 ⟨F, R, hra, hlk⟩ h0 S
def f_J0_length_8abf5 (r0 : Nat) (S : Mm) : Option (Int32 × Mm) :=
  (f_J0_coder_7d493 r0 S).bind fun q_1 =>
  some ((shr (Int32.ofNat (sxL.getD r0 0)) q_1.1), q_1.2)
set_option maxRecDepth 20000 in
theorem b_J0_length_8abf5 {X : CX} {E : FE} (M0 : MF X E RJ0 cJ0_length_8abf5 1 2 (some .int)) {r0 : Nat} (h0 : r0 < 4) (S : Mm) : At X E false (mQi X Z1 E) 0 [some (.ref (1048576 + r0))] [] Z1 S 0 0 (f_J0_length_8abf5 r0 S) := by
  have F := M0.1
  unfold f_J0_length_8abf5
  refine a_aload_n F dJ0_length_8abf5_0 rfl rfl ?_
  refine a_sVal F h0 dJ0_length_8abf5_1 fl_J0_9 ?_
  refine a_sLen F h0 dJ0_length_8abf5_4 ?_
  refine a_aload_n F dJ0_length_8abf5_5 rfl rfl ?_
  refine a_callTI F (As := []) h0 (c_J0_coder_7d493 X h0 S) mw_J0_coder_7d493 ml_J0_335 im_J0_coder_7d493 se_J0_coder_7d493 M0.2.1 (Nat.le_of_ble_eq_true rfl) ⟨Nat.zero_le _, Nat.zero_le _⟩ rfl rfl (Nat.le_of_ble_eq_true rfl) dJ0_length_8abf5_6 rfl (fun q_1 => ?_)
  refine a_ishr F dJ0_length_8abf5_9 ?_
  exact a_iret F M0.2.2.1 M0.2.2.2 dJ0_length_8abf5_10
theorem c_J0_length_8abf5 (X : CX) {r0 : Nat} (h0 : r0 < 4) (S : Mm) : CtI X Z1 yJ0_length_8abf5 cJ0_length_8abf5 1 (some .int) 2 [.ref (1048576 + r0)] S (f_J0_length_8abf5 r0 S) :=
  ctI_of (by decide +kernel) rfl (Nat.le_of_ble_eq_true rfl) (by simp [Value.category]) z1len fun E F R hra hlk => b_J0_length_8abf5 ⟨F, R, hra, hlk⟩ h0 S
def f_J0_isLatin1_aae02_17 (r0 : Nat) (S : Mm) : Option (Int32 × Mm) :=
  some ((0 : Int32), S)
set_option maxRecDepth 20000 in
theorem b_J0_isLatin1_aae02_17 {X : CX} {E : FE} (M0 : MF X E RJ0 cJ0_isLatin1_aae02 1 1 (some .boolean)) {r0 : Nat} (h0 : r0 < 4) (S : Mm) : At X E false (mQi X Z1 E) 17 [none] [] Z1 S 0 0 (f_J0_isLatin1_aae02_17 r0 S) := by
  have F := M0.1
  unfold f_J0_isLatin1_aae02_17
  refine a_iconst F dJ0_isLatin1_aae02_17 ki_0 ?_
  exact a_zretK F M0.2.2.1 M0.2.2.2 dJ0_isLatin1_aae02_18 (Or.inl rfl)
def f_J0_isLatin1_aae02 (r0 : Nat) (S : Mm) : Option (Int32 × Mm) :=
  some ((1 : Int32), S)
set_option maxRecDepth 20000 in
theorem b_J0_isLatin1_aae02 {X : CX} {E : FE} (M0 : MF X E RJ0 cJ0_isLatin1_aae02 1 1 (some .boolean)) {r0 : Nat} (h0 : r0 < 4) (S : Mm) : At X E false (mQi X Z1 E) 0 [some (.ref (1048576 + r0))] [] Z1 S 0 0 (f_J0_isLatin1_aae02 r0 S) := by
  have F := M0.1
  unfold f_J0_isLatin1_aae02
  refine a_getCo F dJ0_isLatin1_aae02_0 fl_J0_38 ?_
  refine a_ifF (o2 := none) (by decide : ¬ (1 : Int32) = 0) (a_if_eq F 17 dJ0_isLatin1_aae02_3 (by decide) a_none ?_)
  refine a_aload_n F dJ0_isLatin1_aae02_6 rfl rfl ?_
  refine a_sCod F h0 dJ0_isLatin1_aae02_7 fl_J0_15 ?_
  refine a_ifT (o2 := none) (by decide : (0 : Int32) = 0) (a_if_ne F 17 dJ0_isLatin1_aae02_10 (by decide) ?_ a_none)
  refine a_iconst F dJ0_isLatin1_aae02_13 ki_1 ?_
  refine a_goto F 18 dJ0_isLatin1_aae02_14 (by decide) ?_
  exact a_zretK F M0.2.2.1 M0.2.2.2 dJ0_isLatin1_aae02_18 (Or.inr rfl)
theorem c_J0_isLatin1_aae02 (X : CX) {r0 : Nat} (h0 : r0 < 4) (S : Mm) : CtI X Z1 yJ0_isLatin1_aae02 cJ0_isLatin1_aae02 1 (some .boolean) 1 [.ref (1048576 + r0)] S (f_J0_isLatin1_aae02 r0 S) :=
  ctI_of (by decide +kernel) rfl (Nat.le_of_ble_eq_true rfl) (by simp [Value.category]) z1len fun E F R hra hlk => b_J0_isLatin1_aae02 ⟨F, R, hra, hlk⟩ h0 S
def f_J3_checkIndex_8e157 (p0 p1 : Int32) (S : Mm) : Option (Int32 × Mm) :=
  if p0 < 0 then (
   none
  ) else (
   if p0 < p1 then (
    some (p0, S)
   ) else (
    none
   )
  )
set_option maxRecDepth 20000 in
theorem b_J3_checkIndex_8e157 {X : CX} {E : FE} (M0 : MF X E RJ3 cJ3_checkIndex_8e157 3 1 (some .int)) (p0 p1 : Int32) (S : Mm) : At X E false (mQi X Z1 E) 0 [some (.int p0), some (.int p1), some (.float 0)] [] Z1 S 0 0 (f_J3_checkIndex_8e157 p0 p1 S) := by
  have F := M0.1
  unfold f_J3_checkIndex_8e157
  refine a_iload_n F dJ3_checkIndex_8e157_0 rfl rfl ?_
  refine a_if_lt F 9 dJ3_checkIndex_8e157_1 (by decide) ?_ ?_
  · exact a_none
  · refine a_iload_n F dJ3_checkIndex_8e157_4 rfl rfl ?_
    refine a_iload_n F dJ3_checkIndex_8e157_5 rfl rfl ?_
    refine a_icmp_lt F 16 dJ3_checkIndex_8e157_6 (by decide) ?_ ?_
    · refine a_iload_n F dJ3_checkIndex_8e157_16 rfl rfl ?_
      exact a_iret F M0.2.2.1 M0.2.2.2 dJ3_checkIndex_8e157_17
    · exact a_none
theorem c_J3_checkIndex_8e157 (X : CX) (p0 p1 : Int32) (S : Mm) : CtI X Z1 yJ3_checkIndex_8e157 cJ3_checkIndex_8e157 3 (some .int) 1 [.int p0, .int p1, .float 0] S (f_J3_checkIndex_8e157 p0 p1 S) :=
  ctI_of (by decide +kernel) rfl (Nat.le_of_ble_eq_true rfl) (by simp [Value.category]) z1len fun E F R hra hlk => b_J3_checkIndex_8e157 ⟨F, R, hra, hlk⟩ p0 p1 S
def f_J0_checkIndex_df160 (p0 p1 : Int32) (S : Mm) : Option Mm :=
  (f_J3_checkIndex_8e157 p0 p1 S).bind fun q_1 =>
  some q_1.2
set_option maxRecDepth 20000 in
theorem b_J0_checkIndex_df160 {X : CX} {E : FE} (M0 : MF X E RJ0 cJ0_checkIndex_df160 2 2 none) (p0 p1 : Int32) (S : Mm) : At X E false (mQv X Z1 E) 0 [some (.int p0), some (.int p1)] [] Z1 S 0 0 (f_J0_checkIndex_df160 p0 p1 S) := by
  have F := M0.1
  unfold f_J0_checkIndex_df160
  refine a_iload_n F dJ0_checkIndex_df160_0 rfl rfl ?_
  refine a_iload_n F dJ0_checkIndex_df160_1 rfl rfl ?_
  refine a_getFm F dJ0_checkIndex_df160_2 fl_J0_1053 ?_
  refine a_callSI F (As := [.int p0, .int p1, .float 0]) (c_J3_checkIndex_8e157 X p0 p1 S) mw_J3_checkIndex_8e157 ml_J0_1059 st_J3_checkIndex_8e157 M0.2.1 (Nat.le_of_ble_eq_true rfl) ⟨Nat.zero_le _, Nat.zero_le _⟩ rfl rfl (Nat.le_of_ble_eq_true rfl) dJ0_checkIndex_df160_5 rfl (fun q_1 => ?_)
  refine a_pop F dJ0_checkIndex_df160_8 rfl ?_
  exact a_vret F M0.2.2.1 M0.2.2.2 dJ0_checkIndex_df160_9
theorem c_J0_checkIndex_df160 (X : CX) (p0 p1 : Int32) (S : Mm) : CtV X Z1 yJ0_checkIndex_df160 cJ0_checkIndex_df160 2 2 [.int p0, .int p1] S (f_J0_checkIndex_df160 p0 p1 S) :=
  ctV_of (by decide +kernel) rfl (Nat.le_of_ble_eq_true rfl) (by simp [Value.category]) z1len fun E F R hra hlk => b_J0_checkIndex_df160 ⟨F, R, hra, hlk⟩ p0 p1 S
def f_J1_charAt_3b067 (r0 : Nat) (p1 : Int32) (S : Mm) : Option (Int32 × Mm) :=
  (f_J0_checkIndex_df160 p1 (Int32.ofNat (sxL.getD r0 0)) S).bind fun S_1 =>
  gd (inB p1 (sxL.getD r0 0) = true) <|
  gd (narrow .char (.int (i2c (((sxB.getD r0 []).getD (ix p1) 0) &&& (255 : Int32)))) = .int (i2c (((sxB.getD r0 []).getD (ix p1) 0) &&& (255 : Int32)))) <| some ((i2c (((sxB.getD r0 []).getD (ix p1) 0) &&& (255 : Int32))), S_1)
set_option maxRecDepth 20000 in
theorem b_J1_charAt_3b067 {X : CX} {E : FE} (M0 : MF X E RJ1 cJ1_charAt_3b067 2 3 (some .char)) {r0 : Nat} (h0 : r0 < 4) (p1 : Int32) (S : Mm) : At X E false (mQi X Z1 E) 0 [some (.ref (2097152 + r0)), some (.int p1)] [] Z1 S 0 0 (f_J1_charAt_3b067 r0 p1 S) := by
  have F := M0.1
  unfold f_J1_charAt_3b067
  refine a_iload_n F dJ1_charAt_3b067_0 rfl rfl ?_
  refine a_aload_n F dJ1_charAt_3b067_1 rfl rfl ?_
  refine a_sLen F h0 dJ1_charAt_3b067_2 ?_
  refine a_callSV F (As := [.int p1, .int (Int32.ofNat (sxL.getD r0 0))]) (c_J0_checkIndex_df160 X p1 (Int32.ofNat (sxL.getD r0 0)) S) mw_J0_checkIndex_df160 ml_J1_9 st_J0_checkIndex_df160 M0.2.1 (Nat.le_of_ble_eq_true rfl) ⟨Nat.zero_le _, Nat.zero_le _⟩ rfl rfl (Nat.le_of_ble_eq_true rfl) dJ1_charAt_3b067_3 rfl (fun S_1 => ?_)
  refine a_aload_n F dJ1_charAt_3b067_6 rfl rfl ?_
  refine a_iload_n F dJ1_charAt_3b067_7 rfl rfl ?_
  refine a_gd (a_sBld F h0 dJ1_charAt_3b067_8 ?_)
  refine a_sipush F dJ1_charAt_3b067_9 ks_255 ?_
  refine a_iand F dJ1_charAt_3b067_12 ?_
  refine a_i2c F dJ1_charAt_3b067_13 ?_
  exact a_gd (a_nret F M0.2.2.1 M0.2.2.2 dJ1_charAt_3b067_14)
theorem c_J1_charAt_3b067 (X : CX) {r0 : Nat} (h0 : r0 < 4) (p1 : Int32) (S : Mm) : CtI X Z1 yJ1_charAt_3b067 cJ1_charAt_3b067 2 (some .char) 3 [.ref (2097152 + r0), .int p1] S (f_J1_charAt_3b067 r0 p1 S) :=
  ctI_of (by decide +kernel) rfl (Nat.le_of_ble_eq_true rfl) (by simp [Value.category]) z1len fun E F R hra hlk => b_J1_charAt_3b067 ⟨F, R, hra, hlk⟩ h0 p1 S
def f_J0_charAt_5068e (r0 : Nat) (p1 : Int32) (S : Mm) : Option (Int32 × Mm) :=
  (f_J0_isLatin1_aae02 r0 S).bind fun q_1 =>
  if q_1.1 = 0 then (
   none
  ) else (
   (f_J1_charAt_3b067 r0 p1 q_1.2).bind fun q_2 =>
   gd (narrow .char (.int q_2.1) = .int q_2.1) <| some (q_2.1, q_2.2)
  )
set_option maxRecDepth 20000 in
theorem b_J0_charAt_5068e {X : CX} {E : FE} (M0 : MF X E RJ0 cJ0_charAt_5068e 2 4 (some .char)) {r0 : Nat} (h0 : r0 < 4) (p1 : Int32) (S : Mm) : At X E false (mQi X Z1 E) 0 [some (.ref (1048576 + r0)), some (.int p1)] [] Z1 S 0 0 (f_J0_charAt_5068e r0 p1 S) := by
  have F := M0.1
  unfold f_J0_charAt_5068e
  refine a_aload_n F dJ0_charAt_5068e_0 rfl rfl ?_
  refine a_callTI F (As := []) h0 (c_J0_isLatin1_aae02 X h0 S) mw_J0_isLatin1_aae02 ml_J0_492 im_J0_isLatin1_aae02 se_J0_isLatin1_aae02 M0.2.1 (Nat.le_of_ble_eq_true rfl) ⟨Nat.zero_le _, Nat.zero_le _⟩ rfl rfl (Nat.le_of_ble_eq_true rfl) dJ0_charAt_5068e_1 rfl (fun q_1 => ?_)
  refine a_if_eq F 16 dJ0_charAt_5068e_4 (by decide) ?_ ?_
  · refine a_aload_n F dJ0_charAt_5068e_16 rfl rfl ?_
    refine a_sVal F h0 dJ0_charAt_5068e_17 fl_J0_9 ?_
    refine a_iload_n F dJ0_charAt_5068e_20 rfl rfl ?_
    exact a_none
  · refine a_aload_n F dJ0_charAt_5068e_7 rfl rfl ?_
    refine a_sVal F h0 dJ0_charAt_5068e_8 fl_J0_9 ?_
    refine a_iload_n F dJ0_charAt_5068e_11 rfl rfl ?_
    refine a_callSI F (As := [.ref (2097152 + r0), .int p1]) (c_J1_charAt_3b067 X h0 p1 q_1.2) mw_J1_charAt_3b067 ml_J0_495 st_J1_charAt_3b067 M0.2.1 (Nat.le_of_ble_eq_true rfl) ⟨Nat.zero_le _, Nat.zero_le _⟩ rfl rfl (Nat.le_of_ble_eq_true rfl) dJ0_charAt_5068e_12 rfl (fun q_2 => ?_)
    exact a_gd (a_nret F M0.2.2.1 M0.2.2.2 dJ0_charAt_5068e_15)
theorem c_J0_charAt_5068e (X : CX) {r0 : Nat} (h0 : r0 < 4) (p1 : Int32) (S : Mm) : CtI X Z1 yJ0_charAt_5068e cJ0_charAt_5068e 2 (some .char) 4 [.ref (1048576 + r0), .int p1] S (f_J0_charAt_5068e r0 p1 S) :=
  ctI_of (by decide +kernel) rfl (Nat.le_of_ble_eq_true rfl) (by simp [Value.category]) z1len fun E F R hra hlk => b_J0_charAt_5068e ⟨F, R, hra, hlk⟩ h0 p1 S
def f_X8_isSame_3b (k3 : Int32 → Int32 → Int32 → Int32 → Mm → Option (Int32 × Mm)) (r0 : Nat) (x1 x2 x3 x4 : Int32) (S : Mm) : Option (Int32 × Mm) :=
  if x3 ≤ x4 then (
   some ((1 : Int32), S)
  ) else (
   (f_J0_charAt_5068e (tw r0) (x1 + x4) S).bind fun q_1 =>
   gd (inB (x2 + x4) 400 = true) <|
   if q_1.1 = (q_1.2 185 (ix (x2 + x4))) then (
    nm (x4 + (1 : Int32)) fun x4_2 =>
    k3 x1 x2 x3 x4_2 q_1.2
   ) else (
    some ((0 : Int32), q_1.2)
   )
  )
set_option maxRecDepth 20000 in
theorem b_X8_isSame_3b {X : CX} {E : FE} (M0 : MF X E RX8 cX8_isSame 5 5 (some .boolean)) {r0 : Nat} (h0 : isTok r0) {k3 : Int32 → Int32 → Int32 → Int32 → Mm → Option (Int32 × Mm)} (hk3 : ∀ (x1 x2 x3 x4 : Int32) (S : Mm), At X E false (mQi X Z1 E) 3 [some (.ref r0), some (.int x1), some (.int x2), some (.int x3), some (.int x4)] [] Z1 S 0 0 (k3 x1 x2 x3 x4 S)) (x1 x2 x3 x4 : Int32) (S : Mm) : At X E false (mQi X Z1 E) 3 [some (.ref r0), some (.int x1), some (.int x2), some (.int x3), some (.int x4)] [] Z1 S 0 0 (f_X8_isSame_3b k3 r0 x1 x2 x3 x4 S) := by
  have F := M0.1
  unfold f_X8_isSame_3b
  refine a_iload F dX8_isSame_3 rfl ?_
  refine a_iload_n F dX8_isSame_5 rfl rfl ?_
  refine a_icmp_ge F 43 dX8_isSame_6 (by decide) ?_ ?_
  · refine a_iconst F dX8_isSame_43 ki_1 ?_
    exact a_zretK F M0.2.2.1 M0.2.2.2 dX8_isSame_44 (Or.inr rfl)
  · refine a_aload_n F dX8_isSame_9 rfl rfl ?_
    refine a_getR (k := 1) F cfX8 dX8_isSame_10 fl_X8_32 (by decide) fi_8_1 (ztl_0 h0) (ztk_0 h0) (ztr_1 h0) ?_
    refine a_iload_n F dX8_isSame_13 rfl rfl ?_
    refine a_iload F dX8_isSame_14 rfl ?_
    refine a_iadd F dX8_isSame_16 ?_
    refine a_callTI F (As := [.int (x1 + x4)]) (twl_1 h0) (c_J0_charAt_5068e X (twl_1 h0) (x1 + x4) S) mw_J0_charAt_5068e ml_X8_86 im_J0_charAt_5068e se_J0_charAt_5068e M0.2.1 (Nat.le_of_ble_eq_true rfl) ⟨Nat.zero_le _, Nat.zero_le _⟩ rfl rfl (Nat.le_of_ble_eq_true rfl) dX8_isSame_17 rfl (fun q_1 => ?_)
    refine a_aload_n F dX8_isSame_20 rfl rfl ?_
    refine a_getR (k := 0) F cfX8 dX8_isSame_21 fl_X8_28 (by decide) fi_8_0 (ztl_0 h0) (ztk_0 h0) (ztr_0 h0) ?_
    refine a_getR (k := 0) F cfX5 dX8_isSame_24 fl_X8_44 (by decide) fi_5_0 zl_184 zk_184 zr_184_0 ?_
    refine a_iload_n F dX8_isSame_27 rfl rfl ?_
    refine a_iload F dX8_isSame_28 rfl ?_
    refine a_iadd F dX8_isSame_30 ?_
    refine a_gd (a_iald F dX8_isSame_31 zl_185 zk_185 ?_)
    refine a_icmp_eq F 37 dX8_isSame_32 (by decide) ?_ ?_
    · refine a_iincN (L' := fun x4_2 => [some (.ref r0), some (.int x1), some (.int x2), some (.int x3), some (.int x4_2)]) F dX8_isSame_37 rfl ki_1 (lt_b rfl) (fun _ => rfl) (fun x4_2 => ?_)
      refine a_goto F 3 dX8_isSame_40 (by decide) ?_
      exact hk3 x1 x2 x3 x4_2 q_1.2
    · refine a_iconst F dX8_isSame_35 ki_0 ?_
      exact a_zretK F M0.2.2.1 M0.2.2.2 dX8_isSame_36 (Or.inl rfl)
def f_X8_isSame_3 (r0 : Nat) : Nat → Int32 → Int32 → Int32 → Int32 → Mm → Option (Int32 × Mm) :=
  itr (fun _ _ _ _ _ => none) (fun k => f_X8_isSame_3b k r0)
theorem b_X8_isSame_3 {X : CX} {E : FE} (M0 : MF X E RX8 cX8_isSame 5 5 (some .boolean)) {r0 : Nat} (h0 : isTok r0) : ∀ (n : Nat) (x1 x2 x3 x4 : Int32) (S : Mm), At X E false (mQi X Z1 E) 3 [some (.ref r0), some (.int x1), some (.int x2), some (.int x3), some (.int x4)] [] Z1 S 0 0 (f_X8_isSame_3 r0 n x1 x2 x3 x4 S) := by
  intro n
  induction n with
  | zero => intros; exact a_none
  | succ n ih => intro x1 x2 x3 x4 S; exact b_X8_isSame_3b M0 h0 ih x1 x2 x3 x4 S
def f_X8_isSame (r0 : Nat) (p1 p2 p3 : Int32) (S : Mm) : Option (Int32 × Mm) :=
  f_X8_isSame_3 r0 FU p1 p2 p3 (0 : Int32) S
set_option maxRecDepth 20000 in
theorem b_X8_isSame {X : CX} {E : FE} (M0 : MF X E RX8 cX8_isSame 5 5 (some .boolean)) {r0 : Nat} (h0 : isTok r0) (p1 p2 p3 : Int32) (S : Mm) : At X E false (mQi X Z1 E) 0 [some (.ref r0), some (.int p1), some (.int p2), some (.int p3), none] [] Z1 S 0 0 (f_X8_isSame r0 p1 p2 p3 S) := by
  have F := M0.1
  unfold f_X8_isSame
  refine a_iconst F dX8_isSame_0 ki_0 ?_
  refine a_istore (L' := [some (.ref r0), some (.int p1), some (.int p2), some (.int p3), some (.int (0 : Int32))]) F dX8_isSame_1 (lt_b rfl) rfl ?_
  exact b_X8_isSame_3 M0 h0 FU p1 p2 p3 (0 : Int32) S
theorem c_X8_isSame (X : CX) {r0 : Nat} (h0 : isTok r0) (p1 p2 p3 : Int32) (S : Mm) : CtI X Z1 yX8_isSame cX8_isSame 5 (some .boolean) 5 [.ref r0, .int p1, .int p2, .int p3] S (f_X8_isSame r0 p1 p2 p3 S) :=
  ctI_of (by decide +kernel) rfl (Nat.le_of_ble_eq_true rfl) (by simp [Value.category]) z1len fun E F R hra hlk => b_X8_isSame ⟨F, R, hra, hlk⟩ h0 p1 p2 p3 S
def f_X8_wordAt_84 (k8 : Int32 → Int32 → Int32 → Int32 → Int32 → Mm → Option (Int32 × Mm)) (r0 : Nat) (x1 x2 x3 x4 x5 : Int32) (S : Mm) : Option (Int32 × Mm) :=
  nm (x5 + (1 : Int32)) fun x5_1 =>
  k8 x1 x2 x3 x4 x5_1 S
set_option maxRecDepth 20000 in
theorem b_X8_wordAt_84 {X : CX} {E : FE} (M0 : MF X E RX8 cX8_wordAt 6 6 (some .int)) {r0 : Nat} (h0 : isTok r0) {k8 : Int32 → Int32 → Int32 → Int32 → Int32 → Mm → Option (Int32 × Mm)} (hk8 : ∀ (x1 x2 x3 x4 x5 : Int32) (S : Mm), At X E false (mQi X Z1 E) 8 [some (.ref r0), some (.int x1), some (.int x2), some (.int x3), some (.int x4), some (.int x5)] [] Z1 S 0 0 (k8 x1 x2 x3 x4 x5 S)) (x1 x2 x3 x4 x5 : Int32) (S : Mm) : At X E false (mQi X Z1 E) 84 [some (.ref r0), some (.int x1), some (.int x2), some (.int x3), some (.int x4), some (.int x5)] [] Z1 S 0 0 (f_X8_wordAt_84 k8 r0 x1 x2 x3 x4 x5 S) := by
  have F := M0.1
  unfold f_X8_wordAt_84
  refine a_iincN (L' := fun x5_1 => [some (.ref r0), some (.int x1), some (.int x2), some (.int x3), some (.int x4), some (.int x5_1)]) F dX8_wordAt_84 rfl ki_1 (lt_b rfl) (fun _ => rfl) (fun x5_1 => ?_)
  refine a_goto F 8 dX8_wordAt_87 (by decide) ?_
  exact hk8 x1 x2 x3 x4 x5_1 S
def f_X8_wordAt_75 (k8 : Int32 → Int32 → Int32 → Int32 → Int32 → Mm → Option (Int32 × Mm)) (r0 : Nat) (x1 x2 x3 x5 : Int32) (S : Mm) : Option (Int32 × Mm) :=
  nm (x3 + (1 : Int32)) fun x3_1 =>
  nm ((x5 + (1 : Int32))) fun x4_2 =>
  f_X8_wordAt_84 k8 r0 x1 x2 x3_1 x4_2 x5 S
set_option maxRecDepth 20000 in
theorem b_X8_wordAt_75 {X : CX} {E : FE} (M0 : MF X E RX8 cX8_wordAt 6 6 (some .int)) {r0 : Nat} (h0 : isTok r0) {k8 : Int32 → Int32 → Int32 → Int32 → Int32 → Mm → Option (Int32 × Mm)} (hk8 : ∀ (x1 x2 x3 x4 x5 : Int32) (S : Mm), At X E false (mQi X Z1 E) 8 [some (.ref r0), some (.int x1), some (.int x2), some (.int x3), some (.int x4), some (.int x5)] [] Z1 S 0 0 (k8 x1 x2 x3 x4 x5 S)) (x1 x2 x3 x5 : Int32) (S : Mm) : At X E false (mQi X Z1 E) 75 [some (.ref r0), some (.int x1), some (.int x2), some (.int x3), none, some (.int x5)] [] Z1 S 0 0 (f_X8_wordAt_75 k8 r0 x1 x2 x3 x5 S) := by
  have F := M0.1
  unfold f_X8_wordAt_75
  refine a_iincN (L' := fun x3_1 => [some (.ref r0), some (.int x1), some (.int x2), some (.int x3_1), none, some (.int x5)]) F dX8_wordAt_75 rfl ki_1 (lt_b rfl) (fun _ => rfl) (fun x3_1 => ?_)
  refine a_iload F dX8_wordAt_78 rfl ?_
  refine a_iconst F dX8_wordAt_80 ki_1 ?_
  refine a_iadd F dX8_wordAt_81 ?_
  refine a_istoreN (L' := fun x4_2 => [some (.ref r0), some (.int x1), some (.int x2), some (.int x3_1), some (.int x4_2), some (.int x5)]) F dX8_wordAt_82 (lt_b rfl) (fun _ => rfl) (fun x4_2 => ?_)
  exact b_X8_wordAt_84 M0 h0 hk8 x1 x2 x3_1 x4_2 x5 S
def f_X8_wordAt_49 (k8 : Int32 → Int32 → Int32 → Int32 → Int32 → Mm → Option (Int32 × Mm)) (r0 : Nat) (x1 x2 x3 x4 x5 : Int32) (S : Mm) : Option (Int32 × Mm) :=
  if (x5 - x4) = (x2 - x1) then (
   (f_X8_isSame r0 x4 x1 (x2 - x1) S).bind fun q_1 =>
   if q_1.1 = 0 then (
    f_X8_wordAt_75 k8 r0 x1 x2 x3 x5 q_1.2
   ) else (
    some (x3, q_1.2)
   )
  ) else (
   f_X8_wordAt_75 k8 r0 x1 x2 x3 x5 S
  )
set_option maxRecDepth 20000 in
theorem b_X8_wordAt_49 {X : CX} {E : FE} (M0 : MF X E RX8 cX8_wordAt 6 6 (some .int)) {r0 : Nat} (h0 : isTok r0) {k8 : Int32 → Int32 → Int32 → Int32 → Int32 → Mm → Option (Int32 × Mm)} (hk8 : ∀ (x1 x2 x3 x4 x5 : Int32) (S : Mm), At X E false (mQi X Z1 E) 8 [some (.ref r0), some (.int x1), some (.int x2), some (.int x3), some (.int x4), some (.int x5)] [] Z1 S 0 0 (k8 x1 x2 x3 x4 x5 S)) (x1 x2 x3 x4 x5 : Int32) (S : Mm) : At X E false (mQi X Z1 E) 49 [some (.ref r0), some (.int x1), some (.int x2), some (.int x3), some (.int x4), some (.int x5)] [] Z1 S 0 0 (f_X8_wordAt_49 k8 r0 x1 x2 x3 x4 x5 S) := by
  have F := M0.1
  unfold f_X8_wordAt_49
  refine a_iload F dX8_wordAt_49 rfl ?_
  refine a_iload F dX8_wordAt_51 rfl ?_
  refine a_isub F dX8_wordAt_53 ?_
  refine a_iload_n F dX8_wordAt_54 rfl rfl ?_
  refine a_iload_n F dX8_wordAt_55 rfl rfl ?_
  refine a_isub F dX8_wordAt_56 ?_
  refine a_icmp_ne F 75 dX8_wordAt_57 (by decide) ?_ ?_
  · refine a_aload_n F dX8_wordAt_60 rfl rfl ?_
    refine a_iload F dX8_wordAt_61 rfl ?_
    refine a_iload_n F dX8_wordAt_63 rfl rfl ?_
    refine a_iload_n F dX8_wordAt_64 rfl rfl ?_
    refine a_iload_n F dX8_wordAt_65 rfl rfl ?_
    refine a_isub F dX8_wordAt_66 ?_
    refine a_callVI F (As := [.int x4, .int x1, .int (x2 - x1)]) cfX8 rfl (c_X8_isSame X h0 x4 x1 (x2 - x1) S) mw_X8_isSame ml_X8_90 im_X8_isSame se_X8_isSame M0.2.1 (Nat.le_of_ble_eq_true rfl) ⟨Nat.zero_le _, Nat.zero_le _⟩ rfl rfl (Nat.le_of_ble_eq_true rfl) (ztl_0 h0) (ztk_0 h0) dX8_wordAt_67 rfl (fun q_1 => ?_)
    refine a_if_eq F 75 dX8_wordAt_70 (by decide) ?_ ?_
    · refine a_mask [true, true, true, true, false, true] (L' := [some (.ref r0), some (.int x1), some (.int x2), some (.int x3), none, some (.int x5)]) rfl rfl ?_
      exact b_X8_wordAt_75 M0 h0 hk8 x1 x2 x3 x5 q_1.2
    · refine a_iload_n F dX8_wordAt_73 rfl rfl ?_
      exact a_iret F M0.2.2.1 M0.2.2.2 dX8_wordAt_74
  · refine a_mask [true, true, true, true, false, true] (L' := [some (.ref r0), some (.int x1), some (.int x2), some (.int x3), none, some (.int x5)]) rfl rfl ?_
    exact b_X8_wordAt_75 M0 h0 hk8 x1 x2 x3 x5 S
def f_X8_wordAt_8b (k8 : Int32 → Int32 → Int32 → Int32 → Int32 → Mm → Option (Int32 × Mm)) (r0 : Nat) (x1 x2 x3 x4 x5 : Int32) (S : Mm) : Option (Int32 × Mm) :=
  (f_J0_length_8abf5 (tw r0) S).bind fun q_1 =>
  if q_1.1 < x5 then (
   some ((-1 : Int32), q_1.2)
  ) else (
   (f_J0_length_8abf5 (tw r0) q_1.2).bind fun q_2 =>
   if q_2.1 ≤ x5 then (
    f_X8_wordAt_49 k8 r0 x1 x2 x3 x4 x5 q_2.2
   ) else (
    (f_J0_charAt_5068e (tw r0) x5 q_2.2).bind fun q_3 =>
    if q_3.1 = (32 : Int32) then (
     f_X8_wordAt_49 k8 r0 x1 x2 x3 x4 x5 q_3.2
    ) else (
     f_X8_wordAt_84 k8 r0 x1 x2 x3 x4 x5 q_3.2
    )
   )
  )
set_option maxRecDepth 20000 in
theorem b_X8_wordAt_8b {X : CX} {E : FE} (M0 : MF X E RX8 cX8_wordAt 6 6 (some .int)) {r0 : Nat} (h0 : isTok r0) {k8 : Int32 → Int32 → Int32 → Int32 → Int32 → Mm → Option (Int32 × Mm)} (hk8 : ∀ (x1 x2 x3 x4 x5 : Int32) (S : Mm), At X E false (mQi X Z1 E) 8 [some (.ref r0), some (.int x1), some (.int x2), some (.int x3), some (.int x4), some (.int x5)] [] Z1 S 0 0 (k8 x1 x2 x3 x4 x5 S)) (x1 x2 x3 x4 x5 : Int32) (S : Mm) : At X E false (mQi X Z1 E) 8 [some (.ref r0), some (.int x1), some (.int x2), some (.int x3), some (.int x4), some (.int x5)] [] Z1 S 0 0 (f_X8_wordAt_8b k8 r0 x1 x2 x3 x4 x5 S) := by
  have F := M0.1
  unfold f_X8_wordAt_8b
  refine a_iload F dX8_wordAt_8 rfl ?_
  refine a_aload_n F dX8_wordAt_10 rfl rfl ?_
  refine a_getR (k := 1) F cfX8 dX8_wordAt_11 fl_X8_32 (by decide) fi_8_1 (ztl_0 h0) (ztk_0 h0) (ztr_1 h0) ?_
  refine a_callTI F (As := []) (twl_1 h0) (c_J0_length_8abf5 X (twl_1 h0) S) mw_J0_length_8abf5 ml_X8_83 im_J0_length_8abf5 se_J0_length_8abf5 M0.2.1 (Nat.le_of_ble_eq_true rfl) ⟨Nat.zero_le _, Nat.zero_le _⟩ rfl rfl (Nat.le_of_ble_eq_true rfl) dX8_wordAt_14 rfl (fun q_1 => ?_)
  refine a_icmp_gt F 90 dX8_wordAt_17 (by decide) ?_ ?_
  · refine a_iconst F dX8_wordAt_90 ki_m1 ?_
    exact a_iret F M0.2.2.1 M0.2.2.2 dX8_wordAt_91
  · refine a_iload F dX8_wordAt_20 rfl ?_
    refine a_aload_n F dX8_wordAt_22 rfl rfl ?_
    refine a_getR (k := 1) F cfX8 dX8_wordAt_23 fl_X8_32 (by decide) fi_8_1 (ztl_0 h0) (ztk_0 h0) (ztr_1 h0) ?_
    refine a_callTI F (As := []) (twl_1 h0) (c_J0_length_8abf5 X (twl_1 h0) q_1.2) mw_J0_length_8abf5 ml_X8_83 im_J0_length_8abf5 se_J0_length_8abf5 M0.2.1 (Nat.le_of_ble_eq_true rfl) ⟨Nat.zero_le _, Nat.zero_le _⟩ rfl rfl (Nat.le_of_ble_eq_true rfl) dX8_wordAt_26 rfl (fun q_2 => ?_)
    refine a_icmp_ge F 49 dX8_wordAt_29 (by decide) ?_ ?_
    · exact b_X8_wordAt_49 M0 h0 hk8 x1 x2 x3 x4 x5 q_2.2
    · refine a_aload_n F dX8_wordAt_32 rfl rfl ?_
      refine a_getR (k := 1) F cfX8 dX8_wordAt_33 fl_X8_32 (by decide) fi_8_1 (ztl_0 h0) (ztk_0 h0) (ztr_1 h0) ?_
      refine a_iload F dX8_wordAt_36 rfl ?_
      refine a_callTI F (As := [.int x5]) (twl_1 h0) (c_J0_charAt_5068e X (twl_1 h0) x5 q_2.2) mw_J0_charAt_5068e ml_X8_86 im_J0_charAt_5068e se_J0_charAt_5068e M0.2.1 (Nat.le_of_ble_eq_true rfl) ⟨Nat.zero_le _, Nat.zero_le _⟩ rfl rfl (Nat.le_of_ble_eq_true rfl) dX8_wordAt_38 rfl (fun q_3 => ?_)
      refine a_bipush F dX8_wordAt_41 kb_32 ?_
      refine a_icmp_eq F 49 dX8_wordAt_43 (by decide) ?_ ?_
      · exact b_X8_wordAt_49 M0 h0 hk8 x1 x2 x3 x4 x5 q_3.2
      · refine a_goto F 84 dX8_wordAt_46 (by decide) ?_
        exact b_X8_wordAt_84 M0 h0 hk8 x1 x2 x3 x4 x5 q_3.2
def f_X8_wordAt_8 (r0 : Nat) : Nat → Int32 → Int32 → Int32 → Int32 → Int32 → Mm → Option (Int32 × Mm) :=
  itr (fun _ _ _ _ _ _ => none) (fun k => f_X8_wordAt_8b k r0)
theorem b_X8_wordAt_8 {X : CX} {E : FE} (M0 : MF X E RX8 cX8_wordAt 6 6 (some .int)) {r0 : Nat} (h0 : isTok r0) : ∀ (n : Nat) (x1 x2 x3 x4 x5 : Int32) (S : Mm), At X E false (mQi X Z1 E) 8 [some (.ref r0), some (.int x1), some (.int x2), some (.int x3), some (.int x4), some (.int x5)] [] Z1 S 0 0 (f_X8_wordAt_8 r0 n x1 x2 x3 x4 x5 S) := by
  intro n
  induction n with
  | zero => intros; exact a_none
  | succ n ih => intro x1 x2 x3 x4 x5 S; exact b_X8_wordAt_8b M0 h0 ih x1 x2 x3 x4 x5 S
def f_X8_wordAt (r0 : Nat) (p1 p2 : Int32) (S : Mm) : Option (Int32 × Mm) :=
  f_X8_wordAt_8 r0 FU p1 p2 (0 : Int32) (0 : Int32) (0 : Int32) S
set_option maxRecDepth 20000 in
theorem b_X8_wordAt {X : CX} {E : FE} (M0 : MF X E RX8 cX8_wordAt 6 6 (some .int)) {r0 : Nat} (h0 : isTok r0) (p1 p2 : Int32) (S : Mm) : At X E false (mQi X Z1 E) 0 [some (.ref r0), some (.int p1), some (.int p2), none, none, none] [] Z1 S 0 0 (f_X8_wordAt r0 p1 p2 S) := by
  have F := M0.1
  unfold f_X8_wordAt
  refine a_iconst F dX8_wordAt_0 ki_0 ?_
  refine a_istore_n (L' := [some (.ref r0), some (.int p1), some (.int p2), some (.int (0 : Int32)), none, none]) F dX8_wordAt_1 rfl (lt_b rfl) rfl ?_
  refine a_iconst F dX8_wordAt_2 ki_0 ?_
  refine a_istore (L' := [some (.ref r0), some (.int p1), some (.int p2), some (.int (0 : Int32)), some (.int (0 : Int32)), none]) F dX8_wordAt_3 (lt_b rfl) rfl ?_
  refine a_iconst F dX8_wordAt_5 ki_0 ?_
  refine a_istore (L' := [some (.ref r0), some (.int p1), some (.int p2), some (.int (0 : Int32)), some (.int (0 : Int32)), some (.int (0 : Int32))]) F dX8_wordAt_6 (lt_b rfl) rfl ?_
  exact b_X8_wordAt_8 M0 h0 FU p1 p2 (0 : Int32) (0 : Int32) (0 : Int32) S
theorem c_X8_wordAt (X : CX) {r0 : Nat} (h0 : isTok r0) (p1 p2 : Int32) (S : Mm) : CtI X Z1 yX8_wordAt cX8_wordAt 6 (some .int) 6 [.ref r0, .int p1, .int p2] S (f_X8_wordAt r0 p1 p2 S) :=
  ctI_of (by decide +kernel) rfl (Nat.le_of_ble_eq_true rfl) (by simp [Value.category]) z1len fun E F R hra hlk => b_X8_wordAt ⟨F, R, hra, hlk⟩ h0 p1 p2 S
def f_X8_keep (r0 : Nat) (p1 p2 p3 : Int32) (S : Mm) : Option Mm :=
  if (S r0 6) < (401 : Int32) then (
   gd (inB (S r0 6) 401 = true) <|
   nm (uM S (r0 + 1) (ix (S r0 6)) p1) fun S_1 =>
   gd (inB (S_1 r0 6) 401 = true) <|
   nm (uM S_1 (r0 + 2) (ix (S_1 r0 6)) p2) fun S_2 =>
   gd (inB (S_2 r0 6) 401 = true) <|
   nm (uM S_2 (r0 + 3) (ix (S_2 r0 6)) p3) fun S_3 =>
   nm (uM S_3 r0 6 ((S_3 r0 6) + (1 : Int32))) fun S_4 =>
   some S_4
  ) else (
   some S
  )
set_option maxRecDepth 20000 in
theorem b_X8_keep {X : CX} {E : FE} (M0 : MF X E RX8 cX8_keep 4 1 none) {r0 : Nat} (h0 : isTok r0) (p1 p2 p3 : Int32) (S : Mm) : At X E false (mQv X Z1 E) 0 [some (.ref r0), some (.int p1), some (.int p2), some (.int p3)] [] Z1 S 0 0 (f_X8_keep r0 p1 p2 p3 S) := by
  have F := M0.1
  unfold f_X8_keep
  refine a_aload_n F dX8_keep_0 rfl rfl ?_
  refine a_getI (k := 6) F cfX8 dX8_keep_1 fl_X8_21 (by decide) fi_8_6 (ztl_0 h0) (ztk_0 h0) ?_
  refine a_aload_n F dX8_keep_4 rfl rfl ?_
  refine a_getR (k := 3) F cfX8 dX8_keep_5 fl_X8_9 (by decide) fi_8_3 (ztl_0 h0) (ztk_0 h0) (ztr_3 h0) ?_
  refine a_alen F dX8_keep_8 (ztl_1 h0) (ztk_1 h0) kn_401 ?_
  refine a_icmp_lt F 13 dX8_keep_9 (by decide) ?_ ?_
  · refine a_aload_n F dX8_keep_13 rfl rfl ?_
    refine a_getR (k := 3) F cfX8 dX8_keep_14 fl_X8_9 (by decide) fi_8_3 (ztl_0 h0) (ztk_0 h0) (ztr_3 h0) ?_
    refine a_aload_n F dX8_keep_17 rfl rfl ?_
    refine a_getI (k := 6) F cfX8 dX8_keep_18 fl_X8_21 (by decide) fi_8_6 (ztl_0 h0) (ztk_0 h0) ?_
    refine a_iload_n F dX8_keep_21 rfl rfl ?_
    refine a_gd (a_iast F dX8_keep_22 (ztl_1 h0) (ztk_1 h0) ?_)
    refine a_nmS (fun S_1 => ?_)
    refine a_aload_n F dX8_keep_23 rfl rfl ?_
    refine a_getR (k := 4) F cfX8 dX8_keep_24 fl_X8_15 (by decide) fi_8_4 (ztl_0 h0) (ztk_0 h0) (ztr_4 h0) ?_
    refine a_aload_n F dX8_keep_27 rfl rfl ?_
    refine a_getI (k := 6) F cfX8 dX8_keep_28 fl_X8_21 (by decide) fi_8_6 (ztl_0 h0) (ztk_0 h0) ?_
    refine a_iload_n F dX8_keep_31 rfl rfl ?_
    refine a_gd (a_iast F dX8_keep_32 (ztl_2 h0) (ztk_2 h0) ?_)
    refine a_nmS (fun S_2 => ?_)
    refine a_aload_n F dX8_keep_33 rfl rfl ?_
    refine a_getR (k := 5) F cfX8 dX8_keep_34 fl_X8_18 (by decide) fi_8_5 (ztl_0 h0) (ztk_0 h0) (ztr_5 h0) ?_
    refine a_aload_n F dX8_keep_37 rfl rfl ?_
    refine a_getI (k := 6) F cfX8 dX8_keep_38 fl_X8_21 (by decide) fi_8_6 (ztl_0 h0) (ztk_0 h0) ?_
    refine a_iload_n F dX8_keep_41 rfl rfl ?_
    refine a_gd (a_iast F dX8_keep_42 (ztl_3 h0) (ztk_3 h0) ?_)
    refine a_nmS (fun S_3 => ?_)
    refine a_aload_n F dX8_keep_43 rfl rfl ?_
    refine a_dup F dX8_keep_44 rfl ?_
    refine a_getI (k := 6) F cfX8 dX8_keep_45 fl_X8_21 (by decide) fi_8_6 (ztl_0 h0) (ztk_0 h0) ?_
    refine a_iconst F dX8_keep_48 ki_1 ?_
    refine a_iadd F dX8_keep_49 ?_
    refine a_putI (k := 6) F cfX8 dX8_keep_50 fl_X8_21 (by decide) fi_8_6 rfl rfl (ztl_0 h0) (ztk_0 h0) ?_
    refine a_nmS (fun S_4 => ?_)
    exact a_vret F M0.2.2.1 M0.2.2.2 dX8_keep_53
  · exact a_vret F M0.2.2.1 M0.2.2.2 dX8_keep_12
theorem c_X8_keep (X : CX) {r0 : Nat} (h0 : isTok r0) (p1 p2 p3 : Int32) (S : Mm) : CtV X Z1 yX8_keep cX8_keep 4 1 [.ref r0, .int p1, .int p2, .int p3] S (f_X8_keep r0 p1 p2 p3 S) :=
  ctV_of (by decide +kernel) rfl (Nat.le_of_ble_eq_true rfl) (by simp [Value.category]) z1len fun E F R hra hlk => b_X8_keep ⟨F, R, hra, hlk⟩ h0 p1 p2 p3 S
def f_X8_cutWord_52 (r0 : Nat) (x1 x2 x3 t1 : Int32) (S : Mm) : Option (Int32 × Mm) :=
  (f_X8_keep r0 t1 x3 x1 S).bind fun S_1 =>
  some (x2, S_1)
set_option maxRecDepth 20000 in
theorem b_X8_cutWord_52 {X : CX} {E : FE} (M0 : MF X E RX8 cX8_cutWord 4 7 (some .int)) {r0 : Nat} (h0 : isTok r0) (x1 x2 x3 t1 : Int32) (S : Mm) : At X E false (mQi X Z1 E) 52 [none, some (.int x1), some (.int x2), some (.int x3)] [.int t1, .ref r0] Z1 S 0 0 (f_X8_cutWord_52 r0 x1 x2 x3 t1 S) := by
  have F := M0.1
  unfold f_X8_cutWord_52
  refine a_iload_n F dX8_cutWord_52 rfl rfl ?_
  refine a_iload_n F dX8_cutWord_53 rfl rfl ?_
  refine a_callVV F (As := [.int t1, .int x3, .int x1]) cfX8 rfl (c_X8_keep X h0 t1 x3 x1 S) mw_X8_keep ml_X8_55 im_X8_keep se_X8_keep M0.2.1 (Nat.le_of_ble_eq_true rfl) ⟨Nat.zero_le _, Nat.zero_le _⟩ rfl rfl (Nat.le_of_ble_eq_true rfl) (ztl_0 h0) (ztk_0 h0) dX8_cutWord_54 rfl (fun S_1 => ?_)
  refine a_iload_n F dX8_cutWord_57 rfl rfl ?_
  exact a_iret F M0.2.2.1 M0.2.2.2 dX8_cutWord_58
def f_X8_cutWord_34 (r0 : Nat) (x1 x2 : Int32) (S : Mm) : Option (Int32 × Mm) :=
  (f_X8_wordAt r0 x1 x2 S).bind fun q_1 =>
  if q_1.1 = (-1 : Int32) then (
   f_X8_cutWord_52 r0 x1 x2 q_1.1 (4 : Int32) q_1.2
  ) else (
   f_X8_cutWord_52 r0 x1 x2 q_1.1 (1 : Int32) q_1.2
  )
set_option maxRecDepth 20000 in
theorem b_X8_cutWord_34 {X : CX} {E : FE} (M0 : MF X E RX8 cX8_cutWord 4 7 (some .int)) {r0 : Nat} (h0 : isTok r0) (x1 x2 : Int32) (S : Mm) : At X E false (mQi X Z1 E) 34 [some (.ref r0), some (.int x1), some (.int x2), none] [] Z1 S 0 0 (f_X8_cutWord_34 r0 x1 x2 S) := by
  have F := M0.1
  unfold f_X8_cutWord_34
  refine a_aload_n F dX8_cutWord_34 rfl rfl ?_
  refine a_iload_n F dX8_cutWord_35 rfl rfl ?_
  refine a_iload_n F dX8_cutWord_36 rfl rfl ?_
  refine a_callVI F (As := [.int x1, .int x2]) cfX8 rfl (c_X8_wordAt X h0 x1 x2 S) mw_X8_wordAt ml_X8_79 im_X8_wordAt se_X8_wordAt M0.2.1 (Nat.le_of_ble_eq_true rfl) ⟨Nat.zero_le _, Nat.zero_le _⟩ rfl rfl (Nat.le_of_ble_eq_true rfl) (ztl_0 h0) (ztk_0 h0) dX8_cutWord_37 rfl (fun q_1 => ?_)
  refine a_istore_n (L' := [some (.ref r0), some (.int x1), some (.int x2), some (.int q_1.1)]) F dX8_cutWord_40 rfl (lt_b rfl) rfl ?_
  refine a_aload_n F dX8_cutWord_41 rfl rfl ?_
  refine a_iload_n F dX8_cutWord_42 rfl rfl ?_
  refine a_iconst F dX8_cutWord_43 ki_m1 ?_
  refine a_icmp_ne F 51 dX8_cutWord_44 (by decide) ?_ ?_
  · refine a_iconst F dX8_cutWord_47 ki_4 ?_
    refine a_goto F 52 dX8_cutWord_48 (by decide) ?_
    refine a_mask [false, true, true, true] (L' := [none, some (.int x1), some (.int x2), some (.int q_1.1)]) rfl rfl ?_
    exact b_X8_cutWord_52 M0 h0 x1 x2 q_1.1 (4 : Int32) q_1.2
  · refine a_iconst F dX8_cutWord_51 ki_1 ?_
    refine a_mask [false, true, true, true] (L' := [none, some (.int x1), some (.int x2), some (.int q_1.1)]) rfl rfl ?_
    exact b_X8_cutWord_52 M0 h0 x1 x2 q_1.1 (1 : Int32) q_1.2
def f_X8_cutWord_2b (k2 : Int32 → Int32 → Mm → Option (Int32 × Mm)) (r0 : Nat) (x1 x2 : Int32) (S : Mm) : Option (Int32 × Mm) :=
  if (S 184 1) ≤ x2 then (
   f_X8_cutWord_34 r0 x1 x2 S
  ) else (
   gd (inB x2 400 = true) <|
   (f_X8_isOfWord (S 185 (ix x2)) S).bind fun q_1 =>
   if q_1.1 = 0 then (
    f_X8_cutWord_34 r0 x1 x2 q_1.2
   ) else (
    nm (x2 + (1 : Int32)) fun x2_2 =>
    k2 x1 x2_2 q_1.2
   )
  )
set_option maxRecDepth 20000 in
theorem b_X8_cutWord_2b {X : CX} {E : FE} (M0 : MF X E RX8 cX8_cutWord 4 7 (some .int)) {r0 : Nat} (h0 : isTok r0) {k2 : Int32 → Int32 → Mm → Option (Int32 × Mm)} (hk2 : ∀ (x1 x2 : Int32) (S : Mm), At X E false (mQi X Z1 E) 2 [some (.ref r0), some (.int x1), some (.int x2), none] [] Z1 S 0 0 (k2 x1 x2 S)) (x1 x2 : Int32) (S : Mm) : At X E false (mQi X Z1 E) 2 [some (.ref r0), some (.int x1), some (.int x2), none] [] Z1 S 0 0 (f_X8_cutWord_2b k2 r0 x1 x2 S) := by
  have F := M0.1
  unfold f_X8_cutWord_2b
  refine a_iload_n F dX8_cutWord_2 rfl rfl ?_
  refine a_aload_n F dX8_cutWord_3 rfl rfl ?_
  refine a_getR (k := 0) F cfX8 dX8_cutWord_4 fl_X8_28 (by decide) fi_8_0 (ztl_0 h0) (ztk_0 h0) (ztr_0 h0) ?_
  refine a_getI (k := 1) F cfX5 dX8_cutWord_7 fl_X8_39 (by decide) fi_5_1 zl_184 zk_184 ?_
  refine a_icmp_ge F 34 dX8_cutWord_10 (by decide) ?_ ?_
  · exact b_X8_cutWord_34 M0 h0 x1 x2 S
  · refine a_aload_n F dX8_cutWord_13 rfl rfl ?_
    refine a_getR (k := 0) F cfX8 dX8_cutWord_14 fl_X8_28 (by decide) fi_8_0 (ztl_0 h0) (ztk_0 h0) (ztr_0 h0) ?_
    refine a_getR (k := 0) F cfX5 dX8_cutWord_17 fl_X8_44 (by decide) fi_5_0 zl_184 zk_184 zr_184_0 ?_
    refine a_iload_n F dX8_cutWord_20 rfl rfl ?_
    refine a_gd (a_iald F dX8_cutWord_21 zl_185 zk_185 ?_)
    refine a_callSI F (As := [.int (S 185 (ix x2))]) (c_X8_isOfWord X (S 185 (ix x2)) S) mw_X8_isOfWord ml_X8_59 st_X8_isOfWord M0.2.1 (Nat.le_of_ble_eq_true rfl) ⟨Nat.zero_le _, Nat.zero_le _⟩ rfl rfl (Nat.le_of_ble_eq_true rfl) dX8_cutWord_22 rfl (fun q_1 => ?_)
    refine a_if_eq F 34 dX8_cutWord_25 (by decide) ?_ ?_
    · exact b_X8_cutWord_34 M0 h0 x1 x2 q_1.2
    · refine a_iincN (L' := fun x2_2 => [some (.ref r0), some (.int x1), some (.int x2_2), none]) F dX8_cutWord_28 rfl ki_1 (lt_b rfl) (fun _ => rfl) (fun x2_2 => ?_)
      refine a_goto F 2 dX8_cutWord_31 (by decide) ?_
      exact hk2 x1 x2_2 q_1.2
def f_X8_cutWord_2 (r0 : Nat) : Nat → Int32 → Int32 → Mm → Option (Int32 × Mm) :=
  itr (fun _ _ _ => none) (fun k => f_X8_cutWord_2b k r0)
theorem b_X8_cutWord_2 {X : CX} {E : FE} (M0 : MF X E RX8 cX8_cutWord 4 7 (some .int)) {r0 : Nat} (h0 : isTok r0) : ∀ (n : Nat) (x1 x2 : Int32) (S : Mm), At X E false (mQi X Z1 E) 2 [some (.ref r0), some (.int x1), some (.int x2), none] [] Z1 S 0 0 (f_X8_cutWord_2 r0 n x1 x2 S) := by
  intro n
  induction n with
  | zero => intros; exact a_none
  | succ n ih => intro x1 x2 S; exact b_X8_cutWord_2b M0 h0 ih x1 x2 S
def f_X8_cutWord (r0 : Nat) (p1 : Int32) (S : Mm) : Option (Int32 × Mm) :=
  f_X8_cutWord_2 r0 FU p1 p1 S
set_option maxRecDepth 20000 in
theorem b_X8_cutWord {X : CX} {E : FE} (M0 : MF X E RX8 cX8_cutWord 4 7 (some .int)) {r0 : Nat} (h0 : isTok r0) (p1 : Int32) (S : Mm) : At X E false (mQi X Z1 E) 0 [some (.ref r0), some (.int p1), none, none] [] Z1 S 0 0 (f_X8_cutWord r0 p1 S) := by
  have F := M0.1
  unfold f_X8_cutWord
  refine a_iload_n F dX8_cutWord_0 rfl rfl ?_
  refine a_istore_n (L' := [some (.ref r0), some (.int p1), some (.int p1), none]) F dX8_cutWord_1 rfl (lt_b rfl) rfl ?_
  exact b_X8_cutWord_2 M0 h0 FU p1 p1 S
theorem c_X8_cutWord (X : CX) {r0 : Nat} (h0 : isTok r0) (p1 : Int32) (S : Mm) : CtI X Z1 yX8_cutWord cX8_cutWord 4 (some .int) 7 [.ref r0, .int p1] S (f_X8_cutWord r0 p1 S) :=
  ctI_of (by decide +kernel) rfl (Nat.le_of_ble_eq_true rfl) (by simp [Value.category]) z1len fun E F R hra hlk => b_X8_cutWord ⟨F, R, hra, hlk⟩ h0 p1 S
def f_X8_isDigit_16 (S : Mm) : Option (Int32 × Mm) :=
  some ((0 : Int32), S)
set_option maxRecDepth 20000 in
theorem b_X8_isDigit_16 {X : CX} {E : FE} (M0 : MF X E RX8 cX8_isDigit 1 1 (some .boolean)) (S : Mm) : At X E false (mQi X Z1 E) 16 [none] [] Z1 S 0 0 (f_X8_isDigit_16 S) := by
  have F := M0.1
  unfold f_X8_isDigit_16
  refine a_iconst F dX8_isDigit_16 ki_0 ?_
  exact a_zretK F M0.2.2.1 M0.2.2.2 dX8_isDigit_17 (Or.inl rfl)
def f_X8_isDigit (p0 : Int32) (S : Mm) : Option (Int32 × Mm) :=
  if p0 < (48 : Int32) then (
   f_X8_isDigit_16 S
  ) else (
   if (57 : Int32) < p0 then (
    f_X8_isDigit_16 S
   ) else (
    some ((1 : Int32), S)
   )
  )
set_option maxRecDepth 20000 in
theorem b_X8_isDigit {X : CX} {E : FE} (M0 : MF X E RX8 cX8_isDigit 1 1 (some .boolean)) (p0 : Int32) (S : Mm) : At X E false (mQi X Z1 E) 0 [some (.int p0)] [] Z1 S 0 0 (f_X8_isDigit p0 S) := by
  have F := M0.1
  unfold f_X8_isDigit
  refine a_iload_n F dX8_isDigit_0 rfl rfl ?_
  refine a_bipush F dX8_isDigit_1 kb_48 ?_
  refine a_icmp_lt F 16 dX8_isDigit_3 (by decide) ?_ ?_
  · refine a_mask [false] (L' := [none]) rfl rfl ?_
    exact b_X8_isDigit_16 M0 S
  · refine a_iload_n F dX8_isDigit_6 rfl rfl ?_
    refine a_bipush F dX8_isDigit_7 kb_57 ?_
    refine a_icmp_gt F 16 dX8_isDigit_9 (by decide) ?_ ?_
    · refine a_mask [false] (L' := [none]) rfl rfl ?_
      exact b_X8_isDigit_16 M0 S
    · refine a_iconst F dX8_isDigit_12 ki_1 ?_
      refine a_goto F 17 dX8_isDigit_13 (by decide) ?_
      exact a_zretK F M0.2.2.1 M0.2.2.2 dX8_isDigit_17 (Or.inr rfl)
theorem c_X8_isDigit (X : CX) (p0 : Int32) (S : Mm) : CtI X Z1 yX8_isDigit cX8_isDigit 1 (some .boolean) 1 [.int p0] S (f_X8_isDigit p0 S) :=
  ctI_of (by decide +kernel) rfl (Nat.le_of_ble_eq_true rfl) (by simp [Value.category]) z1len fun E F R hra hlk => b_X8_isDigit ⟨F, R, hra, hlk⟩ p0 S
def f_X8_cutNumber_74 (r0 : Nat) (x1 x2 x3 t1 : Int32) (S : Mm) : Option (Int32 × Mm) :=
  (f_X8_keep r0 t1 x3 x1 S).bind fun S_1 =>
  some (x2, S_1)
set_option maxRecDepth 20000 in
theorem b_X8_cutNumber_74 {X : CX} {E : FE} (M0 : MF X E RX8 cX8_cutNumber 4 2 (some .int)) {r0 : Nat} (h0 : isTok r0) (x1 x2 x3 t1 : Int32) (S : Mm) : At X E false (mQi X Z1 E) 74 [none, some (.int x1), some (.int x2), some (.int x3)] [.int t1, .ref r0] Z1 S 0 0 (f_X8_cutNumber_74 r0 x1 x2 x3 t1 S) := by
  have F := M0.1
  unfold f_X8_cutNumber_74
  refine a_iload_n F dX8_cutNumber_74 rfl rfl ?_
  refine a_iload_n F dX8_cutNumber_75 rfl rfl ?_
  refine a_callVV F (As := [.int t1, .int x3, .int x1]) cfX8 rfl (c_X8_keep X h0 t1 x3 x1 S) mw_X8_keep ml_X8_55 im_X8_keep se_X8_keep M0.2.1 (Nat.le_of_ble_eq_true rfl) ⟨Nat.zero_le _, Nat.zero_le _⟩ rfl rfl (Nat.le_of_ble_eq_true rfl) (ztl_0 h0) (ztk_0 h0) dX8_cutNumber_76 rfl (fun S_1 => ?_)
  refine a_iload_n F dX8_cutNumber_79 rfl rfl ?_
  exact a_iret F M0.2.2.1 M0.2.2.2 dX8_cutNumber_80
def f_X8_cutNumber_61 (r0 : Nat) (x1 x2 x3 : Int32) (S : Mm) : Option (Int32 × Mm) :=
  if (x2 - x1) ≤ (4 : Int32) then (
   f_X8_cutNumber_74 r0 x1 x2 x3 (2 : Int32) S
  ) else (
   f_X8_cutNumber_74 r0 x1 x2 x3 (4 : Int32) S
  )
set_option maxRecDepth 20000 in
theorem b_X8_cutNumber_61 {X : CX} {E : FE} (M0 : MF X E RX8 cX8_cutNumber 4 2 (some .int)) {r0 : Nat} (h0 : isTok r0) (x1 x2 x3 : Int32) (S : Mm) : At X E false (mQi X Z1 E) 61 [some (.ref r0), some (.int x1), some (.int x2), some (.int x3)] [] Z1 S 0 0 (f_X8_cutNumber_61 r0 x1 x2 x3 S) := by
  have F := M0.1
  unfold f_X8_cutNumber_61
  refine a_aload_n F dX8_cutNumber_61 rfl rfl ?_
  refine a_iload_n F dX8_cutNumber_62 rfl rfl ?_
  refine a_iload_n F dX8_cutNumber_63 rfl rfl ?_
  refine a_isub F dX8_cutNumber_64 ?_
  refine a_iconst F dX8_cutNumber_65 ki_4 ?_
  refine a_icmp_le F 73 dX8_cutNumber_66 (by decide) ?_ ?_
  · refine a_iconst F dX8_cutNumber_73 ki_2 ?_
    refine a_mask [false, true, true, true] (L' := [none, some (.int x1), some (.int x2), some (.int x3)]) rfl rfl ?_
    exact b_X8_cutNumber_74 M0 h0 x1 x2 x3 (2 : Int32) S
  · refine a_iconst F dX8_cutNumber_69 ki_4 ?_
    refine a_goto F 74 dX8_cutNumber_70 (by decide) ?_
    refine a_mask [false, true, true, true] (L' := [none, some (.int x1), some (.int x2), some (.int x3)]) rfl rfl ?_
    exact b_X8_cutNumber_74 M0 h0 x1 x2 x3 (4 : Int32) S
def f_X8_cutNumber_55 (k4 : Int32 → Int32 → Int32 → Mm → Option (Int32 × Mm)) (r0 : Nat) (x1 x2 x3 : Int32) (S : Mm) : Option (Int32 × Mm) :=
  nm (x2 + (1 : Int32)) fun x2_1 =>
  k4 x1 x2_1 x3 S
set_option maxRecDepth 20000 in
theorem b_X8_cutNumber_55 {X : CX} {E : FE} (M0 : MF X E RX8 cX8_cutNumber 4 2 (some .int)) {r0 : Nat} (h0 : isTok r0) {k4 : Int32 → Int32 → Int32 → Mm → Option (Int32 × Mm)} (hk4 : ∀ (x1 x2 x3 : Int32) (S : Mm), At X E false (mQi X Z1 E) 4 [some (.ref r0), some (.int x1), some (.int x2), some (.int x3)] [] Z1 S 0 0 (k4 x1 x2 x3 S)) (x1 x2 x3 : Int32) (S : Mm) : At X E false (mQi X Z1 E) 55 [some (.ref r0), some (.int x1), some (.int x2), some (.int x3)] [] Z1 S 0 0 (f_X8_cutNumber_55 k4 r0 x1 x2 x3 S) := by
  have F := M0.1
  unfold f_X8_cutNumber_55
  refine a_iincN (L' := fun x2_1 => [some (.ref r0), some (.int x1), some (.int x2_1), some (.int x3)]) F dX8_cutNumber_55 rfl ki_1 (lt_b rfl) (fun _ => rfl) (fun x2_1 => ?_)
  refine a_goto F 4 dX8_cutNumber_58 (by decide) ?_
  exact hk4 x1 x2_1 x3 S
def f_X8_cutNumber_4b (k4 : Int32 → Int32 → Int32 → Mm → Option (Int32 × Mm)) (r0 : Nat) (x1 x2 x3 : Int32) (S : Mm) : Option (Int32 × Mm) :=
  if (S 184 1) ≤ x2 then (
   f_X8_cutNumber_61 r0 x1 x2 x3 S
  ) else (
   gd (inB x2 400 = true) <|
   (f_X8_isDigit (S 185 (ix x2)) S).bind fun q_1 =>
   if q_1.1 = 0 then (
    f_X8_cutNumber_61 r0 x1 x2 x3 q_1.2
   ) else (
    if (4 : Int32) ≤ (x2 - x1) then (
     f_X8_cutNumber_55 k4 r0 x1 x2 x3 q_1.2
    ) else (
     gd (inB x2 400 = true) <|
     nm ((((x3 * (10 : Int32)) + (q_1.2 185 (ix x2))) - (48 : Int32))) fun x3_2 =>
     f_X8_cutNumber_55 k4 r0 x1 x2 x3_2 q_1.2
    )
   )
  )
set_option maxRecDepth 20000 in
theorem b_X8_cutNumber_4b {X : CX} {E : FE} (M0 : MF X E RX8 cX8_cutNumber 4 2 (some .int)) {r0 : Nat} (h0 : isTok r0) {k4 : Int32 → Int32 → Int32 → Mm → Option (Int32 × Mm)} (hk4 : ∀ (x1 x2 x3 : Int32) (S : Mm), At X E false (mQi X Z1 E) 4 [some (.ref r0), some (.int x1), some (.int x2), some (.int x3)] [] Z1 S 0 0 (k4 x1 x2 x3 S)) (x1 x2 x3 : Int32) (S : Mm) : At X E false (mQi X Z1 E) 4 [some (.ref r0), some (.int x1), some (.int x2), some (.int x3)] [] Z1 S 0 0 (f_X8_cutNumber_4b k4 r0 x1 x2 x3 S) := by
  have F := M0.1
  unfold f_X8_cutNumber_4b
  refine a_iload_n F dX8_cutNumber_4 rfl rfl ?_
  refine a_aload_n F dX8_cutNumber_5 rfl rfl ?_
  refine a_getR (k := 0) F cfX8 dX8_cutNumber_6 fl_X8_28 (by decide) fi_8_0 (ztl_0 h0) (ztk_0 h0) (ztr_0 h0) ?_
  refine a_getI (k := 1) F cfX5 dX8_cutNumber_9 fl_X8_39 (by decide) fi_5_1 zl_184 zk_184 ?_
  refine a_icmp_ge F 61 dX8_cutNumber_12 (by decide) ?_ ?_
  · exact b_X8_cutNumber_61 M0 h0 x1 x2 x3 S
  · refine a_aload_n F dX8_cutNumber_15 rfl rfl ?_
    refine a_getR (k := 0) F cfX8 dX8_cutNumber_16 fl_X8_28 (by decide) fi_8_0 (ztl_0 h0) (ztk_0 h0) (ztr_0 h0) ?_
    refine a_getR (k := 0) F cfX5 dX8_cutNumber_19 fl_X8_44 (by decide) fi_5_0 zl_184 zk_184 zr_184_0 ?_
    refine a_iload_n F dX8_cutNumber_22 rfl rfl ?_
    refine a_gd (a_iald F dX8_cutNumber_23 zl_185 zk_185 ?_)
    refine a_callSI F (As := [.int (S 185 (ix x2))]) (c_X8_isDigit X (S 185 (ix x2)) S) mw_X8_isDigit ml_X8_65 st_X8_isDigit M0.2.1 (Nat.le_of_ble_eq_true rfl) ⟨Nat.zero_le _, Nat.zero_le _⟩ rfl rfl (Nat.le_of_ble_eq_true rfl) dX8_cutNumber_24 rfl (fun q_1 => ?_)
    refine a_if_eq F 61 dX8_cutNumber_27 (by decide) ?_ ?_
    · exact b_X8_cutNumber_61 M0 h0 x1 x2 x3 q_1.2
    · refine a_iload_n F dX8_cutNumber_30 rfl rfl ?_
      refine a_iload_n F dX8_cutNumber_31 rfl rfl ?_
      refine a_isub F dX8_cutNumber_32 ?_
      refine a_iconst F dX8_cutNumber_33 ki_4 ?_
      refine a_icmp_ge F 55 dX8_cutNumber_34 (by decide) ?_ ?_
      · exact b_X8_cutNumber_55 M0 h0 hk4 x1 x2 x3 q_1.2
      · refine a_iload_n F dX8_cutNumber_37 rfl rfl ?_
        refine a_bipush F dX8_cutNumber_38 kb_10 ?_
        refine a_imul F dX8_cutNumber_40 ?_
        refine a_aload_n F dX8_cutNumber_41 rfl rfl ?_
        refine a_getR (k := 0) F cfX8 dX8_cutNumber_42 fl_X8_28 (by decide) fi_8_0 (ztl_0 h0) (ztk_0 h0) (ztr_0 h0) ?_
        refine a_getR (k := 0) F cfX5 dX8_cutNumber_45 fl_X8_44 (by decide) fi_5_0 zl_184 zk_184 zr_184_0 ?_
        refine a_iload_n F dX8_cutNumber_48 rfl rfl ?_
        refine a_gd (a_iald F dX8_cutNumber_49 zl_185 zk_185 ?_)
        refine a_iadd F dX8_cutNumber_50 ?_
        refine a_bipush F dX8_cutNumber_51 kb_48 ?_
        refine a_isub F dX8_cutNumber_53 ?_
        refine a_istore_nN (L' := fun x3_2 => [some (.ref r0), some (.int x1), some (.int x2), some (.int x3_2)]) F dX8_cutNumber_54 rfl (lt_b rfl) (fun _ => rfl) (fun x3_2 => ?_)
        exact b_X8_cutNumber_55 M0 h0 hk4 x1 x2 x3_2 q_1.2
def f_X8_cutNumber_4 (r0 : Nat) : Nat → Int32 → Int32 → Int32 → Mm → Option (Int32 × Mm) :=
  itr (fun _ _ _ _ => none) (fun k => f_X8_cutNumber_4b k r0)
theorem b_X8_cutNumber_4 {X : CX} {E : FE} (M0 : MF X E RX8 cX8_cutNumber 4 2 (some .int)) {r0 : Nat} (h0 : isTok r0) : ∀ (n : Nat) (x1 x2 x3 : Int32) (S : Mm), At X E false (mQi X Z1 E) 4 [some (.ref r0), some (.int x1), some (.int x2), some (.int x3)] [] Z1 S 0 0 (f_X8_cutNumber_4 r0 n x1 x2 x3 S) := by
  intro n
  induction n with
  | zero => intros; exact a_none
  | succ n ih => intro x1 x2 x3 S; exact b_X8_cutNumber_4b M0 h0 ih x1 x2 x3 S
def f_X8_cutNumber (r0 : Nat) (p1 : Int32) (S : Mm) : Option (Int32 × Mm) :=
  f_X8_cutNumber_4 r0 FU p1 p1 (0 : Int32) S
set_option maxRecDepth 20000 in
theorem b_X8_cutNumber {X : CX} {E : FE} (M0 : MF X E RX8 cX8_cutNumber 4 2 (some .int)) {r0 : Nat} (h0 : isTok r0) (p1 : Int32) (S : Mm) : At X E false (mQi X Z1 E) 0 [some (.ref r0), some (.int p1), none, none] [] Z1 S 0 0 (f_X8_cutNumber r0 p1 S) := by
  have F := M0.1
  unfold f_X8_cutNumber
  refine a_iload_n F dX8_cutNumber_0 rfl rfl ?_
  refine a_istore_n (L' := [some (.ref r0), some (.int p1), some (.int p1), none]) F dX8_cutNumber_1 rfl (lt_b rfl) rfl ?_
  refine a_iconst F dX8_cutNumber_2 ki_0 ?_
  refine a_istore_n (L' := [some (.ref r0), some (.int p1), some (.int p1), some (.int (0 : Int32))]) F dX8_cutNumber_3 rfl (lt_b rfl) rfl ?_
  exact b_X8_cutNumber_4 M0 h0 FU p1 p1 (0 : Int32) S
theorem c_X8_cutNumber (X : CX) {r0 : Nat} (h0 : isTok r0) (p1 : Int32) (S : Mm) : CtI X Z1 yX8_cutNumber cX8_cutNumber 4 (some .int) 2 [.ref r0, .int p1] S (f_X8_cutNumber r0 p1 S) :=
  ctI_of (by decide +kernel) rfl (Nat.le_of_ble_eq_true rfl) (by simp [Value.category]) z1len fun E F R hra hlk => b_X8_cutNumber ⟨F, R, hra, hlk⟩ h0 p1 S
def f_J1_canEncode_9a6ad_15 (S : Mm) : Option (Int32 × Mm) :=
  some ((0 : Int32), S)
set_option maxRecDepth 20000 in
theorem b_J1_canEncode_9a6ad_15 {X : CX} {E : FE} (M0 : MF X E RJ1 cJ1_canEncode_9a6ad 1 1 (some .boolean)) (S : Mm) : At X E false (mQi X Z1 E) 15 [none] [] Z1 S 0 0 (f_J1_canEncode_9a6ad_15 S) := by
  have F := M0.1
  unfold f_J1_canEncode_9a6ad_15
  refine a_iconst F dJ1_canEncode_9a6ad_15 ki_0 ?_
  exact a_zretK F M0.2.2.1 M0.2.2.2 dJ1_canEncode_9a6ad_16 (Or.inl rfl)
def f_J1_canEncode_9a6ad (p0 : Int32) (S : Mm) : Option (Int32 × Mm) :=
  if p0 < 0 then (
   f_J1_canEncode_9a6ad_15 S
  ) else (
   if (255 : Int32) < p0 then (
    f_J1_canEncode_9a6ad_15 S
   ) else (
    some ((1 : Int32), S)
   )
  )
set_option maxRecDepth 20000 in
theorem b_J1_canEncode_9a6ad {X : CX} {E : FE} (M0 : MF X E RJ1 cJ1_canEncode_9a6ad 1 1 (some .boolean)) (p0 : Int32) (S : Mm) : At X E false (mQi X Z1 E) 0 [some (.int p0)] [] Z1 S 0 0 (f_J1_canEncode_9a6ad p0 S) := by
  have F := M0.1
  unfold f_J1_canEncode_9a6ad
  refine a_iload_n F dJ1_canEncode_9a6ad_0 rfl rfl ?_
  refine a_if_lt F 15 dJ1_canEncode_9a6ad_1 (by decide) ?_ ?_
  · refine a_mask [false] (L' := [none]) rfl rfl ?_
    exact b_J1_canEncode_9a6ad_15 M0 S
  · refine a_iload_n F dJ1_canEncode_9a6ad_4 rfl rfl ?_
    refine a_sipush F dJ1_canEncode_9a6ad_5 ks_255 ?_
    refine a_icmp_gt F 15 dJ1_canEncode_9a6ad_8 (by decide) ?_ ?_
    · refine a_mask [false] (L' := [none]) rfl rfl ?_
      exact b_J1_canEncode_9a6ad_15 M0 S
    · refine a_iconst F dJ1_canEncode_9a6ad_11 ki_1 ?_
      refine a_goto F 16 dJ1_canEncode_9a6ad_12 (by decide) ?_
      exact a_zretK F M0.2.2.1 M0.2.2.2 dJ1_canEncode_9a6ad_16 (Or.inr rfl)
theorem c_J1_canEncode_9a6ad (X : CX) (p0 : Int32) (S : Mm) : CtI X Z1 yJ1_canEncode_9a6ad cJ1_canEncode_9a6ad 1 (some .boolean) 1 [.int p0] S (f_J1_canEncode_9a6ad p0 S) :=
  ctI_of (by decide +kernel) rfl (Nat.le_of_ble_eq_true rfl) (by simp [Value.category]) z1len fun E F R hra hlk => b_J1_canEncode_9a6ad ⟨F, R, hra, hlk⟩ p0 S
def f_J1_indexOfChar_4cfef_7b (k7 : Int32 → Int32 → Int32 → Mm → Option (Int32 × Mm)) (r0 : Nat) (x3 x4 x5 : Int32) (S : Mm) : Option (Int32 × Mm) :=
  if x3 ≤ x5 then (
   some ((-1 : Int32), S)
  ) else (
   gd (inB x5 (sxL.getD r0 0) = true) <|
   if ((sxB.getD r0 []).getD (ix x5) 0) = x4 then (
    some (x5, S)
   ) else (
    nm (x5 + (1 : Int32)) fun x5_1 =>
    k7 x3 x4 x5_1 S
   )
  )
set_option maxRecDepth 20000 in
theorem b_J1_indexOfChar_4cfef_7b {X : CX} {E : FE} (M0 : MF X E RJ1 cJ1_indexOfChar_4cfef 6 1 (some .int)) {r0 : Nat} (h0 : r0 < 4) {k7 : Int32 → Int32 → Int32 → Mm → Option (Int32 × Mm)} (hk7 : ∀ (x3 x4 x5 : Int32) (S : Mm), At X E false (mQi X Z1 E) 7 [some (.ref (2097152 + r0)), none, none, some (.int x3), some (.int x4), some (.int x5)] [] Z1 S 0 0 (k7 x3 x4 x5 S)) (x3 x4 x5 : Int32) (S : Mm) : At X E false (mQi X Z1 E) 7 [some (.ref (2097152 + r0)), none, none, some (.int x3), some (.int x4), some (.int x5)] [] Z1 S 0 0 (f_J1_indexOfChar_4cfef_7b k7 r0 x3 x4 x5 S) := by
  have F := M0.1
  unfold f_J1_indexOfChar_4cfef_7b
  refine a_iload F dJ1_indexOfChar_4cfef_7 rfl ?_
  refine a_iload_n F dJ1_indexOfChar_4cfef_9 rfl rfl ?_
  refine a_icmp_ge F 31 dJ1_indexOfChar_4cfef_10 (by decide) ?_ ?_
  · refine a_iconst F dJ1_indexOfChar_4cfef_31 ki_m1 ?_
    exact a_iret F M0.2.2.1 M0.2.2.2 dJ1_indexOfChar_4cfef_32
  · refine a_aload_n F dJ1_indexOfChar_4cfef_13 rfl rfl ?_
    refine a_iload F dJ1_indexOfChar_4cfef_14 rfl ?_
    refine a_gd (a_sBld F h0 dJ1_indexOfChar_4cfef_16 ?_)
    refine a_iload F dJ1_indexOfChar_4cfef_17 rfl ?_
    refine a_icmp_ne F 25 dJ1_indexOfChar_4cfef_19 (by decide) ?_ ?_
    · refine a_iload F dJ1_indexOfChar_4cfef_22 rfl ?_
      exact a_iret F M0.2.2.1 M0.2.2.2 dJ1_indexOfChar_4cfef_24
    · refine a_iincN (L' := fun x5_1 => [some (.ref (2097152 + r0)), none, none, some (.int x3), some (.int x4), some (.int x5_1)]) F dJ1_indexOfChar_4cfef_25 rfl ki_1 (lt_b rfl) (fun _ => rfl) (fun x5_1 => ?_)
      refine a_goto F 7 dJ1_indexOfChar_4cfef_28 (by decide) ?_
      exact hk7 x3 x4 x5_1 S
def f_J1_indexOfChar_4cfef_7 (r0 : Nat) : Nat → Int32 → Int32 → Int32 → Mm → Option (Int32 × Mm) :=
  itr (fun _ _ _ _ => none) (fun k => f_J1_indexOfChar_4cfef_7b k r0)
theorem b_J1_indexOfChar_4cfef_7 {X : CX} {E : FE} (M0 : MF X E RJ1 cJ1_indexOfChar_4cfef 6 1 (some .int)) {r0 : Nat} (h0 : r0 < 4) : ∀ (n : Nat) (x3 x4 x5 : Int32) (S : Mm), At X E false (mQi X Z1 E) 7 [some (.ref (2097152 + r0)), none, none, some (.int x3), some (.int x4), some (.int x5)] [] Z1 S 0 0 (f_J1_indexOfChar_4cfef_7 r0 n x3 x4 x5 S) := by
  intro n
  induction n with
  | zero => intros; exact a_none
  | succ n ih => intro x3 x4 x5 S; exact b_J1_indexOfChar_4cfef_7b M0 h0 ih x3 x4 x5 S
def f_J1_indexOfChar_4cfef (r0 : Nat) (p1 p2 p3 : Int32) (S : Mm) : Option (Int32 × Mm) :=
  nm ((i2b p1)) fun x4_1 =>
  f_J1_indexOfChar_4cfef_7 r0 FU p3 x4_1 p2 S
set_option maxRecDepth 20000 in
theorem b_J1_indexOfChar_4cfef {X : CX} {E : FE} (M0 : MF X E RJ1 cJ1_indexOfChar_4cfef 6 1 (some .int)) {r0 : Nat} (h0 : r0 < 4) (p1 p2 p3 : Int32) (S : Mm) : At X E false (mQi X Z1 E) 0 [some (.ref (2097152 + r0)), some (.int p1), some (.int p2), some (.int p3), none, none] [] Z1 S 0 0 (f_J1_indexOfChar_4cfef r0 p1 p2 p3 S) := by
  have F := M0.1
  unfold f_J1_indexOfChar_4cfef
  refine a_iload_n F dJ1_indexOfChar_4cfef_0 rfl rfl ?_
  refine a_i2b F dJ1_indexOfChar_4cfef_1 ?_
  refine a_istoreN (L' := fun x4_1 => [some (.ref (2097152 + r0)), some (.int p1), some (.int p2), some (.int p3), some (.int x4_1), none]) F dJ1_indexOfChar_4cfef_2 (lt_b rfl) (fun _ => rfl) (fun x4_1 => ?_)
  refine a_iload_n F dJ1_indexOfChar_4cfef_4 rfl rfl ?_
  refine a_istore (L' := [some (.ref (2097152 + r0)), some (.int p1), some (.int p2), some (.int p3), some (.int x4_1), some (.int p2)]) F dJ1_indexOfChar_4cfef_5 (lt_b rfl) rfl ?_
  refine a_mask [true, false, false, true, true, true] (L' := [some (.ref (2097152 + r0)), none, none, some (.int p3), some (.int x4_1), some (.int p2)]) rfl rfl ?_
  exact b_J1_indexOfChar_4cfef_7 M0 h0 FU p3 x4_1 p2 S
theorem c_J1_indexOfChar_4cfef (X : CX) {r0 : Nat} (h0 : r0 < 4) (p1 p2 p3 : Int32) (S : Mm) : CtI X Z1 yJ1_indexOfChar_4cfef cJ1_indexOfChar_4cfef 6 (some .int) 1 [.ref (2097152 + r0), .int p1, .int p2, .int p3] S (f_J1_indexOfChar_4cfef r0 p1 p2 p3 S) :=
  ctI_of (by decide +kernel) rfl (Nat.le_of_ble_eq_true rfl) (by simp [Value.category]) z1len fun E F R hra hlk => b_J1_indexOfChar_4cfef ⟨F, R, hra, hlk⟩ h0 p1 p2 p3 S
def f_J1_indexOf_4cfef (r0 : Nat) (p1 p2 p3 : Int32) (S : Mm) : Option (Int32 × Mm) :=
  (f_J1_canEncode_9a6ad p1 S).bind fun q_1 =>
  if q_1.1 = 0 then (
   some ((-1 : Int32), q_1.2)
  ) else (
   nm ((imax p2 (0 : Int32))) fun x2_2 =>
   nm ((imin p3 (Int32.ofNat (sxL.getD r0 0)))) fun x3_3 =>
   if x2_2 < x3_3 then (
    (f_J1_indexOfChar_4cfef r0 p1 x2_2 x3_3 q_1.2).bind fun q_4 =>
    some (q_4.1, q_4.2)
   ) else (
    some ((-1 : Int32), q_1.2)
   )
  )
set_option maxRecDepth 20000 in
theorem b_J1_indexOf_4cfef {X : CX} {E : FE} (M0 : MF X E RJ1 cJ1_indexOf_4cfef 4 2 (some .int)) {r0 : Nat} (h0 : r0 < 4) (p1 p2 p3 : Int32) (S : Mm) : At X E false (mQi X Z1 E) 0 [some (.ref (2097152 + r0)), some (.int p1), some (.int p2), some (.int p3)] [] Z1 S 0 0 (f_J1_indexOf_4cfef r0 p1 p2 p3 S) := by
  have F := M0.1
  unfold f_J1_indexOf_4cfef
  refine a_iload_n F dJ1_indexOf_4cfef_0 rfl rfl ?_
  refine a_callSI F (As := [.int p1]) (c_J1_canEncode_9a6ad X p1 S) mw_J1_canEncode_9a6ad ml_J1_88 st_J1_canEncode_9a6ad M0.2.1 (Nat.le_of_ble_eq_true rfl) ⟨Nat.zero_le _, Nat.zero_le _⟩ rfl rfl (Nat.le_of_ble_eq_true rfl) dJ1_indexOf_4cfef_1 rfl (fun q_1 => ?_)
  refine a_if_ne F 9 dJ1_indexOf_4cfef_4 (by decide) ?_ ?_
  · refine a_iconst F dJ1_indexOf_4cfef_7 ki_m1 ?_
    exact a_iret F M0.2.2.1 M0.2.2.2 dJ1_indexOf_4cfef_8
  · refine a_iload_n F dJ1_indexOf_4cfef_9 rfl rfl ?_
    refine a_iconst F dJ1_indexOf_4cfef_10 ki_0 ?_
    refine a_mmax F dJ1_indexOf_4cfef_11 rfl ml_J1_92 ms_max mi_m mc_max (Nat.le_of_ble_eq_true rfl) (rm_fr M0.2.1 (by omega)) (rm_lo M0.2.1 (by omega)) ⟨Nat.zero_le _, Nat.zero_le _⟩ ?_
    refine a_istore_nN (L' := fun x2_2 => [some (.ref (2097152 + r0)), some (.int p1), some (.int x2_2), some (.int p3)]) F dJ1_indexOf_4cfef_14 rfl (lt_b rfl) (fun _ => rfl) (fun x2_2 => ?_)
    refine a_iload_n F dJ1_indexOf_4cfef_15 rfl rfl ?_
    refine a_aload_n F dJ1_indexOf_4cfef_16 rfl rfl ?_
    refine a_sLen F h0 dJ1_indexOf_4cfef_17 ?_
    refine a_mmin F dJ1_indexOf_4cfef_18 rfl ml_J1_38 ms_min mi_m mc_min (Nat.le_of_ble_eq_true rfl) (rm_fr M0.2.1 (by omega)) (rm_lo M0.2.1 (by omega)) ⟨Nat.zero_le _, Nat.zero_le _⟩ ?_
    refine a_istore_nN (L' := fun x3_3 => [some (.ref (2097152 + r0)), some (.int p1), some (.int x2_2), some (.int x3_3)]) F dJ1_indexOf_4cfef_21 rfl (lt_b rfl) (fun _ => rfl) (fun x3_3 => ?_)
    refine a_iload_n F dJ1_indexOf_4cfef_22 rfl rfl ?_
    refine a_iload_n F dJ1_indexOf_4cfef_23 rfl rfl ?_
    refine a_icmp_lt F 29 dJ1_indexOf_4cfef_24 (by decide) ?_ ?_
    · refine a_aload_n F dJ1_indexOf_4cfef_29 rfl rfl ?_
      refine a_iload_n F dJ1_indexOf_4cfef_30 rfl rfl ?_
      refine a_iload_n F dJ1_indexOf_4cfef_31 rfl rfl ?_
      refine a_iload_n F dJ1_indexOf_4cfef_32 rfl rfl ?_
      refine a_callSI F (As := [.ref (2097152 + r0), .int p1, .int x2_2, .int x3_3]) (c_J1_indexOfChar_4cfef X h0 p1 x2_2 x3_3 q_1.2) mw_J1_indexOfChar_4cfef ml_J1_95 st_J1_indexOfChar_4cfef M0.2.1 (Nat.le_of_ble_eq_true rfl) ⟨Nat.zero_le _, Nat.zero_le _⟩ rfl rfl (Nat.le_of_ble_eq_true rfl) dJ1_indexOf_4cfef_33 rfl (fun q_4 => ?_)
      exact a_iret F M0.2.2.1 M0.2.2.2 dJ1_indexOf_4cfef_36
    · refine a_iconst F dJ1_indexOf_4cfef_27 ki_m1 ?_
      exact a_iret F M0.2.2.1 M0.2.2.2 dJ1_indexOf_4cfef_28
theorem c_J1_indexOf_4cfef (X : CX) {r0 : Nat} (h0 : r0 < 4) (p1 p2 p3 : Int32) (S : Mm) : CtI X Z1 yJ1_indexOf_4cfef cJ1_indexOf_4cfef 4 (some .int) 2 [.ref (2097152 + r0), .int p1, .int p2, .int p3] S (f_J1_indexOf_4cfef r0 p1 p2 p3 S) :=
  ctI_of (by decide +kernel) rfl (Nat.le_of_ble_eq_true rfl) (by simp [Value.category]) z1len fun E F R hra hlk => b_J1_indexOf_4cfef ⟨F, R, hra, hlk⟩ h0 p1 p2 p3 S
def f_J0_indexOf_7cf53 (r0 : Nat) (p1 p2 : Int32) (S : Mm) : Option (Int32 × Mm) :=
  (f_J0_isLatin1_aae02 r0 S).bind fun q_1 =>
  if q_1.1 = 0 then (
   (f_J0_length_8abf5 r0 q_1.2).bind fun q_2 =>
   none
  ) else (
   (f_J0_length_8abf5 r0 q_1.2).bind fun q_3 =>
   (f_J1_indexOf_4cfef r0 p1 p2 q_3.1 q_3.2).bind fun q_4 =>
   some (q_4.1, q_4.2)
  )
set_option maxRecDepth 20000 in
theorem b_J0_indexOf_7cf53 {X : CX} {E : FE} (M0 : MF X E RJ0 cJ0_indexOf_7cf53 3 3 (some .int)) {r0 : Nat} (h0 : r0 < 4) (p1 p2 : Int32) (S : Mm) : At X E false (mQi X Z1 E) 0 [some (.ref (1048576 + r0)), some (.int p1), some (.int p2)] [] Z1 S 0 0 (f_J0_indexOf_7cf53 r0 p1 p2 S) := by
  have F := M0.1
  unfold f_J0_indexOf_7cf53
  refine a_aload_n F dJ0_indexOf_7cf53_0 rfl rfl ?_
  refine a_callTI F (As := []) h0 (c_J0_isLatin1_aae02 X h0 S) mw_J0_isLatin1_aae02 ml_J0_492 im_J0_isLatin1_aae02 se_J0_isLatin1_aae02 M0.2.1 (Nat.le_of_ble_eq_true rfl) ⟨Nat.zero_le _, Nat.zero_le _⟩ rfl rfl (Nat.le_of_ble_eq_true rfl) dJ0_indexOf_7cf53_1 rfl (fun q_1 => ?_)
  refine a_if_eq F 23 dJ0_indexOf_7cf53_4 (by decide) ?_ ?_
  · refine a_aload_n F dJ0_indexOf_7cf53_23 rfl rfl ?_
    refine a_sVal F h0 dJ0_indexOf_7cf53_24 fl_J0_9 ?_
    refine a_iload_n F dJ0_indexOf_7cf53_27 rfl rfl ?_
    refine a_iload_n F dJ0_indexOf_7cf53_28 rfl rfl ?_
    refine a_aload_n F dJ0_indexOf_7cf53_29 rfl rfl ?_
    refine a_callTI F (As := []) h0 (c_J0_length_8abf5 X h0 q_1.2) mw_J0_length_8abf5 ml_J0_505 im_J0_length_8abf5 se_J0_length_8abf5 M0.2.1 (Nat.le_of_ble_eq_true rfl) ⟨Nat.zero_le _, Nat.zero_le _⟩ rfl rfl (Nat.le_of_ble_eq_true rfl) dJ0_indexOf_7cf53_30 rfl (fun q_2 => ?_)
    exact a_none
  · refine a_aload_n F dJ0_indexOf_7cf53_7 rfl rfl ?_
    refine a_sVal F h0 dJ0_indexOf_7cf53_8 fl_J0_9 ?_
    refine a_iload_n F dJ0_indexOf_7cf53_11 rfl rfl ?_
    refine a_iload_n F dJ0_indexOf_7cf53_12 rfl rfl ?_
    refine a_aload_n F dJ0_indexOf_7cf53_13 rfl rfl ?_
    refine a_callTI F (As := []) h0 (c_J0_length_8abf5 X h0 q_1.2) mw_J0_length_8abf5 ml_J0_505 im_J0_length_8abf5 se_J0_length_8abf5 M0.2.1 (Nat.le_of_ble_eq_true rfl) ⟨Nat.zero_le _, Nat.zero_le _⟩ rfl rfl (Nat.le_of_ble_eq_true rfl) dJ0_indexOf_7cf53_14 rfl (fun q_3 => ?_)
    refine a_callSI F (As := [.ref (2097152 + r0), .int p1, .int p2, .int q_3.1]) (c_J1_indexOf_4cfef X h0 p1 p2 q_3.1 q_3.2) mw_J1_indexOf_4cfef ml_J0_637 st_J1_indexOf_4cfef M0.2.1 (Nat.le_of_ble_eq_true rfl) ⟨Nat.zero_le _, Nat.zero_le _⟩ rfl rfl (Nat.le_of_ble_eq_true rfl) dJ0_indexOf_7cf53_17 rfl (fun q_4 => ?_)
    refine a_goto F 36 dJ0_indexOf_7cf53_20 (by decide) ?_
    exact a_iret F M0.2.2.1 M0.2.2.2 dJ0_indexOf_7cf53_36
theorem c_J0_indexOf_7cf53 (X : CX) {r0 : Nat} (h0 : r0 < 4) (p1 p2 : Int32) (S : Mm) : CtI X Z1 yJ0_indexOf_7cf53 cJ0_indexOf_7cf53 3 (some .int) 3 [.ref (1048576 + r0), .int p1, .int p2] S (f_J0_indexOf_7cf53 r0 p1 p2 S) :=
  ctI_of (by decide +kernel) rfl (Nat.le_of_ble_eq_true rfl) (by simp [Value.category]) z1len fun E F R hra hlk => b_J0_indexOf_7cf53 ⟨F, R, hra, hlk⟩ h0 p1 p2 S
def f_J0_indexOf_0f7a4 (r0 : Nat) (p1 : Int32) (S : Mm) : Option (Int32 × Mm) :=
  (f_J0_indexOf_7cf53 r0 p1 (0 : Int32) S).bind fun q_1 =>
  some (q_1.1, q_1.2)
set_option maxRecDepth 20000 in
theorem b_J0_indexOf_0f7a4 {X : CX} {E : FE} (M0 : MF X E RJ0 cJ0_indexOf_0f7a4 2 4 (some .int)) {r0 : Nat} (h0 : r0 < 4) (p1 : Int32) (S : Mm) : At X E false (mQi X Z1 E) 0 [some (.ref (1048576 + r0)), some (.int p1)] [] Z1 S 0 0 (f_J0_indexOf_0f7a4 r0 p1 S) := by
  have F := M0.1
  unfold f_J0_indexOf_0f7a4
  refine a_aload_n F dJ0_indexOf_0f7a4_0 rfl rfl ?_
  refine a_iload_n F dJ0_indexOf_0f7a4_1 rfl rfl ?_
  refine a_iconst F dJ0_indexOf_0f7a4_2 ki_0 ?_
  refine a_callTI F (As := [.int p1, .int (0 : Int32)]) h0 (c_J0_indexOf_7cf53 X h0 p1 (0 : Int32) S) mw_J0_indexOf_7cf53 ml_J0_633 im_J0_indexOf_7cf53 se_J0_indexOf_7cf53 M0.2.1 (Nat.le_of_ble_eq_true rfl) ⟨Nat.zero_le _, Nat.zero_le _⟩ rfl rfl (Nat.le_of_ble_eq_true rfl) dJ0_indexOf_0f7a4_3 rfl (fun q_1 => ?_)
  exact a_iret F M0.2.2.1 M0.2.2.2 dJ0_indexOf_0f7a4_6
theorem c_J0_indexOf_0f7a4 (X : CX) {r0 : Nat} (h0 : r0 < 4) (p1 : Int32) (S : Mm) : CtI X Z1 yJ0_indexOf_0f7a4 cJ0_indexOf_0f7a4 2 (some .int) 4 [.ref (1048576 + r0), .int p1] S (f_J0_indexOf_0f7a4 r0 p1 S) :=
  ctI_of (by decide +kernel) rfl (Nat.le_of_ble_eq_true rfl) (by simp [Value.category]) z1len fun E F R hra hlk => b_J0_indexOf_0f7a4 ⟨F, R, hra, hlk⟩ h0 p1 S
def f_X8_cutRow_12b (k12 : Int32 → Mm → Option (Int32 × Mm)) (r0 : Nat) (x2 : Int32) (S : Mm) : Option (Int32 × Mm) :=
  if (S 184 1) ≤ x2 then (
   some ((x2 + (1 : Int32)), S)
  ) else (
   gd (inB x2 400 = true) <|
   if (S 185 (ix x2)) = (34 : Int32) then (
    some ((x2 + (1 : Int32)), S)
   ) else (
    nm (x2 + (1 : Int32)) fun x2_1 =>
    k12 x2_1 S
   )
  )
set_option maxRecDepth 20000 in
theorem b_X8_cutRow_12b {X : CX} {E : FE} (M0 : MF X E RX8 cX8_cutRow 3 2 (some .int)) {r0 : Nat} (h0 : isTok r0) {k12 : Int32 → Mm → Option (Int32 × Mm)} (hk12 : ∀ (x2 : Int32) (S : Mm), At X E false (mQi X Z1 E) 12 [some (.ref r0), none, some (.int x2)] [] Z1 S 0 0 (k12 x2 S)) (x2 : Int32) (S : Mm) : At X E false (mQi X Z1 E) 12 [some (.ref r0), none, some (.int x2)] [] Z1 S 0 0 (f_X8_cutRow_12b k12 r0 x2 S) := by
  have F := M0.1
  unfold f_X8_cutRow_12b
  refine a_iload_n F dX8_cutRow_12 rfl rfl ?_
  refine a_aload_n F dX8_cutRow_13 rfl rfl ?_
  refine a_getR (k := 0) F cfX8 dX8_cutRow_14 fl_X8_28 (by decide) fi_8_0 (ztl_0 h0) (ztk_0 h0) (ztr_0 h0) ?_
  refine a_getI (k := 1) F cfX5 dX8_cutRow_17 fl_X8_39 (by decide) fi_5_1 zl_184 zk_184 ?_
  refine a_icmp_ge F 43 dX8_cutRow_20 (by decide) ?_ ?_
  · refine a_iload_n F dX8_cutRow_43 rfl rfl ?_
    refine a_iconst F dX8_cutRow_44 ki_1 ?_
    refine a_iadd F dX8_cutRow_45 ?_
    exact a_iret F M0.2.2.1 M0.2.2.2 dX8_cutRow_46
  · refine a_aload_n F dX8_cutRow_23 rfl rfl ?_
    refine a_getR (k := 0) F cfX8 dX8_cutRow_24 fl_X8_28 (by decide) fi_8_0 (ztl_0 h0) (ztk_0 h0) (ztr_0 h0) ?_
    refine a_getR (k := 0) F cfX5 dX8_cutRow_27 fl_X8_44 (by decide) fi_5_0 zl_184 zk_184 zr_184_0 ?_
    refine a_iload_n F dX8_cutRow_30 rfl rfl ?_
    refine a_gd (a_iald F dX8_cutRow_31 zl_185 zk_185 ?_)
    refine a_bipush F dX8_cutRow_32 kb_34 ?_
    refine a_icmp_eq F 43 dX8_cutRow_34 (by decide) ?_ ?_
    · refine a_iload_n F dX8_cutRow_43 rfl rfl ?_
      refine a_iconst F dX8_cutRow_44 ki_1 ?_
      refine a_iadd F dX8_cutRow_45 ?_
      exact a_iret F M0.2.2.1 M0.2.2.2 dX8_cutRow_46
    · refine a_iincN (L' := fun x2_1 => [some (.ref r0), none, some (.int x2_1)]) F dX8_cutRow_37 rfl ki_1 (lt_b rfl) (fun _ => rfl) (fun x2_1 => ?_)
      refine a_goto F 12 dX8_cutRow_40 (by decide) ?_
      exact hk12 x2_1 S
def f_X8_cutRow_12 (r0 : Nat) : Nat → Int32 → Mm → Option (Int32 × Mm) :=
  itr (fun _ _ => none) (fun k => f_X8_cutRow_12b k r0)
theorem b_X8_cutRow_12 {X : CX} {E : FE} (M0 : MF X E RX8 cX8_cutRow 3 2 (some .int)) {r0 : Nat} (h0 : isTok r0) : ∀ (n : Nat) (x2 : Int32) (S : Mm), At X E false (mQi X Z1 E) 12 [some (.ref r0), none, some (.int x2)] [] Z1 S 0 0 (f_X8_cutRow_12 r0 n x2 S) := by
  intro n
  induction n with
  | zero => intros; exact a_none
  | succ n ih => intro x2 S; exact b_X8_cutRow_12b M0 h0 ih x2 S
def f_X8_cutRow (r0 : Nat) (p1 : Int32) (S : Mm) : Option (Int32 × Mm) :=
  (f_X8_keep r0 (3 : Int32) (34 : Int32) p1 S).bind fun S_1 =>
  nm ((p1 + (1 : Int32))) fun x2_2 =>
  f_X8_cutRow_12 r0 FU x2_2 S_1
set_option maxRecDepth 20000 in
theorem b_X8_cutRow {X : CX} {E : FE} (M0 : MF X E RX8 cX8_cutRow 3 2 (some .int)) {r0 : Nat} (h0 : isTok r0) (p1 : Int32) (S : Mm) : At X E false (mQi X Z1 E) 0 [some (.ref r0), some (.int p1), none] [] Z1 S 0 0 (f_X8_cutRow r0 p1 S) := by
  have F := M0.1
  unfold f_X8_cutRow
  refine a_aload_n F dX8_cutRow_0 rfl rfl ?_
  refine a_iconst F dX8_cutRow_1 ki_3 ?_
  refine a_bipush F dX8_cutRow_2 kb_34 ?_
  refine a_iload_n F dX8_cutRow_4 rfl rfl ?_
  refine a_callVV F (As := [.int (3 : Int32), .int (34 : Int32), .int p1]) cfX8 rfl (c_X8_keep X h0 (3 : Int32) (34 : Int32) p1 S) mw_X8_keep ml_X8_55 im_X8_keep se_X8_keep M0.2.1 (Nat.le_of_ble_eq_true rfl) ⟨Nat.zero_le _, Nat.zero_le _⟩ rfl rfl (Nat.le_of_ble_eq_true rfl) (ztl_0 h0) (ztk_0 h0) dX8_cutRow_5 rfl (fun S_1 => ?_)
  refine a_iload_n F dX8_cutRow_8 rfl rfl ?_
  refine a_iconst F dX8_cutRow_9 ki_1 ?_
  refine a_iadd F dX8_cutRow_10 ?_
  refine a_istore_nN (L' := fun x2_2 => [some (.ref r0), some (.int p1), some (.int x2_2)]) F dX8_cutRow_11 rfl (lt_b rfl) (fun _ => rfl) (fun x2_2 => ?_)
  refine a_mask [true, false, true] (L' := [some (.ref r0), none, some (.int x2_2)]) rfl rfl ?_
  exact b_X8_cutRow_12 M0 h0 FU x2_2 S_1
theorem c_X8_cutRow (X : CX) {r0 : Nat} (h0 : isTok r0) (p1 : Int32) (S : Mm) : CtI X Z1 yX8_cutRow cX8_cutRow 3 (some .int) 2 [.ref r0, .int p1] S (f_X8_cutRow r0 p1 S) :=
  ctI_of (by decide +kernel) rfl (Nat.le_of_ble_eq_true rfl) (by simp [Value.category]) z1len fun E F R hra hlk => b_X8_cutRow ⟨F, R, hra, hlk⟩ h0 p1 S
def f_X8_cutOne_78 (r0 : Nat) (x1 x2 t1 : Int32) (S : Mm) : Option (Int32 × Mm) :=
  (f_X8_keep r0 t1 x2 x1 S).bind fun S_1 =>
  some ((x1 + (1 : Int32)), S_1)
set_option maxRecDepth 20000 in
theorem b_X8_cutOne_78 {X : CX} {E : FE} (M0 : MF X E RX8 cX8_cutOne 3 8 (some .int)) {r0 : Nat} (h0 : isTok r0) (x1 x2 t1 : Int32) (S : Mm) : At X E false (mQi X Z1 E) 78 [none, some (.int x1), some (.int x2)] [.int t1, .ref r0] Z1 S 0 0 (f_X8_cutOne_78 r0 x1 x2 t1 S) := by
  have F := M0.1
  unfold f_X8_cutOne_78
  refine a_iload_n F dX8_cutOne_78 rfl rfl ?_
  refine a_iload_n F dX8_cutOne_79 rfl rfl ?_
  refine a_callVV F (As := [.int t1, .int x2, .int x1]) cfX8 rfl (c_X8_keep X h0 t1 x2 x1 S) mw_X8_keep ml_X8_55 im_X8_keep se_X8_keep M0.2.1 (Nat.le_of_ble_eq_true rfl) ⟨Nat.zero_le _, Nat.zero_le _⟩ rfl rfl (Nat.le_of_ble_eq_true rfl) (ztl_0 h0) (ztk_0 h0) dX8_cutOne_80 rfl (fun S_1 => ?_)
  refine a_iload_n F dX8_cutOne_83 rfl rfl ?_
  refine a_iconst F dX8_cutOne_84 ki_1 ?_
  refine a_iadd F dX8_cutOne_85 ?_
  exact a_iret F M0.2.2.1 M0.2.2.2 dX8_cutOne_86
def f_X8_cutOne_60 (r0 : Nat) (x1 x2 : Int32) (S : Mm) : Option (Int32 × Mm) :=
  (f_J0_indexOf_0f7a4 (tw r0 + 1) (i2c x2) S).bind fun q_1 =>
  if q_1.1 < 0 then (
   f_X8_cutOne_78 r0 x1 x2 (4 : Int32) q_1.2
  ) else (
   f_X8_cutOne_78 r0 x1 x2 (3 : Int32) q_1.2
  )
set_option maxRecDepth 20000 in
theorem b_X8_cutOne_60 {X : CX} {E : FE} (M0 : MF X E RX8 cX8_cutOne 3 8 (some .int)) {r0 : Nat} (h0 : isTok r0) (x1 x2 : Int32) (S : Mm) : At X E false (mQi X Z1 E) 60 [some (.ref r0), some (.int x1), some (.int x2)] [] Z1 S 0 0 (f_X8_cutOne_60 r0 x1 x2 S) := by
  have F := M0.1
  unfold f_X8_cutOne_60
  refine a_aload_n F dX8_cutOne_60 rfl rfl ?_
  refine a_aload_n F dX8_cutOne_61 rfl rfl ?_
  refine a_getR (k := 2) F cfX8 dX8_cutOne_62 fl_X8_36 (by decide) fi_8_2 (ztl_0 h0) (ztk_0 h0) (ztr_2 h0) ?_
  refine a_iload_n F dX8_cutOne_65 rfl rfl ?_
  refine a_i2c F dX8_cutOne_66 ?_
  refine a_callTI F (As := [.int (i2c x2)]) (twl_2 h0) (c_J0_indexOf_0f7a4 X (twl_2 h0) (i2c x2) S) mw_J0_indexOf_0f7a4 ml_X8_71 im_J0_indexOf_0f7a4 se_J0_indexOf_0f7a4 M0.2.1 (Nat.le_of_ble_eq_true rfl) ⟨Nat.zero_le _, Nat.zero_le _⟩ rfl rfl (Nat.le_of_ble_eq_true rfl) dX8_cutOne_67 rfl (fun q_1 => ?_)
  refine a_if_lt F 77 dX8_cutOne_70 (by decide) ?_ ?_
  · refine a_iconst F dX8_cutOne_77 ki_4 ?_
    refine a_mask [false, true, true] (L' := [none, some (.int x1), some (.int x2)]) rfl rfl ?_
    exact b_X8_cutOne_78 M0 h0 x1 x2 (4 : Int32) q_1.2
  · refine a_iconst F dX8_cutOne_73 ki_3 ?_
    refine a_goto F 78 dX8_cutOne_74 (by decide) ?_
    refine a_mask [false, true, true] (L' := [none, some (.int x1), some (.int x2)]) rfl rfl ?_
    exact b_X8_cutOne_78 M0 h0 x1 x2 (3 : Int32) q_1.2
def f_X8_cutOne (r0 : Nat) (p1 : Int32) (S : Mm) : Option (Int32 × Mm) :=
  gd (inB p1 400 = true) <|
  nm ((S 185 (ix p1))) fun x2_1 =>
  (f_X8_isOfWord x2_1 S).bind fun q_2 =>
  if q_2.1 = 0 then (
   (f_X8_isDigit x2_1 q_2.2).bind fun q_3 =>
   if q_3.1 = 0 then (
    if x2_1 = (34 : Int32) then (
     (f_J0_indexOf_0f7a4 (tw r0 + 1) (34 : Int32) q_3.2).bind fun q_4 =>
     if q_4.1 < 0 then (
      f_X8_cutOne_60 r0 p1 x2_1 q_4.2
     ) else (
      (f_X8_cutRow r0 p1 q_4.2).bind fun q_5 =>
      some (q_5.1, q_5.2)
     )
    ) else (
     f_X8_cutOne_60 r0 p1 x2_1 q_3.2
    )
   ) else (
    (f_X8_cutNumber r0 p1 q_3.2).bind fun q_6 =>
    some (q_6.1, q_6.2)
   )
  ) else (
   (f_X8_cutWord r0 p1 q_2.2).bind fun q_7 =>
   some (q_7.1, q_7.2)
  )
set_option maxRecDepth 20000 in
theorem b_X8_cutOne {X : CX} {E : FE} (M0 : MF X E RX8 cX8_cutOne 3 8 (some .int)) {r0 : Nat} (h0 : isTok r0) (p1 : Int32) (S : Mm) : At X E false (mQi X Z1 E) 0 [some (.ref r0), some (.int p1), none] [] Z1 S 0 0 (f_X8_cutOne r0 p1 S) := by
  have F := M0.1
  unfold f_X8_cutOne
  refine a_aload_n F dX8_cutOne_0 rfl rfl ?_
  refine a_getR (k := 0) F cfX8 dX8_cutOne_1 fl_X8_28 (by decide) fi_8_0 (ztl_0 h0) (ztk_0 h0) (ztr_0 h0) ?_
  refine a_getR (k := 0) F cfX5 dX8_cutOne_4 fl_X8_44 (by decide) fi_5_0 zl_184 zk_184 zr_184_0 ?_
  refine a_iload_n F dX8_cutOne_7 rfl rfl ?_
  refine a_gd (a_iald F dX8_cutOne_8 zl_185 zk_185 ?_)
  refine a_istore_nN (L' := fun x2_1 => [some (.ref r0), some (.int p1), some (.int x2_1)]) F dX8_cutOne_9 rfl (lt_b rfl) (fun _ => rfl) (fun x2_1 => ?_)
  refine a_iload_n F dX8_cutOne_10 rfl rfl ?_
  refine a_callSI F (As := [.int x2_1]) (c_X8_isOfWord X x2_1 S) mw_X8_isOfWord ml_X8_59 st_X8_isOfWord M0.2.1 (Nat.le_of_ble_eq_true rfl) ⟨Nat.zero_le _, Nat.zero_le _⟩ rfl rfl (Nat.le_of_ble_eq_true rfl) dX8_cutOne_11 rfl (fun q_2 => ?_)
  refine a_if_eq F 23 dX8_cutOne_14 (by decide) ?_ ?_
  · refine a_iload_n F dX8_cutOne_23 rfl rfl ?_
    refine a_callSI F (As := [.int x2_1]) (c_X8_isDigit X x2_1 q_2.2) mw_X8_isDigit ml_X8_65 st_X8_isDigit M0.2.1 (Nat.le_of_ble_eq_true rfl) ⟨Nat.zero_le _, Nat.zero_le _⟩ rfl rfl (Nat.le_of_ble_eq_true rfl) dX8_cutOne_24 rfl (fun q_3 => ?_)
    refine a_if_eq F 36 dX8_cutOne_27 (by decide) ?_ ?_
    · refine a_iload_n F dX8_cutOne_36 rfl rfl ?_
      refine a_bipush F dX8_cutOne_37 kb_34 ?_
      refine a_icmp_ne F 60 dX8_cutOne_39 (by decide) ?_ ?_
      · refine a_aload_n F dX8_cutOne_42 rfl rfl ?_
        refine a_getR (k := 2) F cfX8 dX8_cutOne_43 fl_X8_36 (by decide) fi_8_2 (ztl_0 h0) (ztk_0 h0) (ztr_2 h0) ?_
        refine a_bipush F dX8_cutOne_46 kb_34 ?_
        refine a_callTI F (As := [.int (34 : Int32)]) (twl_2 h0) (c_J0_indexOf_0f7a4 X (twl_2 h0) (34 : Int32) q_3.2) mw_J0_indexOf_0f7a4 ml_X8_71 im_J0_indexOf_0f7a4 se_J0_indexOf_0f7a4 M0.2.1 (Nat.le_of_ble_eq_true rfl) ⟨Nat.zero_le _, Nat.zero_le _⟩ rfl rfl (Nat.le_of_ble_eq_true rfl) dX8_cutOne_48 rfl (fun q_4 => ?_)
        refine a_if_lt F 60 dX8_cutOne_51 (by decide) ?_ ?_
        · exact b_X8_cutOne_60 M0 h0 p1 x2_1 q_4.2
        · refine a_aload_n F dX8_cutOne_54 rfl rfl ?_
          refine a_iload_n F dX8_cutOne_55 rfl rfl ?_
          refine a_callVI F (As := [.int p1]) cfX8 rfl (c_X8_cutRow X h0 p1 q_4.2) mw_X8_cutRow ml_X8_76 im_X8_cutRow se_X8_cutRow M0.2.1 (Nat.le_of_ble_eq_true rfl) ⟨Nat.zero_le _, Nat.zero_le _⟩ rfl rfl (Nat.le_of_ble_eq_true rfl) (ztl_0 h0) (ztk_0 h0) dX8_cutOne_56 rfl (fun q_5 => ?_)
          exact a_iret F M0.2.2.1 M0.2.2.2 dX8_cutOne_59
      · exact b_X8_cutOne_60 M0 h0 p1 x2_1 q_3.2
    · refine a_aload_n F dX8_cutOne_30 rfl rfl ?_
      refine a_iload_n F dX8_cutOne_31 rfl rfl ?_
      refine a_callVI F (As := [.int p1]) cfX8 rfl (c_X8_cutNumber X h0 p1 q_3.2) mw_X8_cutNumber ml_X8_68 im_X8_cutNumber se_X8_cutNumber M0.2.1 (Nat.le_of_ble_eq_true rfl) ⟨Nat.zero_le _, Nat.zero_le _⟩ rfl rfl (Nat.le_of_ble_eq_true rfl) (ztl_0 h0) (ztk_0 h0) dX8_cutOne_32 rfl (fun q_6 => ?_)
      exact a_iret F M0.2.2.1 M0.2.2.2 dX8_cutOne_35
  · refine a_aload_n F dX8_cutOne_17 rfl rfl ?_
    refine a_iload_n F dX8_cutOne_18 rfl rfl ?_
    refine a_callVI F (As := [.int p1]) cfX8 rfl (c_X8_cutWord X h0 p1 q_2.2) mw_X8_cutWord ml_X8_62 im_X8_cutWord se_X8_cutWord M0.2.1 (Nat.le_of_ble_eq_true rfl) ⟨Nat.zero_le _, Nat.zero_le _⟩ rfl rfl (Nat.le_of_ble_eq_true rfl) (ztl_0 h0) (ztk_0 h0) dX8_cutOne_19 rfl (fun q_7 => ?_)
    exact a_iret F M0.2.2.1 M0.2.2.2 dX8_cutOne_22
theorem c_X8_cutOne (X : CX) {r0 : Nat} (h0 : isTok r0) (p1 : Int32) (S : Mm) : CtI X Z1 yX8_cutOne cX8_cutOne 3 (some .int) 8 [.ref r0, .int p1] S (f_X8_cutOne r0 p1 S) :=
  ctI_of (by decide +kernel) rfl (Nat.le_of_ble_eq_true rfl) (by simp [Value.category]) z1len fun E F R hra hlk => b_X8_cutOne ⟨F, R, hra, hlk⟩ h0 p1 S
def f_X8_cut_65 (r0 : Nat) (S : Mm) : Option Mm :=
  (f_X8_keep r0 (0 : Int32) (0 : Int32) (S 184 1) S).bind fun S_1 =>
  some S_1
set_option maxRecDepth 20000 in
theorem b_X8_cut_65 {X : CX} {E : FE} (M0 : MF X E RX8 cX8_cut 3 9 none) {r0 : Nat} (h0 : isTok r0) (S : Mm) : At X E false (mQv X Z1 E) 65 [some (.ref r0), none, none] [] Z1 S 0 0 (f_X8_cut_65 r0 S) := by
  have F := M0.1
  unfold f_X8_cut_65
  refine a_aload_n F dX8_cut_65 rfl rfl ?_
  refine a_iconst F dX8_cut_66 ki_0 ?_
  refine a_iconst F dX8_cut_67 ki_0 ?_
  refine a_aload_n F dX8_cut_68 rfl rfl ?_
  refine a_getR (k := 0) F cfX8 dX8_cut_69 fl_X8_28 (by decide) fi_8_0 (ztl_0 h0) (ztk_0 h0) (ztr_0 h0) ?_
  refine a_getI (k := 1) F cfX5 dX8_cut_72 fl_X8_39 (by decide) fi_5_1 zl_184 zk_184 ?_
  refine a_callVV F (As := [.int (0 : Int32), .int (0 : Int32), .int (S 184 1)]) cfX8 rfl (c_X8_keep X h0 (0 : Int32) (0 : Int32) (S 184 1) S) mw_X8_keep ml_X8_55 im_X8_keep se_X8_keep M0.2.1 (Nat.le_of_ble_eq_true rfl) ⟨Nat.zero_le _, Nat.zero_le _⟩ rfl rfl (Nat.le_of_ble_eq_true rfl) (ztl_0 h0) (ztk_0 h0) dX8_cut_75 rfl (fun S_1 => ?_)
  exact a_vret F M0.2.2.1 M0.2.2.2 dX8_cut_78
def f_X8_cut_59 (k14 : Int32 → Int32 → Mm → Option Mm) (r0 : Nat) (x1 x2 : Int32) (S : Mm) : Option Mm :=
  nm (x2 + (1 : Int32)) fun x2_1 =>
  k14 x1 x2_1 S
set_option maxRecDepth 20000 in
theorem b_X8_cut_59 {X : CX} {E : FE} (M0 : MF X E RX8 cX8_cut 3 9 none) {r0 : Nat} (h0 : isTok r0) {k14 : Int32 → Int32 → Mm → Option Mm} (hk14 : ∀ (x1 x2 : Int32) (S : Mm), At X E false (mQv X Z1 E) 14 [some (.ref r0), some (.int x1), some (.int x2)] [] Z1 S 0 0 (k14 x1 x2 S)) (x1 x2 : Int32) (S : Mm) : At X E false (mQv X Z1 E) 59 [some (.ref r0), some (.int x1), some (.int x2)] [] Z1 S 0 0 (f_X8_cut_59 k14 r0 x1 x2 S) := by
  have F := M0.1
  unfold f_X8_cut_59
  refine a_iincN (L' := fun x2_1 => [some (.ref r0), some (.int x1), some (.int x2_1)]) F dX8_cut_59 rfl ki_1 (lt_b rfl) (fun _ => rfl) (fun x2_1 => ?_)
  refine a_goto F 14 dX8_cut_62 (by decide) ?_
  exact hk14 x1 x2_1 S
def f_X8_cut_14b (k14 : Int32 → Int32 → Mm → Option Mm) (r0 : Nat) (x1 x2 : Int32) (S : Mm) : Option Mm :=
  if (400 : Int32) ≤ x2 then (
   f_X8_cut_65 r0 S
  ) else (
   if (S 184 1) ≤ x1 then (
    f_X8_cut_65 r0 S
   ) else (
    gd (inB x1 400 = true) <|
    (f_X10_isBlank (S 185 (ix x1)) S).bind fun q_1 =>
    if q_1.1 = 0 then (
     (f_X8_cutOne r0 x1 q_1.2).bind fun q_2 =>
     f_X8_cut_59 k14 r0 q_2.1 x2 q_2.2
    ) else (
     nm (x1 + (1 : Int32)) fun x1_3 =>
     f_X8_cut_59 k14 r0 x1_3 x2 q_1.2
    )
   )
  )
set_option maxRecDepth 20000 in
theorem b_X8_cut_14b {X : CX} {E : FE} (M0 : MF X E RX8 cX8_cut 3 9 none) {r0 : Nat} (h0 : isTok r0) {k14 : Int32 → Int32 → Mm → Option Mm} (hk14 : ∀ (x1 x2 : Int32) (S : Mm), At X E false (mQv X Z1 E) 14 [some (.ref r0), some (.int x1), some (.int x2)] [] Z1 S 0 0 (k14 x1 x2 S)) (x1 x2 : Int32) (S : Mm) : At X E false (mQv X Z1 E) 14 [some (.ref r0), some (.int x1), some (.int x2)] [] Z1 S 0 0 (f_X8_cut_14b k14 r0 x1 x2 S) := by
  have F := M0.1
  unfold f_X8_cut_14b
  refine a_iload_n F dX8_cut_14 rfl rfl ?_
  refine a_sipush F dX8_cut_15 ks_400 ?_
  refine a_icmp_ge F 65 dX8_cut_18 (by decide) ?_ ?_
  · refine a_mask [true, false, false] (L' := [some (.ref r0), none, none]) rfl rfl ?_
    exact b_X8_cut_65 M0 h0 S
  · refine a_iload_n F dX8_cut_21 rfl rfl ?_
    refine a_aload_n F dX8_cut_22 rfl rfl ?_
    refine a_getR (k := 0) F cfX8 dX8_cut_23 fl_X8_28 (by decide) fi_8_0 (ztl_0 h0) (ztk_0 h0) (ztr_0 h0) ?_
    refine a_getI (k := 1) F cfX5 dX8_cut_26 fl_X8_39 (by decide) fi_5_1 zl_184 zk_184 ?_
    refine a_icmp_ge F 65 dX8_cut_29 (by decide) ?_ ?_
    · refine a_mask [true, false, false] (L' := [some (.ref r0), none, none]) rfl rfl ?_
      exact b_X8_cut_65 M0 h0 S
    · refine a_aload_n F dX8_cut_32 rfl rfl ?_
      refine a_getR (k := 0) F cfX8 dX8_cut_33 fl_X8_28 (by decide) fi_8_0 (ztl_0 h0) (ztk_0 h0) (ztr_0 h0) ?_
      refine a_getR (k := 0) F cfX5 dX8_cut_36 fl_X8_44 (by decide) fi_5_0 zl_184 zk_184 zr_184_0 ?_
      refine a_iload_n F dX8_cut_39 rfl rfl ?_
      refine a_gd (a_iald F dX8_cut_40 zl_185 zk_185 ?_)
      refine a_callNI (host := RX10) F (As := [.int (S 185 (ix x1))]) (c_X10_isBlank X (S 185 (ix x1)) S) mw_X10_isBlank (by decide +kernel) st_X10_isBlank M0.2.1 (Nat.le_of_ble_eq_true rfl) ⟨Nat.zero_le _, Nat.zero_le _⟩ rfl rfl (Nat.le_of_ble_eq_true rfl) dX8_cut_41 rfl (fun q_1 => ?_)
      refine a_if_eq F 53 dX8_cut_44 (by decide) ?_ ?_
      · refine a_aload_n F dX8_cut_53 rfl rfl ?_
        refine a_iload_n F dX8_cut_54 rfl rfl ?_
        refine a_callVI F (As := [.int x1]) cfX8 rfl (c_X8_cutOne X h0 x1 q_1.2) mw_X8_cutOne ml_X8_51 im_X8_cutOne se_X8_cutOne M0.2.1 (Nat.le_of_ble_eq_true rfl) ⟨Nat.zero_le _, Nat.zero_le _⟩ rfl rfl (Nat.le_of_ble_eq_true rfl) (ztl_0 h0) (ztk_0 h0) dX8_cut_55 rfl (fun q_2 => ?_)
        refine a_istore_n (L' := [some (.ref r0), some (.int q_2.1), some (.int x2)]) F dX8_cut_58 rfl (lt_b rfl) rfl ?_
        exact b_X8_cut_59 M0 h0 hk14 q_2.1 x2 q_2.2
      · refine a_iincN (L' := fun x1_3 => [some (.ref r0), some (.int x1_3), some (.int x2)]) F dX8_cut_47 rfl ki_1 (lt_b rfl) (fun _ => rfl) (fun x1_3 => ?_)
        refine a_goto F 59 dX8_cut_50 (by decide) ?_
        exact b_X8_cut_59 M0 h0 hk14 x1_3 x2 q_1.2
def f_X8_cut_14 (r0 : Nat) : Nat → Int32 → Int32 → Mm → Option Mm :=
  itr (fun _ _ _ => none) (fun k => f_X8_cut_14b k r0)
theorem b_X8_cut_14 {X : CX} {E : FE} (M0 : MF X E RX8 cX8_cut 3 9 none) {r0 : Nat} (h0 : isTok r0) : ∀ (n : Nat) (x1 x2 : Int32) (S : Mm), At X E false (mQv X Z1 E) 14 [some (.ref r0), some (.int x1), some (.int x2)] [] Z1 S 0 0 (f_X8_cut_14 r0 n x1 x2 S) := by
  intro n
  induction n with
  | zero => intros; exact a_none
  | succ n ih => intro x1 x2 S; exact b_X8_cut_14b M0 h0 ih x1 x2 S
def f_X8_cut (r0 : Nat) (S : Mm) : Option Mm :=
  nm (uM S r0 6 (0 : Int32)) fun S_1 =>
  nm (uM S_1 r0 7 (0 : Int32)) fun S_2 =>
  f_X8_cut_14 r0 FU (0 : Int32) (0 : Int32) S_2
set_option maxRecDepth 20000 in
theorem b_X8_cut {X : CX} {E : FE} (M0 : MF X E RX8 cX8_cut 3 9 none) {r0 : Nat} (h0 : isTok r0) (S : Mm) : At X E false (mQv X Z1 E) 0 [some (.ref r0), none, none] [] Z1 S 0 0 (f_X8_cut r0 S) := by
  have F := M0.1
  unfold f_X8_cut
  refine a_aload_n F dX8_cut_0 rfl rfl ?_
  refine a_iconst F dX8_cut_1 ki_0 ?_
  refine a_putI (k := 6) F cfX8 dX8_cut_2 fl_X8_21 (by decide) fi_8_6 rfl rfl (ztl_0 h0) (ztk_0 h0) ?_
  refine a_nmS (fun S_1 => ?_)
  refine a_aload_n F dX8_cut_5 rfl rfl ?_
  refine a_iconst F dX8_cut_6 ki_0 ?_
  refine a_putI (k := 7) F cfX8 dX8_cut_7 fl_X8_25 (by decide) fi_8_7 rfl rfl (ztl_0 h0) (ztk_0 h0) ?_
  refine a_nmS (fun S_2 => ?_)
  refine a_iconst F dX8_cut_10 ki_0 ?_
  refine a_istore_n (L' := [some (.ref r0), some (.int (0 : Int32)), none]) F dX8_cut_11 rfl (lt_b rfl) rfl ?_
  refine a_iconst F dX8_cut_12 ki_0 ?_
  refine a_istore_n (L' := [some (.ref r0), some (.int (0 : Int32)), some (.int (0 : Int32))]) F dX8_cut_13 rfl (lt_b rfl) rfl ?_
  exact b_X8_cut_14 M0 h0 FU (0 : Int32) (0 : Int32) S_2
theorem c_X8_cut (X : CX) {r0 : Nat} (h0 : isTok r0) (S : Mm) : CtV X Z1 yX8_cut cX8_cut 3 9 [.ref r0] S (f_X8_cut r0 S) :=
  ctV_of (by decide +kernel) rfl (Nat.le_of_ble_eq_true rfl) (by simp [Value.category]) z1len fun E F R hra hlk => b_X8_cut ⟨F, R, hra, hlk⟩ h0 S
def f_X8_kind (r0 : Nat) (S : Mm) : Option (Int32 × Mm) :=
  gd (inB (S r0 7) 401 = true) <|
  some ((S (r0 + 1) (ix (S r0 7))), S)
set_option maxRecDepth 20000 in
theorem b_X8_kind {X : CX} {E : FE} (M0 : MF X E RX8 cX8_kind 1 1 (some .int)) {r0 : Nat} (h0 : isTok r0) (S : Mm) : At X E false (mQi X Z1 E) 0 [some (.ref r0)] [] Z1 S 0 0 (f_X8_kind r0 S) := by
  have F := M0.1
  unfold f_X8_kind
  refine a_aload_n F dX8_kind_0 rfl rfl ?_
  refine a_getR (k := 3) F cfX8 dX8_kind_1 fl_X8_9 (by decide) fi_8_3 (ztl_0 h0) (ztk_0 h0) (ztr_3 h0) ?_
  refine a_aload_n F dX8_kind_4 rfl rfl ?_
  refine a_getI (k := 7) F cfX8 dX8_kind_5 fl_X8_25 (by decide) fi_8_7 (ztl_0 h0) (ztk_0 h0) ?_
  refine a_gd (a_iald F dX8_kind_8 (ztl_1 h0) (ztk_1 h0) ?_)
  exact a_iret F M0.2.2.1 M0.2.2.2 dX8_kind_9
theorem c_X8_kind (X : CX) {r0 : Nat} (h0 : isTok r0) (S : Mm) : CtI X Z1 yX8_kind cX8_kind 1 (some .int) 1 [.ref r0] S (f_X8_kind r0 S) :=
  ctI_of (by decide +kernel) rfl (Nat.le_of_ble_eq_true rfl) (by simp [Value.category]) z1len fun E F R hra hlk => b_X8_kind ⟨F, R, hra, hlk⟩ h0 S
def f_X8_isWord_30 (r0 : Nat) (S : Mm) : Option (Int32 × Mm) :=
  some ((0 : Int32), S)
set_option maxRecDepth 20000 in
theorem b_X8_isWord_30 {X : CX} {E : FE} (M0 : MF X E RX8 cX8_isWord 2 1 (some .boolean)) {r0 : Nat} (h0 : isTok r0) (S : Mm) : At X E false (mQi X Z1 E) 30 [none, none] [] Z1 S 0 0 (f_X8_isWord_30 r0 S) := by
  have F := M0.1
  unfold f_X8_isWord_30
  refine a_iconst F dX8_isWord_30 ki_0 ?_
  exact a_zretK F M0.2.2.1 M0.2.2.2 dX8_isWord_31 (Or.inl rfl)
def f_X8_isWord (r0 : Nat) (p1 : Int32) (S : Mm) : Option (Int32 × Mm) :=
  gd (inB (S r0 7) 401 = true) <|
  if (S (r0 + 1) (ix (S r0 7))) = (1 : Int32) then (
   gd (inB (S r0 7) 401 = true) <|
   if (S (r0 + 2) (ix (S r0 7))) = p1 then (
    some ((1 : Int32), S)
   ) else (
    f_X8_isWord_30 r0 S
   )
  ) else (
   f_X8_isWord_30 r0 S
  )
set_option maxRecDepth 20000 in
theorem b_X8_isWord {X : CX} {E : FE} (M0 : MF X E RX8 cX8_isWord 2 1 (some .boolean)) {r0 : Nat} (h0 : isTok r0) (p1 : Int32) (S : Mm) : At X E false (mQi X Z1 E) 0 [some (.ref r0), some (.int p1)] [] Z1 S 0 0 (f_X8_isWord r0 p1 S) := by
  have F := M0.1
  unfold f_X8_isWord
  refine a_aload_n F dX8_isWord_0 rfl rfl ?_
  refine a_getR (k := 3) F cfX8 dX8_isWord_1 fl_X8_9 (by decide) fi_8_3 (ztl_0 h0) (ztk_0 h0) (ztr_3 h0) ?_
  refine a_aload_n F dX8_isWord_4 rfl rfl ?_
  refine a_getI (k := 7) F cfX8 dX8_isWord_5 fl_X8_25 (by decide) fi_8_7 (ztl_0 h0) (ztk_0 h0) ?_
  refine a_gd (a_iald F dX8_isWord_8 (ztl_1 h0) (ztk_1 h0) ?_)
  refine a_iconst F dX8_isWord_9 ki_1 ?_
  refine a_icmp_ne F 30 dX8_isWord_10 (by decide) ?_ ?_
  · refine a_aload_n F dX8_isWord_13 rfl rfl ?_
    refine a_getR (k := 4) F cfX8 dX8_isWord_14 fl_X8_15 (by decide) fi_8_4 (ztl_0 h0) (ztk_0 h0) (ztr_4 h0) ?_
    refine a_aload_n F dX8_isWord_17 rfl rfl ?_
    refine a_getI (k := 7) F cfX8 dX8_isWord_18 fl_X8_25 (by decide) fi_8_7 (ztl_0 h0) (ztk_0 h0) ?_
    refine a_gd (a_iald F dX8_isWord_21 (ztl_2 h0) (ztk_2 h0) ?_)
    refine a_iload_n F dX8_isWord_22 rfl rfl ?_
    refine a_icmp_ne F 30 dX8_isWord_23 (by decide) ?_ ?_
    · refine a_iconst F dX8_isWord_26 ki_1 ?_
      refine a_goto F 31 dX8_isWord_27 (by decide) ?_
      exact a_zretK F M0.2.2.1 M0.2.2.2 dX8_isWord_31 (Or.inr rfl)
    · refine a_mask [false, false] (L' := [none, none]) rfl rfl ?_
      exact b_X8_isWord_30 M0 h0 S
  · refine a_mask [false, false] (L' := [none, none]) rfl rfl ?_
    exact b_X8_isWord_30 M0 h0 S
theorem c_X8_isWord (X : CX) {r0 : Nat} (h0 : isTok r0) (p1 : Int32) (S : Mm) : CtI X Z1 yX8_isWord cX8_isWord 2 (some .boolean) 1 [.ref r0, .int p1] S (f_X8_isWord r0 p1 S) :=
  ctI_of (by decide +kernel) rfl (Nat.le_of_ble_eq_true rfl) (by simp [Value.category]) z1len fun E F R hra hlk => b_X8_isWord ⟨F, R, hra, hlk⟩ h0 p1 S
def f_X8_wrong (r0 : Nat) (p1 : Int32) (S : Mm) : Option (Int32 × Mm) :=
  nm (uM S 184 2 p1) fun S_1 =>
  gd (inB (S_1 r0 7) 401 = true) <|
  nm (uM S_1 184 3 (S_1 (r0 + 3) (ix (S_1 r0 7)))) fun S_2 =>
  some ((0 : Int32), S_2)
set_option maxRecDepth 20000 in
theorem b_X8_wrong {X : CX} {E : FE} (M0 : MF X E RX8 cX8_wrong 2 1 (some .boolean)) {r0 : Nat} (h0 : isTok r0) (p1 : Int32) (S : Mm) : At X E false (mQi X Z1 E) 0 [some (.ref r0), some (.int p1)] [] Z1 S 0 0 (f_X8_wrong r0 p1 S) := by
  have F := M0.1
  unfold f_X8_wrong
  refine a_aload_n F dX8_wrong_0 rfl rfl ?_
  refine a_getR (k := 0) F cfX8 dX8_wrong_1 fl_X8_28 (by decide) fi_8_0 (ztl_0 h0) (ztk_0 h0) (ztr_0 h0) ?_
  refine a_iload_n F dX8_wrong_4 rfl rfl ?_
  refine a_putI (k := 2) F cfX5 dX8_wrong_5 fl_X8_94 (by decide) fi_5_2 rfl rfl zl_184 zk_184 ?_
  refine a_nmS (fun S_1 => ?_)
  refine a_aload_n F dX8_wrong_8 rfl rfl ?_
  refine a_getR (k := 0) F cfX8 dX8_wrong_9 fl_X8_28 (by decide) fi_8_0 (ztl_0 h0) (ztk_0 h0) (ztr_0 h0) ?_
  refine a_aload_n F dX8_wrong_12 rfl rfl ?_
  refine a_getR (k := 5) F cfX8 dX8_wrong_13 fl_X8_18 (by decide) fi_8_5 (ztl_0 h0) (ztk_0 h0) (ztr_5 h0) ?_
  refine a_aload_n F dX8_wrong_16 rfl rfl ?_
  refine a_getI (k := 7) F cfX8 dX8_wrong_17 fl_X8_25 (by decide) fi_8_7 (ztl_0 h0) (ztk_0 h0) ?_
  refine a_gd (a_iald F dX8_wrong_20 (ztl_3 h0) (ztk_3 h0) ?_)
  refine a_putI (k := 3) F cfX5 dX8_wrong_21 fl_X8_97 (by decide) fi_5_3 rfl rfl zl_184 zk_184 ?_
  refine a_nmS (fun S_2 => ?_)
  refine a_iconst F dX8_wrong_24 ki_0 ?_
  exact a_zretK F M0.2.2.1 M0.2.2.2 dX8_wrong_25 (Or.inl rfl)
theorem c_X8_wrong (X : CX) {r0 : Nat} (h0 : isTok r0) (p1 : Int32) (S : Mm) : CtI X Z1 yX8_wrong cX8_wrong 2 (some .boolean) 1 [.ref r0, .int p1] S (f_X8_wrong r0 p1 S) :=
  ctI_of (by decide +kernel) rfl (Nat.le_of_ble_eq_true rfl) (by simp [Value.category]) z1len fun E F R hra hlk => b_X8_wrong ⟨F, R, hra, hlk⟩ h0 p1 S
def f_X8_skip (r0 : Nat) (S : Mm) : Option Mm :=
  if ((S r0 6) - (1 : Int32)) ≤ (S r0 7) then (
   some S
  ) else (
   nm (uM S r0 7 ((S r0 7) + (1 : Int32))) fun S_1 =>
   some S_1
  )
set_option maxRecDepth 20000 in
theorem b_X8_skip {X : CX} {E : FE} (M0 : MF X E RX8 cX8_skip 1 1 none) {r0 : Nat} (h0 : isTok r0) (S : Mm) : At X E false (mQv X Z1 E) 0 [some (.ref r0)] [] Z1 S 0 0 (f_X8_skip r0 S) := by
  have F := M0.1
  unfold f_X8_skip
  refine a_aload_n F dX8_skip_0 rfl rfl ?_
  refine a_getI (k := 7) F cfX8 dX8_skip_1 fl_X8_25 (by decide) fi_8_7 (ztl_0 h0) (ztk_0 h0) ?_
  refine a_aload_n F dX8_skip_4 rfl rfl ?_
  refine a_getI (k := 6) F cfX8 dX8_skip_5 fl_X8_21 (by decide) fi_8_6 (ztl_0 h0) (ztk_0 h0) ?_
  refine a_iconst F dX8_skip_8 ki_1 ?_
  refine a_isub F dX8_skip_9 ?_
  refine a_icmp_ge F 23 dX8_skip_10 (by decide) ?_ ?_
  · exact a_vret F M0.2.2.1 M0.2.2.2 dX8_skip_23
  · refine a_aload_n F dX8_skip_13 rfl rfl ?_
    refine a_dup F dX8_skip_14 rfl ?_
    refine a_getI (k := 7) F cfX8 dX8_skip_15 fl_X8_25 (by decide) fi_8_7 (ztl_0 h0) (ztk_0 h0) ?_
    refine a_iconst F dX8_skip_18 ki_1 ?_
    refine a_iadd F dX8_skip_19 ?_
    refine a_putI (k := 7) F cfX8 dX8_skip_20 fl_X8_25 (by decide) fi_8_7 rfl rfl (ztl_0 h0) (ztk_0 h0) ?_
    refine a_nmS (fun S_1 => ?_)
    exact a_vret F M0.2.2.1 M0.2.2.2 dX8_skip_23
theorem c_X8_skip (X : CX) {r0 : Nat} (h0 : isTok r0) (S : Mm) : CtV X Z1 yX8_skip cX8_skip 1 1 [.ref r0] S (f_X8_skip r0 S) :=
  ctV_of (by decide +kernel) rfl (Nat.le_of_ble_eq_true rfl) (by simp [Value.category]) z1len fun E F R hra hlk => b_X8_skip ⟨F, R, hra, hlk⟩ h0 S
def f_X8_value (r0 : Nat) (S : Mm) : Option (Int32 × Mm) :=
  gd (inB (S r0 7) 401 = true) <|
  some ((S (r0 + 2) (ix (S r0 7))), S)
set_option maxRecDepth 20000 in
theorem b_X8_value {X : CX} {E : FE} (M0 : MF X E RX8 cX8_value 1 1 (some .int)) {r0 : Nat} (h0 : isTok r0) (S : Mm) : At X E false (mQi X Z1 E) 0 [some (.ref r0)] [] Z1 S 0 0 (f_X8_value r0 S) := by
  have F := M0.1
  unfold f_X8_value
  refine a_aload_n F dX8_value_0 rfl rfl ?_
  refine a_getR (k := 4) F cfX8 dX8_value_1 fl_X8_15 (by decide) fi_8_4 (ztl_0 h0) (ztk_0 h0) (ztr_4 h0) ?_
  refine a_aload_n F dX8_value_4 rfl rfl ?_
  refine a_getI (k := 7) F cfX8 dX8_value_5 fl_X8_25 (by decide) fi_8_7 (ztl_0 h0) (ztk_0 h0) ?_
  refine a_gd (a_iald F dX8_value_8 (ztl_2 h0) (ztk_2 h0) ?_)
  exact a_iret F M0.2.2.1 M0.2.2.2 dX8_value_9
theorem c_X8_value (X : CX) {r0 : Nat} (h0 : isTok r0) (S : Mm) : CtI X Z1 yX8_value cX8_value 1 (some .int) 1 [.ref r0] S (f_X8_value r0 S) :=
  ctI_of (by decide +kernel) rfl (Nat.le_of_ble_eq_true rfl) (by simp [Value.category]) z1len fun E F R hra hlk => b_X8_value ⟨F, R, hra, hlk⟩ h0 S
def f_X3_add_187 (p1 : Int32) (S : Mm) : Option Mm :=
  if (S 187 1) < (400 : Int32) then (
   gd (inB (S 187 1) 400 = true) <|
   nm (uM S 188 (ix (S 187 1)) p1) fun S_1 =>
   nm (uM S_1 187 1 ((S_1 187 1) + (1 : Int32))) fun S_2 =>
   some S_2
  ) else (
   some S
  )
set_option maxRecDepth 20000 in
theorem b_X3_add_187 {X : CX} {E : FE} (M0 : MF X E RX3 cX3_add 2 1 none) (p1 : Int32) (S : Mm) : At X E false (mQv X Z1 E) 0 [some (.ref 187), some (.int p1)] [] Z1 S 0 0 (f_X3_add_187 p1 S) := by
  have F := M0.1
  unfold f_X3_add_187
  refine a_aload_n F dX3_add_0 rfl rfl ?_
  refine a_getI (k := 1) F cfX3 dX3_add_1 fl_X3_15 (by decide) fi_3_1 zl_187 zk_187 ?_
  refine a_aload_n F dX3_add_4 rfl rfl ?_
  refine a_getR (k := 0) F cfX3 dX3_add_5 fl_X3_9 (by decide) fi_3_0 zl_187 zk_187 zr_187_0 ?_
  refine a_alen F dX3_add_8 zl_188 zk_188 kn_400 ?_
  refine a_icmp_lt F 13 dX3_add_9 (by decide) ?_ ?_
  · refine a_aload_n F dX3_add_13 rfl rfl ?_
    refine a_getR (k := 0) F cfX3 dX3_add_14 fl_X3_9 (by decide) fi_3_0 zl_187 zk_187 zr_187_0 ?_
    refine a_aload_n F dX3_add_17 rfl rfl ?_
    refine a_getI (k := 1) F cfX3 dX3_add_18 fl_X3_15 (by decide) fi_3_1 zl_187 zk_187 ?_
    refine a_iload_n F dX3_add_21 rfl rfl ?_
    refine a_gd (a_iast F dX3_add_22 zl_188 zk_188 ?_)
    refine a_nmS (fun S_1 => ?_)
    refine a_aload_n F dX3_add_23 rfl rfl ?_
    refine a_dup F dX3_add_24 rfl ?_
    refine a_getI (k := 1) F cfX3 dX3_add_25 fl_X3_15 (by decide) fi_3_1 zl_187 zk_187 ?_
    refine a_iconst F dX3_add_28 ki_1 ?_
    refine a_iadd F dX3_add_29 ?_
    refine a_putI (k := 1) F cfX3 dX3_add_30 fl_X3_15 (by decide) fi_3_1 rfl rfl zl_187 zk_187 ?_
    refine a_nmS (fun S_2 => ?_)
    exact a_vret F M0.2.2.1 M0.2.2.2 dX3_add_33
  · exact a_vret F M0.2.2.1 M0.2.2.2 dX3_add_12
theorem c_X3_add_187 (X : CX) (p1 : Int32) (S : Mm) : CtV X Z1 yX3_add cX3_add 2 1 [.ref 187, .int p1] S (f_X3_add_187 p1 S) :=
  ctV_of (by decide +kernel) rfl (Nat.le_of_ble_eq_true rfl) (by simp [Value.category]) z1len fun E F R hra hlk => b_X3_add_187 ⟨F, R, hra, hlk⟩ p1 S
def f_X4_readUnit_73 (S : Mm) : Option (Int32 × Mm) :=
  (f_X8_wrong 194 (1 : Int32) S).bind fun q_1 =>
  gd (q_1.1 = 0 ∨ q_1.1 = 1) <| some (q_1.1, q_1.2)
set_option maxRecDepth 20000 in
theorem b_X4_readUnit_73 {X : CX} {E : FE} (M0 : MF X E RX4 cX4_readUnit 1 2 (some .boolean)) (S : Mm) : At X E false (mQi X Z1 E) 73 [some (.ref 186)] [] Z1 S 0 0 (f_X4_readUnit_73 S) := by
  have F := M0.1
  unfold f_X4_readUnit_73
  refine a_aload_n F dX4_readUnit_73 rfl rfl ?_
  refine a_getR (k := 0) F cfX4 dX4_readUnit_74 fl_X4_27 (by decide) fi_4_0 zl_186 zk_186 zr_186_0 ?_
  refine a_iconst F dX4_readUnit_77 ki_1 ?_
  refine a_callVI F (As := [.int (1 : Int32)]) cfX8 rfl (c_X8_wrong X itk_194 (1 : Int32) S) mw_X8_wrong ml_X4_57 im_X8_wrong se_X8_wrong M0.2.1 (Nat.le_of_ble_eq_true rfl) ⟨Nat.zero_le _, Nat.zero_le _⟩ rfl rfl (Nat.le_of_ble_eq_true rfl) zl_194 zk_194 dX4_readUnit_78 rfl (fun q_1 => ?_)
  exact a_gd (a_zret F M0.2.2.1 M0.2.2.2 dX4_readUnit_81)
def f_X4_readUnit_82 (S : Mm) : Option (Int32 × Mm) :=
  (f_X8_skip 194 S).bind fun S_1 =>
  some ((1 : Int32), S_1)
set_option maxRecDepth 20000 in
theorem b_X4_readUnit_82 {X : CX} {E : FE} (M0 : MF X E RX4 cX4_readUnit 1 2 (some .boolean)) (S : Mm) : At X E false (mQi X Z1 E) 82 [some (.ref 186)] [] Z1 S 0 0 (f_X4_readUnit_82 S) := by
  have F := M0.1
  unfold f_X4_readUnit_82
  refine a_aload_n F dX4_readUnit_82 rfl rfl ?_
  refine a_getR (k := 0) F cfX4 dX4_readUnit_83 fl_X4_27 (by decide) fi_4_0 zl_186 zk_186 zr_186_0 ?_
  refine a_callVV F (As := []) cfX8 rfl (c_X8_skip X itk_194 S) mw_X8_skip ml_X4_60 im_X8_skip se_X8_skip M0.2.1 (Nat.le_of_ble_eq_true rfl) ⟨Nat.zero_le _, Nat.zero_le _⟩ rfl rfl (Nat.le_of_ble_eq_true rfl) zl_194 zk_194 dX4_readUnit_86 rfl (fun S_1 => ?_)
  refine a_iconst F dX4_readUnit_89 ki_1 ?_
  exact a_zretK F M0.2.2.1 M0.2.2.2 dX4_readUnit_90 (Or.inr rfl)
def f_X4_readUnit (S : Mm) : Option (Int32 × Mm) :=
  (f_X8_kind 194 S).bind fun q_1 =>
  if q_1.1 = (2 : Int32) then (
   (f_X8_value 194 q_1.2).bind fun q_2 =>
   (f_X3_add_187 q_2.1 q_2.2).bind fun S_3 =>
   f_X4_readUnit_82 S_3
  ) else (
   (f_X8_kind 194 q_1.2).bind fun q_4 =>
   if q_4.1 = (1 : Int32) then (
    (f_X8_value 194 q_4.2).bind fun q_5 =>
    if q_5.1 < (5 : Int32) then (
     f_X4_readUnit_73 q_5.2
    ) else (
     (f_X8_value 194 q_5.2).bind fun q_6 =>
     (f_X3_add_187 (((10000 : Int32) + q_6.1) - (5 : Int32)) q_6.2).bind fun S_7 =>
     f_X4_readUnit_82 S_7
    )
   ) else (
    f_X4_readUnit_73 q_4.2
   )
  )
set_option maxRecDepth 20000 in
theorem b_X4_readUnit {X : CX} {E : FE} (M0 : MF X E RX4 cX4_readUnit 1 2 (some .boolean)) (S : Mm) : At X E false (mQi X Z1 E) 0 [some (.ref 186)] [] Z1 S 0 0 (f_X4_readUnit S) := by
  have F := M0.1
  unfold f_X4_readUnit
  refine a_aload_n F dX4_readUnit_0 rfl rfl ?_
  refine a_getR (k := 0) F cfX4 dX4_readUnit_1 fl_X4_27 (by decide) fi_4_0 zl_186 zk_186 zr_186_0 ?_
  refine a_callVI F (As := []) cfX8 rfl (c_X8_kind X itk_194 S) mw_X8_kind ml_X4_41 im_X8_kind se_X8_kind M0.2.1 (Nat.le_of_ble_eq_true rfl) ⟨Nat.zero_le _, Nat.zero_le _⟩ rfl rfl (Nat.le_of_ble_eq_true rfl) zl_194 zk_194 dX4_readUnit_4 rfl (fun q_1 => ?_)
  refine a_iconst F dX4_readUnit_7 ki_2 ?_
  refine a_icmp_ne F 28 dX4_readUnit_8 (by decide) ?_ ?_
  · refine a_aload_n F dX4_readUnit_11 rfl rfl ?_
    refine a_getR (k := 1) F cfX4 dX4_readUnit_12 fl_X4_12 (by decide) fi_4_1 zl_186 zk_186 zr_186_1 ?_
    refine a_aload_n F dX4_readUnit_15 rfl rfl ?_
    refine a_getR (k := 0) F cfX4 dX4_readUnit_16 fl_X4_27 (by decide) fi_4_0 zl_186 zk_186 zr_186_0 ?_
    refine a_callVI F (As := []) cfX8 rfl (c_X8_value X itk_194 q_1.2) mw_X8_value ml_X4_99 im_X8_value se_X8_value M0.2.1 (Nat.le_of_ble_eq_true rfl) ⟨Nat.zero_le _, Nat.zero_le _⟩ rfl rfl (Nat.le_of_ble_eq_true rfl) zl_194 zk_194 dX4_readUnit_19 rfl (fun q_2 => ?_)
    refine a_callVV F (As := [.int q_2.1]) cfX3 rfl (c_X3_add_187 X q_2.1 q_2.2) mw_X3_add ml_X4_86 im_X3_add se_X3_add M0.2.1 (Nat.le_of_ble_eq_true rfl) ⟨Nat.zero_le _, Nat.zero_le _⟩ rfl rfl (Nat.le_of_ble_eq_true rfl) zl_187 zk_187 dX4_readUnit_22 rfl (fun S_3 => ?_)
    refine a_goto F 82 dX4_readUnit_25 (by decide) ?_
    exact b_X4_readUnit_82 M0 S_3
  · refine a_aload_n F dX4_readUnit_28 rfl rfl ?_
    refine a_getR (k := 0) F cfX4 dX4_readUnit_29 fl_X4_27 (by decide) fi_4_0 zl_186 zk_186 zr_186_0 ?_
    refine a_callVI F (As := []) cfX8 rfl (c_X8_kind X itk_194 q_1.2) mw_X8_kind ml_X4_41 im_X8_kind se_X8_kind M0.2.1 (Nat.le_of_ble_eq_true rfl) ⟨Nat.zero_le _, Nat.zero_le _⟩ rfl rfl (Nat.le_of_ble_eq_true rfl) zl_194 zk_194 dX4_readUnit_32 rfl (fun q_4 => ?_)
    refine a_iconst F dX4_readUnit_35 ki_1 ?_
    refine a_icmp_ne F 73 dX4_readUnit_36 (by decide) ?_ ?_
    · refine a_aload_n F dX4_readUnit_39 rfl rfl ?_
      refine a_getR (k := 0) F cfX4 dX4_readUnit_40 fl_X4_27 (by decide) fi_4_0 zl_186 zk_186 zr_186_0 ?_
      refine a_callVI F (As := []) cfX8 rfl (c_X8_value X itk_194 q_4.2) mw_X8_value ml_X4_99 im_X8_value se_X8_value M0.2.1 (Nat.le_of_ble_eq_true rfl) ⟨Nat.zero_le _, Nat.zero_le _⟩ rfl rfl (Nat.le_of_ble_eq_true rfl) zl_194 zk_194 dX4_readUnit_43 rfl (fun q_5 => ?_)
      refine a_iconst F dX4_readUnit_46 ki_5 ?_
      refine a_icmp_lt F 73 dX4_readUnit_47 (by decide) ?_ ?_
      · exact b_X4_readUnit_73 M0 q_5.2
      · refine a_aload_n F dX4_readUnit_50 rfl rfl ?_
        refine a_getR (k := 1) F cfX4 dX4_readUnit_51 fl_X4_12 (by decide) fi_4_1 zl_186 zk_186 zr_186_1 ?_
        refine a_sipush F dX4_readUnit_54 ks_10000 ?_
        refine a_aload_n F dX4_readUnit_57 rfl rfl ?_
        refine a_getR (k := 0) F cfX4 dX4_readUnit_58 fl_X4_27 (by decide) fi_4_0 zl_186 zk_186 zr_186_0 ?_
        refine a_callVI F (As := []) cfX8 rfl (c_X8_value X itk_194 q_5.2) mw_X8_value ml_X4_99 im_X8_value se_X8_value M0.2.1 (Nat.le_of_ble_eq_true rfl) ⟨Nat.zero_le _, Nat.zero_le _⟩ rfl rfl (Nat.le_of_ble_eq_true rfl) zl_194 zk_194 dX4_readUnit_61 rfl (fun q_6 => ?_)
        refine a_iadd F dX4_readUnit_64 ?_
        refine a_iconst F dX4_readUnit_65 ki_5 ?_
        refine a_isub F dX4_readUnit_66 ?_
        refine a_callVV F (As := [.int (((10000 : Int32) + q_6.1) - (5 : Int32))]) cfX3 rfl (c_X3_add_187 X (((10000 : Int32) + q_6.1) - (5 : Int32)) q_6.2) mw_X3_add ml_X4_86 im_X3_add se_X3_add M0.2.1 (Nat.le_of_ble_eq_true rfl) ⟨Nat.zero_le _, Nat.zero_le _⟩ rfl rfl (Nat.le_of_ble_eq_true rfl) zl_187 zk_187 dX4_readUnit_67 rfl (fun S_7 => ?_)
        refine a_goto F 82 dX4_readUnit_70 (by decide) ?_
        exact b_X4_readUnit_82 M0 S_7
    · exact b_X4_readUnit_73 M0 q_4.2
theorem c_X4_readUnit (X : CX) (S : Mm) : CtI X Z1 yX4_readUnit cX4_readUnit 1 (some .boolean) 2 [.ref 186] S (f_X4_readUnit S) :=
  ctI_of (by decide +kernel) rfl (Nat.le_of_ble_eq_true rfl) (by simp [Value.category]) z1len fun E F R hra hlk => b_X4_readUnit ⟨F, R, hra, hlk⟩ S
def f_X8_isSign_30 (r0 : Nat) (S : Mm) : Option (Int32 × Mm) :=
  some ((0 : Int32), S)
set_option maxRecDepth 20000 in
theorem b_X8_isSign_30 {X : CX} {E : FE} (M0 : MF X E RX8 cX8_isSign 2 1 (some .boolean)) {r0 : Nat} (h0 : isTok r0) (S : Mm) : At X E false (mQi X Z1 E) 30 [none, none] [] Z1 S 0 0 (f_X8_isSign_30 r0 S) := by
  have F := M0.1
  unfold f_X8_isSign_30
  refine a_iconst F dX8_isSign_30 ki_0 ?_
  exact a_zretK F M0.2.2.1 M0.2.2.2 dX8_isSign_31 (Or.inl rfl)
def f_X8_isSign (r0 : Nat) (p1 : Int32) (S : Mm) : Option (Int32 × Mm) :=
  gd (inB (S r0 7) 401 = true) <|
  if (S (r0 + 1) (ix (S r0 7))) = (3 : Int32) then (
   gd (inB (S r0 7) 401 = true) <|
   if (S (r0 + 2) (ix (S r0 7))) = p1 then (
    some ((1 : Int32), S)
   ) else (
    f_X8_isSign_30 r0 S
   )
  ) else (
   f_X8_isSign_30 r0 S
  )
set_option maxRecDepth 20000 in
theorem b_X8_isSign {X : CX} {E : FE} (M0 : MF X E RX8 cX8_isSign 2 1 (some .boolean)) {r0 : Nat} (h0 : isTok r0) (p1 : Int32) (S : Mm) : At X E false (mQi X Z1 E) 0 [some (.ref r0), some (.int p1)] [] Z1 S 0 0 (f_X8_isSign r0 p1 S) := by
  have F := M0.1
  unfold f_X8_isSign
  refine a_aload_n F dX8_isSign_0 rfl rfl ?_
  refine a_getR (k := 3) F cfX8 dX8_isSign_1 fl_X8_9 (by decide) fi_8_3 (ztl_0 h0) (ztk_0 h0) (ztr_3 h0) ?_
  refine a_aload_n F dX8_isSign_4 rfl rfl ?_
  refine a_getI (k := 7) F cfX8 dX8_isSign_5 fl_X8_25 (by decide) fi_8_7 (ztl_0 h0) (ztk_0 h0) ?_
  refine a_gd (a_iald F dX8_isSign_8 (ztl_1 h0) (ztk_1 h0) ?_)
  refine a_iconst F dX8_isSign_9 ki_3 ?_
  refine a_icmp_ne F 30 dX8_isSign_10 (by decide) ?_ ?_
  · refine a_aload_n F dX8_isSign_13 rfl rfl ?_
    refine a_getR (k := 4) F cfX8 dX8_isSign_14 fl_X8_15 (by decide) fi_8_4 (ztl_0 h0) (ztk_0 h0) (ztr_4 h0) ?_
    refine a_aload_n F dX8_isSign_17 rfl rfl ?_
    refine a_getI (k := 7) F cfX8 dX8_isSign_18 fl_X8_25 (by decide) fi_8_7 (ztl_0 h0) (ztk_0 h0) ?_
    refine a_gd (a_iald F dX8_isSign_21 (ztl_2 h0) (ztk_2 h0) ?_)
    refine a_iload_n F dX8_isSign_22 rfl rfl ?_
    refine a_icmp_ne F 30 dX8_isSign_23 (by decide) ?_ ?_
    · refine a_iconst F dX8_isSign_26 ki_1 ?_
      refine a_goto F 31 dX8_isSign_27 (by decide) ?_
      exact a_zretK F M0.2.2.1 M0.2.2.2 dX8_isSign_31 (Or.inr rfl)
    · refine a_mask [false, false] (L' := [none, none]) rfl rfl ?_
      exact b_X8_isSign_30 M0 h0 S
  · refine a_mask [false, false] (L' := [none, none]) rfl rfl ?_
    exact b_X8_isSign_30 M0 h0 S
theorem c_X8_isSign (X : CX) {r0 : Nat} (h0 : isTok r0) (p1 : Int32) (S : Mm) : CtI X Z1 yX8_isSign cX8_isSign 2 (some .boolean) 1 [.ref r0, .int p1] S (f_X8_isSign r0 p1 S) :=
  ctI_of (by decide +kernel) rfl (Nat.le_of_ble_eq_true rfl) (by simp [Value.category]) z1len fun E F R hra hlk => b_X8_isSign ⟨F, R, hra, hlk⟩ h0 p1 S
def f_X4_readDivisor (S : Mm) : Option (Int32 × Mm) :=
  (f_X8_kind 194 S).bind fun q_1 =>
  if q_1.1 = (2 : Int32) then (
   (f_X8_value 194 q_1.2).bind fun q_2 =>
   if q_2.1 = 0 then (
    (f_X8_wrong 194 (2 : Int32) q_2.2).bind fun q_3 =>
    gd (q_3.1 = 0 ∨ q_3.1 = 1) <| some (q_3.1, q_3.2)
   ) else (
    (f_X8_value 194 q_2.2).bind fun q_4 =>
    (f_X3_add_187 q_4.1 q_4.2).bind fun S_5 =>
    (f_X3_add_187 (20003 : Int32) S_5).bind fun S_6 =>
    (f_X8_skip 194 S_6).bind fun S_7 =>
    some ((1 : Int32), S_7)
   )
  ) else (
   (f_X8_wrong 194 (1 : Int32) q_1.2).bind fun q_8 =>
   gd (q_8.1 = 0 ∨ q_8.1 = 1) <| some (q_8.1, q_8.2)
  )
set_option maxRecDepth 20000 in
theorem b_X4_readDivisor {X : CX} {E : FE} (M0 : MF X E RX4 cX4_readDivisor 1 2 (some .boolean)) (S : Mm) : At X E false (mQi X Z1 E) 0 [some (.ref 186)] [] Z1 S 0 0 (f_X4_readDivisor S) := by
  have F := M0.1
  unfold f_X4_readDivisor
  refine a_aload_n F dX4_readDivisor_0 rfl rfl ?_
  refine a_getR (k := 0) F cfX4 dX4_readDivisor_1 fl_X4_27 (by decide) fi_4_0 zl_186 zk_186 zr_186_0 ?_
  refine a_callVI F (As := []) cfX8 rfl (c_X8_kind X itk_194 S) mw_X8_kind ml_X4_41 im_X8_kind se_X8_kind M0.2.1 (Nat.le_of_ble_eq_true rfl) ⟨Nat.zero_le _, Nat.zero_le _⟩ rfl rfl (Nat.le_of_ble_eq_true rfl) zl_194 zk_194 dX4_readDivisor_4 rfl (fun q_1 => ?_)
  refine a_iconst F dX4_readDivisor_7 ki_2 ?_
  refine a_icmp_eq F 20 dX4_readDivisor_8 (by decide) ?_ ?_
  · refine a_aload_n F dX4_readDivisor_20 rfl rfl ?_
    refine a_getR (k := 0) F cfX4 dX4_readDivisor_21 fl_X4_27 (by decide) fi_4_0 zl_186 zk_186 zr_186_0 ?_
    refine a_callVI F (As := []) cfX8 rfl (c_X8_value X itk_194 q_1.2) mw_X8_value ml_X4_99 im_X8_value se_X8_value M0.2.1 (Nat.le_of_ble_eq_true rfl) ⟨Nat.zero_le _, Nat.zero_le _⟩ rfl rfl (Nat.le_of_ble_eq_true rfl) zl_194 zk_194 dX4_readDivisor_24 rfl (fun q_2 => ?_)
    refine a_if_ne F 39 dX4_readDivisor_27 (by decide) ?_ ?_
    · refine a_aload_n F dX4_readDivisor_30 rfl rfl ?_
      refine a_getR (k := 0) F cfX4 dX4_readDivisor_31 fl_X4_27 (by decide) fi_4_0 zl_186 zk_186 zr_186_0 ?_
      refine a_iconst F dX4_readDivisor_34 ki_2 ?_
      refine a_callVI F (As := [.int (2 : Int32)]) cfX8 rfl (c_X8_wrong X itk_194 (2 : Int32) q_2.2) mw_X8_wrong ml_X4_57 im_X8_wrong se_X8_wrong M0.2.1 (Nat.le_of_ble_eq_true rfl) ⟨Nat.zero_le _, Nat.zero_le _⟩ rfl rfl (Nat.le_of_ble_eq_true rfl) zl_194 zk_194 dX4_readDivisor_35 rfl (fun q_3 => ?_)
      exact a_gd (a_zret F M0.2.2.1 M0.2.2.2 dX4_readDivisor_38)
    · refine a_aload_n F dX4_readDivisor_39 rfl rfl ?_
      refine a_getR (k := 1) F cfX4 dX4_readDivisor_40 fl_X4_12 (by decide) fi_4_1 zl_186 zk_186 zr_186_1 ?_
      refine a_aload_n F dX4_readDivisor_43 rfl rfl ?_
      refine a_getR (k := 0) F cfX4 dX4_readDivisor_44 fl_X4_27 (by decide) fi_4_0 zl_186 zk_186 zr_186_0 ?_
      refine a_callVI F (As := []) cfX8 rfl (c_X8_value X itk_194 q_2.2) mw_X8_value ml_X4_99 im_X8_value se_X8_value M0.2.1 (Nat.le_of_ble_eq_true rfl) ⟨Nat.zero_le _, Nat.zero_le _⟩ rfl rfl (Nat.le_of_ble_eq_true rfl) zl_194 zk_194 dX4_readDivisor_47 rfl (fun q_4 => ?_)
      refine a_callVV F (As := [.int q_4.1]) cfX3 rfl (c_X3_add_187 X q_4.1 q_4.2) mw_X3_add ml_X4_86 im_X3_add se_X3_add M0.2.1 (Nat.le_of_ble_eq_true rfl) ⟨Nat.zero_le _, Nat.zero_le _⟩ rfl rfl (Nat.le_of_ble_eq_true rfl) zl_187 zk_187 dX4_readDivisor_50 rfl (fun S_5 => ?_)
      refine a_aload_n F dX4_readDivisor_53 rfl rfl ?_
      refine a_getR (k := 1) F cfX4 dX4_readDivisor_54 fl_X4_12 (by decide) fi_4_1 zl_186 zk_186 zr_186_1 ?_
      refine a_sipush F dX4_readDivisor_57 ks_20003 ?_
      refine a_callVV F (As := [.int (20003 : Int32)]) cfX3 rfl (c_X3_add_187 X (20003 : Int32) S_5) mw_X3_add ml_X4_86 im_X3_add se_X3_add M0.2.1 (Nat.le_of_ble_eq_true rfl) ⟨Nat.zero_le _, Nat.zero_le _⟩ rfl rfl (Nat.le_of_ble_eq_true rfl) zl_187 zk_187 dX4_readDivisor_60 rfl (fun S_6 => ?_)
      refine a_aload_n F dX4_readDivisor_63 rfl rfl ?_
      refine a_getR (k := 0) F cfX4 dX4_readDivisor_64 fl_X4_27 (by decide) fi_4_0 zl_186 zk_186 zr_186_0 ?_
      refine a_callVV F (As := []) cfX8 rfl (c_X8_skip X itk_194 S_6) mw_X8_skip ml_X4_60 im_X8_skip se_X8_skip M0.2.1 (Nat.le_of_ble_eq_true rfl) ⟨Nat.zero_le _, Nat.zero_le _⟩ rfl rfl (Nat.le_of_ble_eq_true rfl) zl_194 zk_194 dX4_readDivisor_67 rfl (fun S_7 => ?_)
      refine a_iconst F dX4_readDivisor_70 ki_1 ?_
      exact a_zretK F M0.2.2.1 M0.2.2.2 dX4_readDivisor_71 (Or.inr rfl)
  · refine a_aload_n F dX4_readDivisor_11 rfl rfl ?_
    refine a_getR (k := 0) F cfX4 dX4_readDivisor_12 fl_X4_27 (by decide) fi_4_0 zl_186 zk_186 zr_186_0 ?_
    refine a_iconst F dX4_readDivisor_15 ki_1 ?_
    refine a_callVI F (As := [.int (1 : Int32)]) cfX8 rfl (c_X8_wrong X itk_194 (1 : Int32) q_1.2) mw_X8_wrong ml_X4_57 im_X8_wrong se_X8_wrong M0.2.1 (Nat.le_of_ble_eq_true rfl) ⟨Nat.zero_le _, Nat.zero_le _⟩ rfl rfl (Nat.le_of_ble_eq_true rfl) zl_194 zk_194 dX4_readDivisor_16 rfl (fun q_8 => ?_)
    exact a_gd (a_zret F M0.2.2.1 M0.2.2.2 dX4_readDivisor_19)
theorem c_X4_readDivisor (X : CX) (S : Mm) : CtI X Z1 yX4_readDivisor cX4_readDivisor 1 (some .boolean) 2 [.ref 186] S (f_X4_readDivisor S) :=
  ctI_of (by decide +kernel) rfl (Nat.le_of_ble_eq_true rfl) (by simp [Value.category]) z1len fun E F R hra hlk => b_X4_readDivisor ⟨F, R, hra, hlk⟩ S
def f_X4_readValue_164 (x1 : Int32) (S : Mm) : Option (Int32 × Mm) :=
  if x1 = (-1 : Int32) then (
   some ((1 : Int32), S)
  ) else (
   (f_X3_add_187 x1 S).bind fun S_1 =>
   some ((1 : Int32), S_1)
  )
set_option maxRecDepth 20000 in
theorem b_X4_readValue_164 {X : CX} {E : FE} (M0 : MF X E RX4 cX4_readValue 4 3 (some .boolean)) (x1 : Int32) (S : Mm) : At X E false (mQi X Z1 E) 164 [some (.ref 186), some (.int x1), none, none] [] Z1 S 0 0 (f_X4_readValue_164 x1 S) := by
  have F := M0.1
  unfold f_X4_readValue_164
  refine a_iload_n F dX4_readValue_164 rfl rfl ?_
  refine a_iconst F dX4_readValue_165 ki_m1 ?_
  refine a_icmp_eq F 177 dX4_readValue_166 (by decide) ?_ ?_
  · refine a_iconst F dX4_readValue_177 ki_1 ?_
    exact a_zretK F M0.2.2.1 M0.2.2.2 dX4_readValue_178 (Or.inr rfl)
  · refine a_aload_n F dX4_readValue_169 rfl rfl ?_
    refine a_getR (k := 1) F cfX4 dX4_readValue_170 fl_X4_12 (by decide) fi_4_1 zl_186 zk_186 zr_186_1 ?_
    refine a_iload_n F dX4_readValue_173 rfl rfl ?_
    refine a_callVV F (As := [.int x1]) cfX3 rfl (c_X3_add_187 X x1 S) mw_X3_add ml_X4_86 im_X3_add se_X3_add M0.2.1 (Nat.le_of_ble_eq_true rfl) ⟨Nat.zero_le _, Nat.zero_le _⟩ rfl rfl (Nat.le_of_ble_eq_true rfl) zl_187 zk_187 dX4_readValue_174 rfl (fun S_1 => ?_)
    refine a_iconst F dX4_readValue_177 ki_1 ?_
    exact a_zretK F M0.2.2.1 M0.2.2.2 dX4_readValue_178 (Or.inr rfl)
def f_X4_readValue_158 (k13 : Int32 → Int32 → Mm → Option (Int32 × Mm)) (x1 x2 : Int32) (S : Mm) : Option (Int32 × Mm) :=
  nm (x2 + (1 : Int32)) fun x2_1 =>
  k13 x1 x2_1 S
set_option maxRecDepth 20000 in
theorem b_X4_readValue_158 {X : CX} {E : FE} (M0 : MF X E RX4 cX4_readValue 4 3 (some .boolean)) {k13 : Int32 → Int32 → Mm → Option (Int32 × Mm)} (hk13 : ∀ (x1 x2 : Int32) (S : Mm), At X E false (mQi X Z1 E) 13 [some (.ref 186), some (.int x1), some (.int x2), none] [] Z1 S 0 0 (k13 x1 x2 S)) (x1 x2 : Int32) (S : Mm) : At X E false (mQi X Z1 E) 158 [some (.ref 186), some (.int x1), some (.int x2), none] [] Z1 S 0 0 (f_X4_readValue_158 k13 x1 x2 S) := by
  have F := M0.1
  unfold f_X4_readValue_158
  refine a_iincN (L' := fun x2_1 => [some (.ref 186), some (.int x1), some (.int x2_1), none]) F dX4_readValue_158 rfl ki_1 (lt_b rfl) (fun _ => rfl) (fun x2_1 => ?_)
  refine a_goto F 13 dX4_readValue_161 (by decide) ?_
  exact hk13 x1 x2_1 S
def f_X4_readValue_72 (k13 : Int32 → Int32 → Mm → Option (Int32 × Mm)) (x2 t0 : Int32) (S : Mm) : Option (Int32 × Mm) :=
  (f_X8_skip 194 S).bind fun S_1 =>
  (f_X4_readUnit S_1).bind fun q_2 =>
  if q_2.1 = 0 then (
   some ((0 : Int32), q_2.2)
  ) else (
   f_X4_readValue_158 k13 t0 x2 q_2.2
  )
set_option maxRecDepth 20000 in
theorem b_X4_readValue_72 {X : CX} {E : FE} (M0 : MF X E RX4 cX4_readValue 4 3 (some .boolean)) {k13 : Int32 → Int32 → Mm → Option (Int32 × Mm)} (hk13 : ∀ (x1 x2 : Int32) (S : Mm), At X E false (mQi X Z1 E) 13 [some (.ref 186), some (.int x1), some (.int x2), none] [] Z1 S 0 0 (k13 x1 x2 S)) (x2 t0 : Int32) (S : Mm) : At X E false (mQi X Z1 E) 72 [some (.ref 186), none, some (.int x2), none] [.int t0] Z1 S 0 0 (f_X4_readValue_72 k13 x2 t0 S) := by
  have F := M0.1
  unfold f_X4_readValue_72
  refine a_istore_n (L' := [some (.ref 186), some (.int t0), some (.int x2), none]) F dX4_readValue_72 rfl (lt_b rfl) rfl ?_
  refine a_aload_n F dX4_readValue_73 rfl rfl ?_
  refine a_getR (k := 0) F cfX4 dX4_readValue_74 fl_X4_27 (by decide) fi_4_0 zl_186 zk_186 zr_186_0 ?_
  refine a_callVV F (As := []) cfX8 rfl (c_X8_skip X itk_194 S) mw_X8_skip ml_X4_60 im_X8_skip se_X8_skip M0.2.1 (Nat.le_of_ble_eq_true rfl) ⟨Nat.zero_le _, Nat.zero_le _⟩ rfl rfl (Nat.le_of_ble_eq_true rfl) zl_194 zk_194 dX4_readValue_77 rfl (fun S_1 => ?_)
  refine a_aload_n F dX4_readValue_80 rfl rfl ?_
  refine a_callVI F (As := []) cfX4 rfl (c_X4_readUnit X S_1) mw_X4_readUnit ml_X4_93 im_X4_readUnit se_X4_readUnit M0.2.1 (Nat.le_of_ble_eq_true rfl) ⟨Nat.zero_le _, Nat.zero_le _⟩ rfl rfl (Nat.le_of_ble_eq_true rfl) zl_186 zk_186 dX4_readValue_81 rfl (fun q_2 => ?_)
  refine a_if_ne F 158 dX4_readValue_84 (by decide) ?_ ?_
  · refine a_iconst F dX4_readValue_87 ki_0 ?_
    exact a_zretK F M0.2.2.1 M0.2.2.2 dX4_readValue_88 (Or.inl rfl)
  · exact b_X4_readValue_158 M0 hk13 t0 x2 q_2.2
def f_X4_readValue_59 (k13 : Int32 → Int32 → Mm → Option (Int32 × Mm)) (x2 x3 : Int32) (S : Mm) : Option (Int32 × Mm) :=
  if x3 = 0 then (
   f_X4_readValue_72 k13 x2 (20001 : Int32) S
  ) else (
   f_X4_readValue_72 k13 x2 (20000 : Int32) S
  )
set_option maxRecDepth 20000 in
theorem b_X4_readValue_59 {X : CX} {E : FE} (M0 : MF X E RX4 cX4_readValue 4 3 (some .boolean)) {k13 : Int32 → Int32 → Mm → Option (Int32 × Mm)} (hk13 : ∀ (x1 x2 : Int32) (S : Mm), At X E false (mQi X Z1 E) 13 [some (.ref 186), some (.int x1), some (.int x2), none] [] Z1 S 0 0 (k13 x1 x2 S)) (x2 x3 : Int32) (S : Mm) : At X E false (mQi X Z1 E) 59 [some (.ref 186), none, some (.int x2), some (.int x3)] [] Z1 S 0 0 (f_X4_readValue_59 k13 x2 x3 S) := by
  have F := M0.1
  unfold f_X4_readValue_59
  refine a_iload_n F dX4_readValue_59 rfl rfl ?_
  refine a_if_eq F 69 dX4_readValue_60 (by decide) ?_ ?_
  · refine a_sipush F dX4_readValue_69 ks_20001 ?_
    refine a_mask [true, false, true, false] (L' := [some (.ref 186), none, some (.int x2), none]) rfl rfl ?_
    exact b_X4_readValue_72 M0 hk13 x2 (20001 : Int32) S
  · refine a_sipush F dX4_readValue_63 ks_20000 ?_
    refine a_goto F 72 dX4_readValue_66 (by decide) ?_
    refine a_mask [true, false, true, false] (L' := [some (.ref 186), none, some (.int x2), none]) rfl rfl ?_
    exact b_X4_readValue_72 M0 hk13 x2 (20000 : Int32) S
def f_X4_readValue_46 (k13 : Int32 → Int32 → Mm → Option (Int32 × Mm)) (x1 x2 x3 : Int32) (S : Mm) : Option (Int32 × Mm) :=
  if x1 = (-1 : Int32) then (
   f_X4_readValue_59 k13 x2 x3 S
  ) else (
   (f_X3_add_187 x1 S).bind fun S_1 =>
   f_X4_readValue_59 k13 x2 x3 S_1
  )
set_option maxRecDepth 20000 in
theorem b_X4_readValue_46 {X : CX} {E : FE} (M0 : MF X E RX4 cX4_readValue 4 3 (some .boolean)) {k13 : Int32 → Int32 → Mm → Option (Int32 × Mm)} (hk13 : ∀ (x1 x2 : Int32) (S : Mm), At X E false (mQi X Z1 E) 13 [some (.ref 186), some (.int x1), some (.int x2), none] [] Z1 S 0 0 (k13 x1 x2 S)) (x1 x2 x3 : Int32) (S : Mm) : At X E false (mQi X Z1 E) 46 [some (.ref 186), some (.int x1), some (.int x2), some (.int x3)] [] Z1 S 0 0 (f_X4_readValue_46 k13 x1 x2 x3 S) := by
  have F := M0.1
  unfold f_X4_readValue_46
  refine a_iload_n F dX4_readValue_46 rfl rfl ?_
  refine a_iconst F dX4_readValue_47 ki_m1 ?_
  refine a_icmp_eq F 59 dX4_readValue_48 (by decide) ?_ ?_
  · refine a_mask [true, false, true, true] (L' := [some (.ref 186), none, some (.int x2), some (.int x3)]) rfl rfl ?_
    exact b_X4_readValue_59 M0 hk13 x2 x3 S
  · refine a_aload_n F dX4_readValue_51 rfl rfl ?_
    refine a_getR (k := 1) F cfX4 dX4_readValue_52 fl_X4_12 (by decide) fi_4_1 zl_186 zk_186 zr_186_1 ?_
    refine a_iload_n F dX4_readValue_55 rfl rfl ?_
    refine a_callVV F (As := [.int x1]) cfX3 rfl (c_X3_add_187 X x1 S) mw_X3_add ml_X4_86 im_X3_add se_X3_add M0.2.1 (Nat.le_of_ble_eq_true rfl) ⟨Nat.zero_le _, Nat.zero_le _⟩ rfl rfl (Nat.le_of_ble_eq_true rfl) zl_187 zk_187 dX4_readValue_56 rfl (fun S_1 => ?_)
    refine a_mask [true, false, true, true] (L' := [some (.ref 186), none, some (.int x2), some (.int x3)]) rfl rfl ?_
    exact b_X4_readValue_59 M0 hk13 x2 x3 S_1
def f_X4_readValue_13b (k13 : Int32 → Int32 → Mm → Option (Int32 × Mm)) (x1 x2 : Int32) (S : Mm) : Option (Int32 × Mm) :=
  if (400 : Int32) ≤ x2 then (
   f_X4_readValue_164 x1 S
  ) else (
   (f_X8_isSign 194 (43 : Int32) S).bind fun q_1 =>
   if q_1.1 = 0 then (
    (f_X8_isSign 194 (45 : Int32) q_1.2).bind fun q_2 =>
    if q_2.1 = 0 then (
     (f_X8_isSign 194 (42 : Int32) q_2.2).bind fun q_3 =>
     if q_3.1 = 0 then (
      (f_X8_isSign 194 (47 : Int32) q_3.2).bind fun q_4 =>
      if q_4.1 = 0 then (
       f_X4_readValue_164 x1 q_4.2
      ) else (
       (f_X8_skip 194 q_4.2).bind fun S_5 =>
       (f_X4_readDivisor S_5).bind fun q_6 =>
       if q_6.1 = 0 then (
        some ((0 : Int32), q_6.2)
       ) else (
        f_X4_readValue_158 k13 x1 x2 q_6.2
       )
      )
     ) else (
      (f_X8_skip 194 q_3.2).bind fun S_7 =>
      (f_X4_readUnit S_7).bind fun q_8 =>
      if q_8.1 = 0 then (
       some ((0 : Int32), q_8.2)
      ) else (
       (f_X3_add_187 (20002 : Int32) q_8.2).bind fun S_9 =>
       f_X4_readValue_158 k13 x1 x2 S_9
      )
     )
    ) else (
     f_X4_readValue_46 k13 x1 x2 q_1.1 q_2.2
    )
   ) else (
    f_X4_readValue_46 k13 x1 x2 q_1.1 q_1.2
   )
  )
set_option maxRecDepth 20000 in
theorem b_X4_readValue_13b {X : CX} {E : FE} (M0 : MF X E RX4 cX4_readValue 4 3 (some .boolean)) {k13 : Int32 → Int32 → Mm → Option (Int32 × Mm)} (hk13 : ∀ (x1 x2 : Int32) (S : Mm), At X E false (mQi X Z1 E) 13 [some (.ref 186), some (.int x1), some (.int x2), none] [] Z1 S 0 0 (k13 x1 x2 S)) (x1 x2 : Int32) (S : Mm) : At X E false (mQi X Z1 E) 13 [some (.ref 186), some (.int x1), some (.int x2), none] [] Z1 S 0 0 (f_X4_readValue_13b k13 x1 x2 S) := by
  have F := M0.1
  unfold f_X4_readValue_13b
  refine a_iload_n F dX4_readValue_13 rfl rfl ?_
  refine a_sipush F dX4_readValue_14 ks_400 ?_
  refine a_icmp_ge F 164 dX4_readValue_17 (by decide) ?_ ?_
  · refine a_mask [true, true, false, false] (L' := [some (.ref 186), some (.int x1), none, none]) rfl rfl ?_
    exact b_X4_readValue_164 M0 x1 S
  · refine a_aload_n F dX4_readValue_20 rfl rfl ?_
    refine a_getR (k := 0) F cfX4 dX4_readValue_21 fl_X4_27 (by decide) fi_4_0 zl_186 zk_186 zr_186_0 ?_
    refine a_bipush F dX4_readValue_24 kb_43 ?_
    refine a_callVI F (As := [.int (43 : Int32)]) cfX8 rfl (c_X8_isSign X itk_194 (43 : Int32) S) mw_X8_isSign ml_X4_90 im_X8_isSign se_X8_isSign M0.2.1 (Nat.le_of_ble_eq_true rfl) ⟨Nat.zero_le _, Nat.zero_le _⟩ rfl rfl (Nat.le_of_ble_eq_true rfl) zl_194 zk_194 dX4_readValue_26 rfl (fun q_1 => ?_)
    refine a_istore_n (L' := [some (.ref 186), some (.int x1), some (.int x2), some (.int q_1.1)]) F dX4_readValue_29 rfl (lt_b rfl) rfl ?_
    refine a_iload_n F dX4_readValue_30 rfl rfl ?_
    refine a_if_ne F 46 dX4_readValue_31 (by decide) ?_ ?_
    · refine a_aload_n F dX4_readValue_34 rfl rfl ?_
      refine a_getR (k := 0) F cfX4 dX4_readValue_35 fl_X4_27 (by decide) fi_4_0 zl_186 zk_186 zr_186_0 ?_
      refine a_bipush F dX4_readValue_38 kb_45 ?_
      refine a_callVI F (As := [.int (45 : Int32)]) cfX8 rfl (c_X8_isSign X itk_194 (45 : Int32) q_1.2) mw_X8_isSign ml_X4_90 im_X8_isSign se_X8_isSign M0.2.1 (Nat.le_of_ble_eq_true rfl) ⟨Nat.zero_le _, Nat.zero_le _⟩ rfl rfl (Nat.le_of_ble_eq_true rfl) zl_194 zk_194 dX4_readValue_40 rfl (fun q_2 => ?_)
      refine a_if_eq F 89 dX4_readValue_43 (by decide) ?_ ?_
      · refine a_aload_n F dX4_readValue_89 rfl rfl ?_
        refine a_getR (k := 0) F cfX4 dX4_readValue_90 fl_X4_27 (by decide) fi_4_0 zl_186 zk_186 zr_186_0 ?_
        refine a_bipush F dX4_readValue_93 kb_42 ?_
        refine a_callVI F (As := [.int (42 : Int32)]) cfX8 rfl (c_X8_isSign X itk_194 (42 : Int32) q_2.2) mw_X8_isSign ml_X4_90 im_X8_isSign se_X8_isSign M0.2.1 (Nat.le_of_ble_eq_true rfl) ⟨Nat.zero_le _, Nat.zero_le _⟩ rfl rfl (Nat.le_of_ble_eq_true rfl) zl_194 zk_194 dX4_readValue_95 rfl (fun q_3 => ?_)
        refine a_if_eq F 130 dX4_readValue_98 (by decide) ?_ ?_
        · refine a_aload_n F dX4_readValue_130 rfl rfl ?_
          refine a_getR (k := 0) F cfX4 dX4_readValue_131 fl_X4_27 (by decide) fi_4_0 zl_186 zk_186 zr_186_0 ?_
          refine a_bipush F dX4_readValue_134 kb_47 ?_
          refine a_callVI F (As := [.int (47 : Int32)]) cfX8 rfl (c_X8_isSign X itk_194 (47 : Int32) q_3.2) mw_X8_isSign ml_X4_90 im_X8_isSign se_X8_isSign M0.2.1 (Nat.le_of_ble_eq_true rfl) ⟨Nat.zero_le _, Nat.zero_le _⟩ rfl rfl (Nat.le_of_ble_eq_true rfl) zl_194 zk_194 dX4_readValue_136 rfl (fun q_4 => ?_)
          refine a_if_eq F 164 dX4_readValue_139 (by decide) ?_ ?_
          · refine a_mask [true, true, false, false] (L' := [some (.ref 186), some (.int x1), none, none]) rfl rfl ?_
            exact b_X4_readValue_164 M0 x1 q_4.2
          · refine a_aload_n F dX4_readValue_142 rfl rfl ?_
            refine a_getR (k := 0) F cfX4 dX4_readValue_143 fl_X4_27 (by decide) fi_4_0 zl_186 zk_186 zr_186_0 ?_
            refine a_callVV F (As := []) cfX8 rfl (c_X8_skip X itk_194 q_4.2) mw_X8_skip ml_X4_60 im_X8_skip se_X8_skip M0.2.1 (Nat.le_of_ble_eq_true rfl) ⟨Nat.zero_le _, Nat.zero_le _⟩ rfl rfl (Nat.le_of_ble_eq_true rfl) zl_194 zk_194 dX4_readValue_146 rfl (fun S_5 => ?_)
            refine a_aload_n F dX4_readValue_149 rfl rfl ?_
            refine a_callVI F (As := []) cfX4 rfl (c_X4_readDivisor X S_5) mw_X4_readDivisor ml_X4_96 im_X4_readDivisor se_X4_readDivisor M0.2.1 (Nat.le_of_ble_eq_true rfl) ⟨Nat.zero_le _, Nat.zero_le _⟩ rfl rfl (Nat.le_of_ble_eq_true rfl) zl_186 zk_186 dX4_readValue_150 rfl (fun q_6 => ?_)
            refine a_if_ne F 158 dX4_readValue_153 (by decide) ?_ ?_
            · refine a_iconst F dX4_readValue_156 ki_0 ?_
              exact a_zretK F M0.2.2.1 M0.2.2.2 dX4_readValue_157 (Or.inl rfl)
            · refine a_mask [true, true, true, false] (L' := [some (.ref 186), some (.int x1), some (.int x2), none]) rfl rfl ?_
              exact b_X4_readValue_158 M0 hk13 x1 x2 q_6.2
        · refine a_aload_n F dX4_readValue_101 rfl rfl ?_
          refine a_getR (k := 0) F cfX4 dX4_readValue_102 fl_X4_27 (by decide) fi_4_0 zl_186 zk_186 zr_186_0 ?_
          refine a_callVV F (As := []) cfX8 rfl (c_X8_skip X itk_194 q_3.2) mw_X8_skip ml_X4_60 im_X8_skip se_X8_skip M0.2.1 (Nat.le_of_ble_eq_true rfl) ⟨Nat.zero_le _, Nat.zero_le _⟩ rfl rfl (Nat.le_of_ble_eq_true rfl) zl_194 zk_194 dX4_readValue_105 rfl (fun S_7 => ?_)
          refine a_aload_n F dX4_readValue_108 rfl rfl ?_
          refine a_callVI F (As := []) cfX4 rfl (c_X4_readUnit X S_7) mw_X4_readUnit ml_X4_93 im_X4_readUnit se_X4_readUnit M0.2.1 (Nat.le_of_ble_eq_true rfl) ⟨Nat.zero_le _, Nat.zero_le _⟩ rfl rfl (Nat.le_of_ble_eq_true rfl) zl_186 zk_186 dX4_readValue_109 rfl (fun q_8 => ?_)
          refine a_if_ne F 117 dX4_readValue_112 (by decide) ?_ ?_
          · refine a_iconst F dX4_readValue_115 ki_0 ?_
            exact a_zretK F M0.2.2.1 M0.2.2.2 dX4_readValue_116 (Or.inl rfl)
          · refine a_aload_n F dX4_readValue_117 rfl rfl ?_
            refine a_getR (k := 1) F cfX4 dX4_readValue_118 fl_X4_12 (by decide) fi_4_1 zl_186 zk_186 zr_186_1 ?_
            refine a_sipush F dX4_readValue_121 ks_20002 ?_
            refine a_callVV F (As := [.int (20002 : Int32)]) cfX3 rfl (c_X3_add_187 X (20002 : Int32) q_8.2) mw_X3_add ml_X4_86 im_X3_add se_X3_add M0.2.1 (Nat.le_of_ble_eq_true rfl) ⟨Nat.zero_le _, Nat.zero_le _⟩ rfl rfl (Nat.le_of_ble_eq_true rfl) zl_187 zk_187 dX4_readValue_124 rfl (fun S_9 => ?_)
            refine a_goto F 158 dX4_readValue_127 (by decide) ?_
            refine a_mask [true, true, true, false] (L' := [some (.ref 186), some (.int x1), some (.int x2), none]) rfl rfl ?_
            exact b_X4_readValue_158 M0 hk13 x1 x2 S_9
      · exact b_X4_readValue_46 M0 hk13 x1 x2 q_1.1 q_2.2
    · exact b_X4_readValue_46 M0 hk13 x1 x2 q_1.1 q_1.2
def f_X4_readValue_13 : Nat → Int32 → Int32 → Mm → Option (Int32 × Mm) :=
  itr (fun _ _ _ => none) (fun k => f_X4_readValue_13b k)
theorem b_X4_readValue_13 {X : CX} {E : FE} (M0 : MF X E RX4 cX4_readValue 4 3 (some .boolean)) : ∀ (n : Nat) (x1 x2 : Int32) (S : Mm), At X E false (mQi X Z1 E) 13 [some (.ref 186), some (.int x1), some (.int x2), none] [] Z1 S 0 0 (f_X4_readValue_13  n x1 x2 S) := by
  intro n
  induction n with
  | zero => intros; exact a_none
  | succ n ih => intro x1 x2 S; exact b_X4_readValue_13b M0 ih x1 x2 S
def f_X4_readValue (S : Mm) : Option (Int32 × Mm) :=
  (f_X4_readUnit S).bind fun q_1 =>
  if q_1.1 = 0 then (
   some ((0 : Int32), q_1.2)
  ) else (
   f_X4_readValue_13 FU (-1 : Int32) (0 : Int32) q_1.2
  )
set_option maxRecDepth 20000 in
theorem b_X4_readValue {X : CX} {E : FE} (M0 : MF X E RX4 cX4_readValue 4 3 (some .boolean)) (S : Mm) : At X E false (mQi X Z1 E) 0 [some (.ref 186), none, none, none] [] Z1 S 0 0 (f_X4_readValue S) := by
  have F := M0.1
  unfold f_X4_readValue
  refine a_aload_n F dX4_readValue_0 rfl rfl ?_
  refine a_callVI F (As := []) cfX4 rfl (c_X4_readUnit X S) mw_X4_readUnit ml_X4_93 im_X4_readUnit se_X4_readUnit M0.2.1 (Nat.le_of_ble_eq_true rfl) ⟨Nat.zero_le _, Nat.zero_le _⟩ rfl rfl (Nat.le_of_ble_eq_true rfl) zl_186 zk_186 dX4_readValue_1 rfl (fun q_1 => ?_)
  refine a_if_ne F 9 dX4_readValue_4 (by decide) ?_ ?_
  · refine a_iconst F dX4_readValue_7 ki_0 ?_
    exact a_zretK F M0.2.2.1 M0.2.2.2 dX4_readValue_8 (Or.inl rfl)
  · refine a_iconst F dX4_readValue_9 ki_m1 ?_
    refine a_istore_n (L' := [some (.ref 186), some (.int (-1 : Int32)), none, none]) F dX4_readValue_10 rfl (lt_b rfl) rfl ?_
    refine a_iconst F dX4_readValue_11 ki_0 ?_
    refine a_istore_n (L' := [some (.ref 186), some (.int (-1 : Int32)), some (.int (0 : Int32)), none]) F dX4_readValue_12 rfl (lt_b rfl) rfl ?_
    exact b_X4_readValue_13 M0 FU (-1 : Int32) (0 : Int32) q_1.2
theorem c_X4_readValue (X : CX) (S : Mm) : CtI X Z1 yX4_readValue cX4_readValue 4 (some .boolean) 3 [.ref 186] S (f_X4_readValue S) :=
  ctI_of (by decide +kernel) rfl (Nat.le_of_ble_eq_true rfl) (by simp [Value.category]) z1len fun E F R hra hlk => b_X4_readValue ⟨F, R, hra, hlk⟩ S
def f_X8_skipSign (r0 : Nat) (p1 : Int32) (S : Mm) : Option (Int32 × Mm) :=
  (f_X8_isSign r0 p1 S).bind fun q_1 =>
  if q_1.1 = 0 then (
   (f_X8_wrong r0 (1 : Int32) q_1.2).bind fun q_2 =>
   gd (q_2.1 = 0 ∨ q_2.1 = 1) <| some (q_2.1, q_2.2)
  ) else (
   (f_X8_skip r0 q_1.2).bind fun S_3 =>
   some ((1 : Int32), S_3)
  )
set_option maxRecDepth 20000 in
theorem b_X8_skipSign {X : CX} {E : FE} (M0 : MF X E RX8 cX8_skipSign 2 2 (some .boolean)) {r0 : Nat} (h0 : isTok r0) (p1 : Int32) (S : Mm) : At X E false (mQi X Z1 E) 0 [some (.ref r0), some (.int p1)] [] Z1 S 0 0 (f_X8_skipSign r0 p1 S) := by
  have F := M0.1
  unfold f_X8_skipSign
  refine a_aload_n F dX8_skipSign_0 rfl rfl ?_
  refine a_iload_n F dX8_skipSign_1 rfl rfl ?_
  refine a_callVI F (As := [.int p1]) cfX8 rfl (c_X8_isSign X h0 p1 S) mw_X8_isSign ml_X8_109 im_X8_isSign se_X8_isSign M0.2.1 (Nat.le_of_ble_eq_true rfl) ⟨Nat.zero_le _, Nat.zero_le _⟩ rfl rfl (Nat.le_of_ble_eq_true rfl) (ztl_0 h0) (ztk_0 h0) dX8_skipSign_2 rfl (fun q_1 => ?_)
  refine a_if_ne F 14 dX8_skipSign_5 (by decide) ?_ ?_
  · refine a_aload_n F dX8_skipSign_8 rfl rfl ?_
    refine a_iconst F dX8_skipSign_9 ki_1 ?_
    refine a_callVI F (As := [.int (1 : Int32)]) cfX8 rfl (c_X8_wrong X h0 (1 : Int32) q_1.2) mw_X8_wrong ml_X8_103 im_X8_wrong se_X8_wrong M0.2.1 (Nat.le_of_ble_eq_true rfl) ⟨Nat.zero_le _, Nat.zero_le _⟩ rfl rfl (Nat.le_of_ble_eq_true rfl) (ztl_0 h0) (ztk_0 h0) dX8_skipSign_10 rfl (fun q_2 => ?_)
    exact a_gd (a_zret F M0.2.2.1 M0.2.2.2 dX8_skipSign_13)
  · refine a_aload_n F dX8_skipSign_14 rfl rfl ?_
    refine a_callVV F (As := []) cfX8 rfl (c_X8_skip X h0 q_1.2) mw_X8_skip ml_X8_106 im_X8_skip se_X8_skip M0.2.1 (Nat.le_of_ble_eq_true rfl) ⟨Nat.zero_le _, Nat.zero_le _⟩ rfl rfl (Nat.le_of_ble_eq_true rfl) (ztl_0 h0) (ztk_0 h0) dX8_skipSign_15 rfl (fun S_3 => ?_)
    refine a_iconst F dX8_skipSign_18 ki_1 ?_
    exact a_zretK F M0.2.2.1 M0.2.2.2 dX8_skipSign_19 (Or.inr rfl)
theorem c_X8_skipSign (X : CX) {r0 : Nat} (h0 : isTok r0) (p1 : Int32) (S : Mm) : CtI X Z1 yX8_skipSign cX8_skipSign 2 (some .boolean) 2 [.ref r0, .int p1] S (f_X8_skipSign r0 p1 S) :=
  ctI_of (by decide +kernel) rfl (Nat.le_of_ble_eq_true rfl) (by simp [Value.category]) z1len fun E F R hra hlk => b_X8_skipSign ⟨F, R, hra, hlk⟩ h0 p1 S
def f_X4_readCondition_112 (g1 g2 : Int32 → Mm → Option (Int32 × Mm)) (x2 : Int32) (S : Mm) : Option (Int32 × Mm) :=
  if x2 = 0 then (
   some ((1 : Int32), S)
  ) else (
   (f_X3_add_187 (20009 : Int32) S).bind fun S_1 =>
   some ((1 : Int32), S_1)
  )
set_option maxRecDepth 20000 in
theorem b_X4_readCondition_112 {X : CX} {E : FE} {dg : Nat} (M0 : MF X E RX4 cX4_readCondition 4 (dg + 1) (some .boolean)) {g1 g2 : Int32 → Mm → Option (Int32 × Mm)} (hg1 : ∀ (p : Int32) (S : Mm), CtI X Z1 yX4_readCondition cX4_readCondition 4 (some .boolean) dg [.ref 186, .int p] S (g1 p S)) (hg2 : ∀ (p : Int32) (S : Mm), CtI X Z1 yX4_readClaim cX4_readClaim 4 (some .boolean) dg [.ref 186, .int p] S (g2 p S)) (hdg : 3 ≤ dg) (x2 : Int32) (S : Mm) : At X E false (mQi X Z1 E) 112 [some (.ref 186), none, some (.int x2), none] [] Z1 S 0 0 (f_X4_readCondition_112 g1 g2 x2 S) := by
  have F := M0.1
  unfold f_X4_readCondition_112
  refine a_iload_n F dX4_readCondition_112 rfl rfl ?_
  refine a_if_eq F 126 dX4_readCondition_113 (by decide) ?_ ?_
  · refine a_iconst F dX4_readCondition_126 ki_1 ?_
    exact a_zretK F M0.2.2.1 M0.2.2.2 dX4_readCondition_127 (Or.inr rfl)
  · refine a_aload_n F dX4_readCondition_116 rfl rfl ?_
    refine a_getR (k := 1) F cfX4 dX4_readCondition_117 fl_X4_12 (by decide) fi_4_1 zl_186 zk_186 zr_186_1 ?_
    refine a_sipush F dX4_readCondition_120 ks_20009 ?_
    refine a_callVV F (As := [.int (20009 : Int32)]) cfX3 rfl (c_X3_add_187 X (20009 : Int32) S) mw_X3_add ml_X4_86 im_X3_add se_X3_add M0.2.1 (by omega) ⟨Nat.zero_le _, Nat.zero_le _⟩ rfl rfl (Nat.le_of_ble_eq_true rfl) zl_187 zk_187 dX4_readCondition_123 rfl (fun S_1 => ?_)
    refine a_iconst F dX4_readCondition_126 ki_1 ?_
    exact a_zretK F M0.2.2.1 M0.2.2.2 dX4_readCondition_127 (Or.inr rfl)
def f_X4_readCondition_106 (g1 g2 : Int32 → Mm → Option (Int32 × Mm)) (k14 : Int32 → Int32 → Int32 → Mm → Option (Int32 × Mm)) (x1 x2 x3 : Int32) (S : Mm) : Option (Int32 × Mm) :=
  nm (x3 + (1 : Int32)) fun x3_1 =>
  k14 x1 x2 x3_1 S
set_option maxRecDepth 20000 in
theorem b_X4_readCondition_106 {X : CX} {E : FE} {dg : Nat} (M0 : MF X E RX4 cX4_readCondition 4 (dg + 1) (some .boolean)) {g1 g2 : Int32 → Mm → Option (Int32 × Mm)} (hg1 : ∀ (p : Int32) (S : Mm), CtI X Z1 yX4_readCondition cX4_readCondition 4 (some .boolean) dg [.ref 186, .int p] S (g1 p S)) (hg2 : ∀ (p : Int32) (S : Mm), CtI X Z1 yX4_readClaim cX4_readClaim 4 (some .boolean) dg [.ref 186, .int p] S (g2 p S)) (hdg : 3 ≤ dg) {k14 : Int32 → Int32 → Int32 → Mm → Option (Int32 × Mm)} (hk14 : ∀ (x1 x2 x3 : Int32) (S : Mm), At X E false (mQi X Z1 E) 14 [some (.ref 186), some (.int x1), some (.int x2), some (.int x3)] [] Z1 S 0 0 (k14 x1 x2 x3 S)) (x1 x2 x3 : Int32) (S : Mm) : At X E false (mQi X Z1 E) 106 [some (.ref 186), some (.int x1), some (.int x2), some (.int x3)] [] Z1 S 0 0 (f_X4_readCondition_106 g1 g2 k14 x1 x2 x3 S) := by
  have F := M0.1
  unfold f_X4_readCondition_106
  refine a_iincN (L' := fun x3_1 => [some (.ref 186), some (.int x1), some (.int x2), some (.int x3_1)]) F dX4_readCondition_106 rfl ki_1 (lt_b rfl) (fun _ => rfl) (fun x3_1 => ?_)
  refine a_goto F 14 dX4_readCondition_109 (by decide) ?_
  exact hk14 x1 x2 x3_1 S
def f_X4_readCondition_87 (g1 g2 : Int32 → Mm → Option (Int32 × Mm)) (k14 : Int32 → Int32 → Int32 → Mm → Option (Int32 × Mm)) (x1 x3 : Int32) (S : Mm) : Option (Int32 × Mm) :=
  (f_X8_skip 194 S).bind fun S_1 =>
  (g2 x1 S_1).bind fun q_2 =>
  if q_2.1 = 0 then (
   some ((0 : Int32), q_2.2)
  ) else (
   f_X4_readCondition_106 g1 g2 k14 x1 (1 : Int32) x3 q_2.2
  )
set_option maxRecDepth 20000 in
theorem b_X4_readCondition_87 {X : CX} {E : FE} {dg : Nat} (M0 : MF X E RX4 cX4_readCondition 4 (dg + 1) (some .boolean)) {g1 g2 : Int32 → Mm → Option (Int32 × Mm)} (hg1 : ∀ (p : Int32) (S : Mm), CtI X Z1 yX4_readCondition cX4_readCondition 4 (some .boolean) dg [.ref 186, .int p] S (g1 p S)) (hg2 : ∀ (p : Int32) (S : Mm), CtI X Z1 yX4_readClaim cX4_readClaim 4 (some .boolean) dg [.ref 186, .int p] S (g2 p S)) (hdg : 3 ≤ dg) {k14 : Int32 → Int32 → Int32 → Mm → Option (Int32 × Mm)} (hk14 : ∀ (x1 x2 x3 : Int32) (S : Mm), At X E false (mQi X Z1 E) 14 [some (.ref 186), some (.int x1), some (.int x2), some (.int x3)] [] Z1 S 0 0 (k14 x1 x2 x3 S)) (x1 x3 : Int32) (S : Mm) : At X E false (mQi X Z1 E) 87 [some (.ref 186), some (.int x1), none, some (.int x3)] [] Z1 S 0 0 (f_X4_readCondition_87 g1 g2 k14 x1 x3 S) := by
  have F := M0.1
  unfold f_X4_readCondition_87
  refine a_iconst F dX4_readCondition_87 ki_1 ?_
  refine a_istore_n (L' := [some (.ref 186), some (.int x1), some (.int (1 : Int32)), some (.int x3)]) F dX4_readCondition_88 rfl (lt_b rfl) rfl ?_
  refine a_aload_n F dX4_readCondition_89 rfl rfl ?_
  refine a_getR (k := 0) F cfX4 dX4_readCondition_90 fl_X4_27 (by decide) fi_4_0 zl_186 zk_186 zr_186_0 ?_
  refine a_callVV F (As := []) cfX8 rfl (c_X8_skip X itk_194 S) mw_X8_skip ml_X4_60 im_X8_skip se_X8_skip M0.2.1 (by omega) ⟨Nat.zero_le _, Nat.zero_le _⟩ rfl rfl (Nat.le_of_ble_eq_true rfl) zl_194 zk_194 dX4_readCondition_93 rfl (fun S_1 => ?_)
  refine a_aload_n F dX4_readCondition_96 rfl rfl ?_
  refine a_iload_n F dX4_readCondition_97 rfl rfl ?_
  refine a_callVI F (As := [.int x1]) cfX4 rfl (hg2 x1 S_1) mw_X4_readClaim ml_X4_83 im_X4_readClaim se_X4_readClaim M0.2.1 (by omega) ⟨Nat.zero_le _, Nat.zero_le _⟩ rfl rfl (Nat.le_of_ble_eq_true rfl) zl_186 zk_186 dX4_readCondition_98 rfl (fun q_2 => ?_)
  refine a_if_ne F 106 dX4_readCondition_101 (by decide) ?_ ?_
  · refine a_iconst F dX4_readCondition_104 ki_0 ?_
    exact a_zretK F M0.2.2.1 M0.2.2.2 dX4_readCondition_105 (Or.inl rfl)
  · exact b_X4_readCondition_106 M0 hg1 hg2 hdg hk14 x1 (1 : Int32) x3 q_2.2
def f_X4_readCondition_14b (g1 g2 : Int32 → Mm → Option (Int32 × Mm)) (k14 : Int32 → Int32 → Int32 → Mm → Option (Int32 × Mm)) (x1 x2 x3 : Int32) (S : Mm) : Option (Int32 × Mm) :=
  if (400 : Int32) ≤ x3 then (
   f_X4_readCondition_112 g1 g2 x2 S
  ) else (
   (f_X8_isWord 194 (3 : Int32) S).bind fun q_1 =>
   if q_1.1 = 0 then (
    (f_X8_isWord 194 (2 : Int32) q_1.2).bind fun q_2 =>
    if q_2.1 = 0 then (
     f_X4_readCondition_112 g1 g2 x2 q_2.2
    ) else (
     if x2 = 0 then (
      f_X4_readCondition_87 g1 g2 k14 x1 x3 q_2.2
     ) else (
      (f_X3_add_187 (20009 : Int32) q_2.2).bind fun S_3 =>
      f_X4_readCondition_87 g1 g2 k14 x1 x3 S_3
     )
    )
   ) else (
    (f_X8_skip 194 q_1.2).bind fun S_4 =>
    (g2 x1 S_4).bind fun q_5 =>
    if q_5.1 = 0 then (
     some ((0 : Int32), q_5.2)
    ) else (
     (f_X3_add_187 (20008 : Int32) q_5.2).bind fun S_6 =>
     f_X4_readCondition_106 g1 g2 k14 x1 x2 x3 S_6
    )
   )
  )
set_option maxRecDepth 20000 in
theorem b_X4_readCondition_14b {X : CX} {E : FE} {dg : Nat} (M0 : MF X E RX4 cX4_readCondition 4 (dg + 1) (some .boolean)) {g1 g2 : Int32 → Mm → Option (Int32 × Mm)} (hg1 : ∀ (p : Int32) (S : Mm), CtI X Z1 yX4_readCondition cX4_readCondition 4 (some .boolean) dg [.ref 186, .int p] S (g1 p S)) (hg2 : ∀ (p : Int32) (S : Mm), CtI X Z1 yX4_readClaim cX4_readClaim 4 (some .boolean) dg [.ref 186, .int p] S (g2 p S)) (hdg : 3 ≤ dg) {k14 : Int32 → Int32 → Int32 → Mm → Option (Int32 × Mm)} (hk14 : ∀ (x1 x2 x3 : Int32) (S : Mm), At X E false (mQi X Z1 E) 14 [some (.ref 186), some (.int x1), some (.int x2), some (.int x3)] [] Z1 S 0 0 (k14 x1 x2 x3 S)) (x1 x2 x3 : Int32) (S : Mm) : At X E false (mQi X Z1 E) 14 [some (.ref 186), some (.int x1), some (.int x2), some (.int x3)] [] Z1 S 0 0 (f_X4_readCondition_14b g1 g2 k14 x1 x2 x3 S) := by
  have F := M0.1
  unfold f_X4_readCondition_14b
  refine a_iload_n F dX4_readCondition_14 rfl rfl ?_
  refine a_sipush F dX4_readCondition_15 ks_400 ?_
  refine a_icmp_ge F 112 dX4_readCondition_18 (by decide) ?_ ?_
  · refine a_mask [true, false, true, false] (L' := [some (.ref 186), none, some (.int x2), none]) rfl rfl ?_
    exact b_X4_readCondition_112 M0 hg1 hg2 hdg x2 S
  · refine a_aload_n F dX4_readCondition_21 rfl rfl ?_
    refine a_getR (k := 0) F cfX4 dX4_readCondition_22 fl_X4_27 (by decide) fi_4_0 zl_186 zk_186 zr_186_0 ?_
    refine a_iconst F dX4_readCondition_25 ki_3 ?_
    refine a_callVI F (As := [.int (3 : Int32)]) cfX8 rfl (c_X8_isWord X itk_194 (3 : Int32) S) mw_X8_isWord ml_X4_53 im_X8_isWord se_X8_isWord M0.2.1 (by omega) ⟨Nat.zero_le _, Nat.zero_le _⟩ rfl rfl (Nat.le_of_ble_eq_true rfl) zl_194 zk_194 dX4_readCondition_26 rfl (fun q_1 => ?_)
    refine a_if_eq F 62 dX4_readCondition_29 (by decide) ?_ ?_
    · refine a_aload_n F dX4_readCondition_62 rfl rfl ?_
      refine a_getR (k := 0) F cfX4 dX4_readCondition_63 fl_X4_27 (by decide) fi_4_0 zl_186 zk_186 zr_186_0 ?_
      refine a_iconst F dX4_readCondition_66 ki_2 ?_
      refine a_callVI F (As := [.int (2 : Int32)]) cfX8 rfl (c_X8_isWord X itk_194 (2 : Int32) q_1.2) mw_X8_isWord ml_X4_53 im_X8_isWord se_X8_isWord M0.2.1 (by omega) ⟨Nat.zero_le _, Nat.zero_le _⟩ rfl rfl (Nat.le_of_ble_eq_true rfl) zl_194 zk_194 dX4_readCondition_67 rfl (fun q_2 => ?_)
      refine a_if_eq F 112 dX4_readCondition_70 (by decide) ?_ ?_
      · refine a_mask [true, false, true, false] (L' := [some (.ref 186), none, some (.int x2), none]) rfl rfl ?_
        exact b_X4_readCondition_112 M0 hg1 hg2 hdg x2 q_2.2
      · refine a_iload_n F dX4_readCondition_73 rfl rfl ?_
        refine a_if_eq F 87 dX4_readCondition_74 (by decide) ?_ ?_
        · refine a_mask [true, true, false, true] (L' := [some (.ref 186), some (.int x1), none, some (.int x3)]) rfl rfl ?_
          exact b_X4_readCondition_87 M0 hg1 hg2 hdg hk14 x1 x3 q_2.2
        · refine a_aload_n F dX4_readCondition_77 rfl rfl ?_
          refine a_getR (k := 1) F cfX4 dX4_readCondition_78 fl_X4_12 (by decide) fi_4_1 zl_186 zk_186 zr_186_1 ?_
          refine a_sipush F dX4_readCondition_81 ks_20009 ?_
          refine a_callVV F (As := [.int (20009 : Int32)]) cfX3 rfl (c_X3_add_187 X (20009 : Int32) q_2.2) mw_X3_add ml_X4_86 im_X3_add se_X3_add M0.2.1 (by omega) ⟨Nat.zero_le _, Nat.zero_le _⟩ rfl rfl (Nat.le_of_ble_eq_true rfl) zl_187 zk_187 dX4_readCondition_84 rfl (fun S_3 => ?_)
          refine a_mask [true, true, false, true] (L' := [some (.ref 186), some (.int x1), none, some (.int x3)]) rfl rfl ?_
          exact b_X4_readCondition_87 M0 hg1 hg2 hdg hk14 x1 x3 S_3
    · refine a_aload_n F dX4_readCondition_32 rfl rfl ?_
      refine a_getR (k := 0) F cfX4 dX4_readCondition_33 fl_X4_27 (by decide) fi_4_0 zl_186 zk_186 zr_186_0 ?_
      refine a_callVV F (As := []) cfX8 rfl (c_X8_skip X itk_194 q_1.2) mw_X8_skip ml_X4_60 im_X8_skip se_X8_skip M0.2.1 (by omega) ⟨Nat.zero_le _, Nat.zero_le _⟩ rfl rfl (Nat.le_of_ble_eq_true rfl) zl_194 zk_194 dX4_readCondition_36 rfl (fun S_4 => ?_)
      refine a_aload_n F dX4_readCondition_39 rfl rfl ?_
      refine a_iload_n F dX4_readCondition_40 rfl rfl ?_
      refine a_callVI F (As := [.int x1]) cfX4 rfl (hg2 x1 S_4) mw_X4_readClaim ml_X4_83 im_X4_readClaim se_X4_readClaim M0.2.1 (by omega) ⟨Nat.zero_le _, Nat.zero_le _⟩ rfl rfl (Nat.le_of_ble_eq_true rfl) zl_186 zk_186 dX4_readCondition_41 rfl (fun q_5 => ?_)
      refine a_if_ne F 49 dX4_readCondition_44 (by decide) ?_ ?_
      · refine a_iconst F dX4_readCondition_47 ki_0 ?_
        exact a_zretK F M0.2.2.1 M0.2.2.2 dX4_readCondition_48 (Or.inl rfl)
      · refine a_aload_n F dX4_readCondition_49 rfl rfl ?_
        refine a_getR (k := 1) F cfX4 dX4_readCondition_50 fl_X4_12 (by decide) fi_4_1 zl_186 zk_186 zr_186_1 ?_
        refine a_sipush F dX4_readCondition_53 ks_20008 ?_
        refine a_callVV F (As := [.int (20008 : Int32)]) cfX3 rfl (c_X3_add_187 X (20008 : Int32) q_5.2) mw_X3_add ml_X4_86 im_X3_add se_X3_add M0.2.1 (by omega) ⟨Nat.zero_le _, Nat.zero_le _⟩ rfl rfl (Nat.le_of_ble_eq_true rfl) zl_187 zk_187 dX4_readCondition_56 rfl (fun S_6 => ?_)
        refine a_goto F 106 dX4_readCondition_59 (by decide) ?_
        exact b_X4_readCondition_106 M0 hg1 hg2 hdg hk14 x1 x2 x3 S_6
def f_X4_readCondition_14 (g1 g2 : Int32 → Mm → Option (Int32 × Mm)) : Nat → Int32 → Int32 → Int32 → Mm → Option (Int32 × Mm) :=
  itr (fun _ _ _ _ => none) (fun k => f_X4_readCondition_14b g1 g2 k)
theorem b_X4_readCondition_14 {X : CX} {E : FE} {dg : Nat} (M0 : MF X E RX4 cX4_readCondition 4 (dg + 1) (some .boolean)) {g1 g2 : Int32 → Mm → Option (Int32 × Mm)} (hg1 : ∀ (p : Int32) (S : Mm), CtI X Z1 yX4_readCondition cX4_readCondition 4 (some .boolean) dg [.ref 186, .int p] S (g1 p S)) (hg2 : ∀ (p : Int32) (S : Mm), CtI X Z1 yX4_readClaim cX4_readClaim 4 (some .boolean) dg [.ref 186, .int p] S (g2 p S)) (hdg : 3 ≤ dg) : ∀ (n : Nat) (x1 x2 x3 : Int32) (S : Mm), At X E false (mQi X Z1 E) 14 [some (.ref 186), some (.int x1), some (.int x2), some (.int x3)] [] Z1 S 0 0 (f_X4_readCondition_14 g1 g2 n x1 x2 x3 S) := by
  intro n
  induction n with
  | zero => intros; exact a_none
  | succ n ih => intro x1 x2 x3 S; exact b_X4_readCondition_14b M0 hg1 hg2 hdg ih x1 x2 x3 S
def f_X4_readCondition_s (g1 g2 : Int32 → Mm → Option (Int32 × Mm)) (p1 : Int32) (S : Mm) : Option (Int32 × Mm) :=
  (g2 p1 S).bind fun q_1 =>
  if q_1.1 = 0 then (
   some ((0 : Int32), q_1.2)
  ) else (
   f_X4_readCondition_14 g1 g2 FU p1 (0 : Int32) (0 : Int32) q_1.2
  )
set_option maxRecDepth 20000 in
theorem b_X4_readCondition {X : CX} {E : FE} {dg : Nat} (M0 : MF X E RX4 cX4_readCondition 4 (dg + 1) (some .boolean)) {g1 g2 : Int32 → Mm → Option (Int32 × Mm)} (hg1 : ∀ (p : Int32) (S : Mm), CtI X Z1 yX4_readCondition cX4_readCondition 4 (some .boolean) dg [.ref 186, .int p] S (g1 p S)) (hg2 : ∀ (p : Int32) (S : Mm), CtI X Z1 yX4_readClaim cX4_readClaim 4 (some .boolean) dg [.ref 186, .int p] S (g2 p S)) (hdg : 3 ≤ dg) (p1 : Int32) (S : Mm) : At X E false (mQi X Z1 E) 0 [some (.ref 186), some (.int p1), none, none] [] Z1 S 0 0 (f_X4_readCondition_s g1 g2 p1 S) := by
  have F := M0.1
  unfold f_X4_readCondition_s
  refine a_aload_n F dX4_readCondition_0 rfl rfl ?_
  refine a_iload_n F dX4_readCondition_1 rfl rfl ?_
  refine a_callVI F (As := [.int p1]) cfX4 rfl (hg2 p1 S) mw_X4_readClaim ml_X4_83 im_X4_readClaim se_X4_readClaim M0.2.1 (by omega) ⟨Nat.zero_le _, Nat.zero_le _⟩ rfl rfl (Nat.le_of_ble_eq_true rfl) zl_186 zk_186 dX4_readCondition_2 rfl (fun q_1 => ?_)
  refine a_if_ne F 10 dX4_readCondition_5 (by decide) ?_ ?_
  · refine a_iconst F dX4_readCondition_8 ki_0 ?_
    exact a_zretK F M0.2.2.1 M0.2.2.2 dX4_readCondition_9 (Or.inl rfl)
  · refine a_iconst F dX4_readCondition_10 ki_0 ?_
    refine a_istore_n (L' := [some (.ref 186), some (.int p1), some (.int (0 : Int32)), none]) F dX4_readCondition_11 rfl (lt_b rfl) rfl ?_
    refine a_iconst F dX4_readCondition_12 ki_0 ?_
    refine a_istore_n (L' := [some (.ref 186), some (.int p1), some (.int (0 : Int32)), some (.int (0 : Int32))]) F dX4_readCondition_13 rfl (lt_b rfl) rfl ?_
    exact b_X4_readCondition_14 M0 hg1 hg2 hdg FU p1 (0 : Int32) (0 : Int32) q_1.2
def f_X4_readClaim_77 (g1 g2 : Int32 → Mm → Option (Int32 × Mm)) (S : Mm) : Option (Int32 × Mm) :=
  some ((0 : Int32), S)
set_option maxRecDepth 20000 in
theorem b_X4_readClaim_77 {X : CX} {E : FE} {dg : Nat} (M0 : MF X E RX4 cX4_readClaim 4 (dg + 1) (some .boolean)) {g1 g2 : Int32 → Mm → Option (Int32 × Mm)} (hg1 : ∀ (p : Int32) (S : Mm), CtI X Z1 yX4_readCondition cX4_readCondition 4 (some .boolean) dg [.ref 186, .int p] S (g1 p S)) (hg2 : ∀ (p : Int32) (S : Mm), CtI X Z1 yX4_readClaim cX4_readClaim 4 (some .boolean) dg [.ref 186, .int p] S (g2 p S)) (hdg : 3 ≤ dg) (S : Mm) : At X E false (mQi X Z1 E) 77 [none, none, none, none] [] Z1 S 0 0 (f_X4_readClaim_77 g1 g2 S) := by
  have F := M0.1
  unfold f_X4_readClaim_77
  refine a_iconst F dX4_readClaim_77 ki_0 ?_
  exact a_zretK F M0.2.2.1 M0.2.2.2 dX4_readClaim_78 (Or.inl rfl)
def f_X4_readClaim_25 (g1 g2 : Int32 → Mm → Option (Int32 × Mm)) (x1 x2 : Int32) (S : Mm) : Option (Int32 × Mm) :=
  if x1 < (8 : Int32) then (
   (f_X8_skip 194 S).bind fun S_1 =>
   if x2 = 0 then (
    (g1 (x1 + (1 : Int32)) S_1).bind fun q_2 =>
    if q_2.1 = 0 then (
     f_X4_readClaim_77 g1 g2 q_2.2
    ) else (
     (f_X8_skipSign 194 (41 : Int32) q_2.2).bind fun q_3 =>
     if q_3.1 = 0 then (
      f_X4_readClaim_77 g1 g2 q_3.2
     ) else (
      some ((1 : Int32), q_3.2)
     )
    )
   ) else (
    (g2 (x1 + (1 : Int32)) S_1).bind fun q_4 =>
    if q_4.1 = 0 then (
     some ((0 : Int32), q_4.2)
    ) else (
     (f_X3_add_187 (20007 : Int32) q_4.2).bind fun S_5 =>
     some ((1 : Int32), S_5)
    )
   )
  ) else (
   (f_X8_wrong 194 (3 : Int32) S).bind fun q_6 =>
   gd (q_6.1 = 0 ∨ q_6.1 = 1) <| some (q_6.1, q_6.2)
  )
set_option maxRecDepth 20000 in
theorem b_X4_readClaim_25 {X : CX} {E : FE} {dg : Nat} (M0 : MF X E RX4 cX4_readClaim 4 (dg + 1) (some .boolean)) {g1 g2 : Int32 → Mm → Option (Int32 × Mm)} (hg1 : ∀ (p : Int32) (S : Mm), CtI X Z1 yX4_readCondition cX4_readCondition 4 (some .boolean) dg [.ref 186, .int p] S (g1 p S)) (hg2 : ∀ (p : Int32) (S : Mm), CtI X Z1 yX4_readClaim cX4_readClaim 4 (some .boolean) dg [.ref 186, .int p] S (g2 p S)) (hdg : 3 ≤ dg) (x1 x2 : Int32) (S : Mm) : At X E false (mQi X Z1 E) 25 [some (.ref 186), some (.int x1), some (.int x2), none] [] Z1 S 0 0 (f_X4_readClaim_25 g1 g2 x1 x2 S) := by
  have F := M0.1
  unfold f_X4_readClaim_25
  refine a_iload_n F dX4_readClaim_25 rfl rfl ?_
  refine a_bipush F dX4_readClaim_26 kb_8 ?_
  refine a_icmp_lt F 40 dX4_readClaim_28 (by decide) ?_ ?_
  · refine a_aload_n F dX4_readClaim_40 rfl rfl ?_
    refine a_getR (k := 0) F cfX4 dX4_readClaim_41 fl_X4_27 (by decide) fi_4_0 zl_186 zk_186 zr_186_0 ?_
    refine a_callVV F (As := []) cfX8 rfl (c_X8_skip X itk_194 S) mw_X8_skip ml_X4_60 im_X8_skip se_X8_skip M0.2.1 (by omega) ⟨Nat.zero_le _, Nat.zero_le _⟩ rfl rfl (Nat.le_of_ble_eq_true rfl) zl_194 zk_194 dX4_readClaim_44 rfl (fun S_1 => ?_)
    refine a_iload_n F dX4_readClaim_47 rfl rfl ?_
    refine a_if_ne F 79 dX4_readClaim_48 (by decide) ?_ ?_
    · refine a_aload_n F dX4_readClaim_51 rfl rfl ?_
      refine a_iload_n F dX4_readClaim_52 rfl rfl ?_
      refine a_iconst F dX4_readClaim_53 ki_1 ?_
      refine a_iadd F dX4_readClaim_54 ?_
      refine a_callVI F (As := [.int (x1 + (1 : Int32))]) cfX4 rfl (hg1 (x1 + (1 : Int32)) S_1) mw_X4_readCondition ml_X4_73 im_X4_readCondition se_X4_readCondition M0.2.1 (by omega) ⟨Nat.zero_le _, Nat.zero_le _⟩ rfl rfl (Nat.le_of_ble_eq_true rfl) zl_186 zk_186 dX4_readClaim_55 rfl (fun q_2 => ?_)
      refine a_if_eq F 77 dX4_readClaim_58 (by decide) ?_ ?_
      · refine a_mask [false, false, false, false] (L' := [none, none, none, none]) rfl rfl ?_
        exact b_X4_readClaim_77 M0 hg1 hg2 hdg q_2.2
      · refine a_aload_n F dX4_readClaim_61 rfl rfl ?_
        refine a_getR (k := 0) F cfX4 dX4_readClaim_62 fl_X4_27 (by decide) fi_4_0 zl_186 zk_186 zr_186_0 ?_
        refine a_bipush F dX4_readClaim_65 kb_41 ?_
        refine a_callVI F (As := [.int (41 : Int32)]) cfX8 rfl (c_X8_skipSign X itk_194 (41 : Int32) q_2.2) mw_X8_skipSign ml_X4_79 im_X8_skipSign se_X8_skipSign M0.2.1 (by omega) ⟨Nat.zero_le _, Nat.zero_le _⟩ rfl rfl (Nat.le_of_ble_eq_true rfl) zl_194 zk_194 dX4_readClaim_67 rfl (fun q_3 => ?_)
        refine a_if_eq F 77 dX4_readClaim_70 (by decide) ?_ ?_
        · refine a_mask [false, false, false, false] (L' := [none, none, none, none]) rfl rfl ?_
          exact b_X4_readClaim_77 M0 hg1 hg2 hdg q_3.2
        · refine a_iconst F dX4_readClaim_73 ki_1 ?_
          refine a_goto F 78 dX4_readClaim_74 (by decide) ?_
          exact a_zretK F M0.2.2.1 M0.2.2.2 dX4_readClaim_78 (Or.inr rfl)
    · refine a_aload_n F dX4_readClaim_79 rfl rfl ?_
      refine a_iload_n F dX4_readClaim_80 rfl rfl ?_
      refine a_iconst F dX4_readClaim_81 ki_1 ?_
      refine a_iadd F dX4_readClaim_82 ?_
      refine a_callVI F (As := [.int (x1 + (1 : Int32))]) cfX4 rfl (hg2 (x1 + (1 : Int32)) S_1) mw_X4_readClaim ml_X4_83 im_X4_readClaim se_X4_readClaim M0.2.1 (by omega) ⟨Nat.zero_le _, Nat.zero_le _⟩ rfl rfl (Nat.le_of_ble_eq_true rfl) zl_186 zk_186 dX4_readClaim_83 rfl (fun q_4 => ?_)
      refine a_if_ne F 91 dX4_readClaim_86 (by decide) ?_ ?_
      · refine a_iconst F dX4_readClaim_89 ki_0 ?_
        exact a_zretK F M0.2.2.1 M0.2.2.2 dX4_readClaim_90 (Or.inl rfl)
      · refine a_aload_n F dX4_readClaim_91 rfl rfl ?_
        refine a_getR (k := 1) F cfX4 dX4_readClaim_92 fl_X4_12 (by decide) fi_4_1 zl_186 zk_186 zr_186_1 ?_
        refine a_sipush F dX4_readClaim_95 ks_20007 ?_
        refine a_callVV F (As := [.int (20007 : Int32)]) cfX3 rfl (c_X3_add_187 X (20007 : Int32) q_4.2) mw_X3_add ml_X4_86 im_X3_add se_X3_add M0.2.1 (by omega) ⟨Nat.zero_le _, Nat.zero_le _⟩ rfl rfl (Nat.le_of_ble_eq_true rfl) zl_187 zk_187 dX4_readClaim_98 rfl (fun S_5 => ?_)
        refine a_iconst F dX4_readClaim_101 ki_1 ?_
        exact a_zretK F M0.2.2.1 M0.2.2.2 dX4_readClaim_102 (Or.inr rfl)
  · refine a_aload_n F dX4_readClaim_31 rfl rfl ?_
    refine a_getR (k := 0) F cfX4 dX4_readClaim_32 fl_X4_27 (by decide) fi_4_0 zl_186 zk_186 zr_186_0 ?_
    refine a_iconst F dX4_readClaim_35 ki_3 ?_
    refine a_callVI F (As := [.int (3 : Int32)]) cfX8 rfl (c_X8_wrong X itk_194 (3 : Int32) S) mw_X8_wrong ml_X4_57 im_X8_wrong se_X8_wrong M0.2.1 (by omega) ⟨Nat.zero_le _, Nat.zero_le _⟩ rfl rfl (Nat.le_of_ble_eq_true rfl) zl_194 zk_194 dX4_readClaim_36 rfl (fun q_6 => ?_)
    exact a_gd (a_zret F M0.2.2.1 M0.2.2.2 dX4_readClaim_39)
def f_X4_readClaim_175 (g1 g2 : Int32 → Mm → Option (Int32 × Mm)) (x3 : Int32) (S : Mm) : Option (Int32 × Mm) :=
  (f_X8_skip 194 S).bind fun S_1 =>
  (f_X4_readValue S_1).bind fun q_2 =>
  if q_2.1 = 0 then (
   some ((0 : Int32), q_2.2)
  ) else (
   (f_X3_add_187 x3 q_2.2).bind fun S_3 =>
   some ((1 : Int32), S_3)
  )
set_option maxRecDepth 20000 in
theorem b_X4_readClaim_175 {X : CX} {E : FE} {dg : Nat} (M0 : MF X E RX4 cX4_readClaim 4 (dg + 1) (some .boolean)) {g1 g2 : Int32 → Mm → Option (Int32 × Mm)} (hg1 : ∀ (p : Int32) (S : Mm), CtI X Z1 yX4_readCondition cX4_readCondition 4 (some .boolean) dg [.ref 186, .int p] S (g1 p S)) (hg2 : ∀ (p : Int32) (S : Mm), CtI X Z1 yX4_readClaim cX4_readClaim 4 (some .boolean) dg [.ref 186, .int p] S (g2 p S)) (hdg : 3 ≤ dg) (x3 : Int32) (S : Mm) : At X E false (mQi X Z1 E) 175 [some (.ref 186), none, none, some (.int x3)] [] Z1 S 0 0 (f_X4_readClaim_175 g1 g2 x3 S) := by
  have F := M0.1
  unfold f_X4_readClaim_175
  refine a_aload_n F dX4_readClaim_175 rfl rfl ?_
  refine a_getR (k := 0) F cfX4 dX4_readClaim_176 fl_X4_27 (by decide) fi_4_0 zl_186 zk_186 zr_186_0 ?_
  refine a_callVV F (As := []) cfX8 rfl (c_X8_skip X itk_194 S) mw_X8_skip ml_X4_60 im_X8_skip se_X8_skip M0.2.1 (by omega) ⟨Nat.zero_le _, Nat.zero_le _⟩ rfl rfl (Nat.le_of_ble_eq_true rfl) zl_194 zk_194 dX4_readClaim_179 rfl (fun S_1 => ?_)
  refine a_aload_n F dX4_readClaim_182 rfl rfl ?_
  refine a_callVI F (As := []) cfX4 rfl (c_X4_readValue X S_1) mw_X4_readValue ml_X4_67 im_X4_readValue se_X4_readValue M0.2.1 (by omega) ⟨Nat.zero_le _, Nat.zero_le _⟩ rfl rfl (Nat.le_of_ble_eq_true rfl) zl_186 zk_186 dX4_readClaim_183 rfl (fun q_2 => ?_)
  refine a_if_ne F 191 dX4_readClaim_186 (by decide) ?_ ?_
  · refine a_iconst F dX4_readClaim_189 ki_0 ?_
    exact a_zretK F M0.2.2.1 M0.2.2.2 dX4_readClaim_190 (Or.inl rfl)
  · refine a_aload_n F dX4_readClaim_191 rfl rfl ?_
    refine a_getR (k := 1) F cfX4 dX4_readClaim_192 fl_X4_12 (by decide) fi_4_1 zl_186 zk_186 zr_186_1 ?_
    refine a_iload_n F dX4_readClaim_195 rfl rfl ?_
    refine a_callVV F (As := [.int x3]) cfX3 rfl (c_X3_add_187 X x3 q_2.2) mw_X3_add ml_X4_86 im_X3_add se_X3_add M0.2.1 (by omega) ⟨Nat.zero_le _, Nat.zero_le _⟩ rfl rfl (Nat.le_of_ble_eq_true rfl) zl_187 zk_187 dX4_readClaim_196 rfl (fun S_3 => ?_)
    refine a_iconst F dX4_readClaim_199 ki_1 ?_
    exact a_zretK F M0.2.2.1 M0.2.2.2 dX4_readClaim_200 (Or.inr rfl)
def f_X4_readClaim_s (g1 g2 : Int32 → Mm → Option (Int32 × Mm)) (p1 : Int32) (S : Mm) : Option (Int32 × Mm) :=
  (f_X8_isWord 194 (4 : Int32) S).bind fun q_1 =>
  if q_1.1 = 0 then (
   (f_X8_isSign 194 (40 : Int32) q_1.2).bind fun q_2 =>
   if q_2.1 = 0 then (
    (f_X4_readValue q_2.2).bind fun q_3 =>
    if q_3.1 = 0 then (
     some ((0 : Int32), q_3.2)
    ) else (
     (f_X8_isSign 194 (60 : Int32) q_3.2).bind fun q_4 =>
     if q_4.1 = 0 then (
      (f_X8_isSign 194 (62 : Int32) q_4.2).bind fun q_5 =>
      if q_5.1 = 0 then (
       (f_X8_isSign 194 (61 : Int32) q_5.2).bind fun q_6 =>
       if q_6.1 = 0 then (
        (f_X8_wrong 194 (1 : Int32) q_6.2).bind fun q_7 =>
        gd (q_7.1 = 0 ∨ q_7.1 = 1) <| some (q_7.1, q_7.2)
       ) else (
        f_X4_readClaim_175 g1 g2 (20005 : Int32) q_6.2
       )
      ) else (
       f_X4_readClaim_175 g1 g2 (20006 : Int32) q_5.2
      )
     ) else (
      f_X4_readClaim_175 g1 g2 (20004 : Int32) q_4.2
     )
    )
   ) else (
    f_X4_readClaim_25 g1 g2 p1 q_1.1 q_2.2
   )
  ) else (
   f_X4_readClaim_25 g1 g2 p1 q_1.1 q_1.2
  )
set_option maxRecDepth 20000 in
theorem b_X4_readClaim {X : CX} {E : FE} {dg : Nat} (M0 : MF X E RX4 cX4_readClaim 4 (dg + 1) (some .boolean)) {g1 g2 : Int32 → Mm → Option (Int32 × Mm)} (hg1 : ∀ (p : Int32) (S : Mm), CtI X Z1 yX4_readCondition cX4_readCondition 4 (some .boolean) dg [.ref 186, .int p] S (g1 p S)) (hg2 : ∀ (p : Int32) (S : Mm), CtI X Z1 yX4_readClaim cX4_readClaim 4 (some .boolean) dg [.ref 186, .int p] S (g2 p S)) (hdg : 3 ≤ dg) (p1 : Int32) (S : Mm) : At X E false (mQi X Z1 E) 0 [some (.ref 186), some (.int p1), none, none] [] Z1 S 0 0 (f_X4_readClaim_s g1 g2 p1 S) := by
  have F := M0.1
  unfold f_X4_readClaim_s
  refine a_aload_n F dX4_readClaim_0 rfl rfl ?_
  refine a_getR (k := 0) F cfX4 dX4_readClaim_1 fl_X4_27 (by decide) fi_4_0 zl_186 zk_186 zr_186_0 ?_
  refine a_iconst F dX4_readClaim_4 ki_4 ?_
  refine a_callVI F (As := [.int (4 : Int32)]) cfX8 rfl (c_X8_isWord X itk_194 (4 : Int32) S) mw_X8_isWord ml_X4_53 im_X8_isWord se_X8_isWord M0.2.1 (by omega) ⟨Nat.zero_le _, Nat.zero_le _⟩ rfl rfl (Nat.le_of_ble_eq_true rfl) zl_194 zk_194 dX4_readClaim_5 rfl (fun q_1 => ?_)
  refine a_istore_n (L' := [some (.ref 186), some (.int p1), some (.int q_1.1), none]) F dX4_readClaim_8 rfl (lt_b rfl) rfl ?_
  refine a_iload_n F dX4_readClaim_9 rfl rfl ?_
  refine a_if_ne F 25 dX4_readClaim_10 (by decide) ?_ ?_
  · refine a_aload_n F dX4_readClaim_13 rfl rfl ?_
    refine a_getR (k := 0) F cfX4 dX4_readClaim_14 fl_X4_27 (by decide) fi_4_0 zl_186 zk_186 zr_186_0 ?_
    refine a_bipush F dX4_readClaim_17 kb_40 ?_
    refine a_callVI F (As := [.int (40 : Int32)]) cfX8 rfl (c_X8_isSign X itk_194 (40 : Int32) q_1.2) mw_X8_isSign ml_X4_90 im_X8_isSign se_X8_isSign M0.2.1 (by omega) ⟨Nat.zero_le _, Nat.zero_le _⟩ rfl rfl (Nat.le_of_ble_eq_true rfl) zl_194 zk_194 dX4_readClaim_19 rfl (fun q_2 => ?_)
    refine a_if_eq F 103 dX4_readClaim_22 (by decide) ?_ ?_
    · refine a_aload_n F dX4_readClaim_103 rfl rfl ?_
      refine a_callVI F (As := []) cfX4 rfl (c_X4_readValue X q_2.2) mw_X4_readValue ml_X4_67 im_X4_readValue se_X4_readValue M0.2.1 (by omega) ⟨Nat.zero_le _, Nat.zero_le _⟩ rfl rfl (Nat.le_of_ble_eq_true rfl) zl_186 zk_186 dX4_readClaim_104 rfl (fun q_3 => ?_)
      refine a_if_ne F 112 dX4_readClaim_107 (by decide) ?_ ?_
      · refine a_iconst F dX4_readClaim_110 ki_0 ?_
        exact a_zretK F M0.2.2.1 M0.2.2.2 dX4_readClaim_111 (Or.inl rfl)
      · refine a_sipush F dX4_readClaim_112 ks_20005 ?_
        refine a_istore_n (L' := [some (.ref 186), some (.int p1), some (.int q_1.1), some (.int (20005 : Int32))]) F dX4_readClaim_115 rfl (lt_b rfl) rfl ?_
        refine a_aload_n F dX4_readClaim_116 rfl rfl ?_
        refine a_getR (k := 0) F cfX4 dX4_readClaim_117 fl_X4_27 (by decide) fi_4_0 zl_186 zk_186 zr_186_0 ?_
        refine a_bipush F dX4_readClaim_120 kb_60 ?_
        refine a_callVI F (As := [.int (60 : Int32)]) cfX8 rfl (c_X8_isSign X itk_194 (60 : Int32) q_3.2) mw_X8_isSign ml_X4_90 im_X8_isSign se_X8_isSign M0.2.1 (by omega) ⟨Nat.zero_le _, Nat.zero_le _⟩ rfl rfl (Nat.le_of_ble_eq_true rfl) zl_194 zk_194 dX4_readClaim_122 rfl (fun q_4 => ?_)
        refine a_if_eq F 135 dX4_readClaim_125 (by decide) ?_ ?_
        · refine a_aload_n F dX4_readClaim_135 rfl rfl ?_
          refine a_getR (k := 0) F cfX4 dX4_readClaim_136 fl_X4_27 (by decide) fi_4_0 zl_186 zk_186 zr_186_0 ?_
          refine a_bipush F dX4_readClaim_139 kb_62 ?_
          refine a_callVI F (As := [.int (62 : Int32)]) cfX8 rfl (c_X8_isSign X itk_194 (62 : Int32) q_4.2) mw_X8_isSign ml_X4_90 im_X8_isSign se_X8_isSign M0.2.1 (by omega) ⟨Nat.zero_le _, Nat.zero_le _⟩ rfl rfl (Nat.le_of_ble_eq_true rfl) zl_194 zk_194 dX4_readClaim_141 rfl (fun q_5 => ?_)
          refine a_if_eq F 154 dX4_readClaim_144 (by decide) ?_ ?_
          · refine a_aload_n F dX4_readClaim_154 rfl rfl ?_
            refine a_getR (k := 0) F cfX4 dX4_readClaim_155 fl_X4_27 (by decide) fi_4_0 zl_186 zk_186 zr_186_0 ?_
            refine a_bipush F dX4_readClaim_158 kb_61 ?_
            refine a_callVI F (As := [.int (61 : Int32)]) cfX8 rfl (c_X8_isSign X itk_194 (61 : Int32) q_5.2) mw_X8_isSign ml_X4_90 im_X8_isSign se_X8_isSign M0.2.1 (by omega) ⟨Nat.zero_le _, Nat.zero_le _⟩ rfl rfl (Nat.le_of_ble_eq_true rfl) zl_194 zk_194 dX4_readClaim_160 rfl (fun q_6 => ?_)
            refine a_if_ne F 175 dX4_readClaim_163 (by decide) ?_ ?_
            · refine a_aload_n F dX4_readClaim_166 rfl rfl ?_
              refine a_getR (k := 0) F cfX4 dX4_readClaim_167 fl_X4_27 (by decide) fi_4_0 zl_186 zk_186 zr_186_0 ?_
              refine a_iconst F dX4_readClaim_170 ki_1 ?_
              refine a_callVI F (As := [.int (1 : Int32)]) cfX8 rfl (c_X8_wrong X itk_194 (1 : Int32) q_6.2) mw_X8_wrong ml_X4_57 im_X8_wrong se_X8_wrong M0.2.1 (by omega) ⟨Nat.zero_le _, Nat.zero_le _⟩ rfl rfl (Nat.le_of_ble_eq_true rfl) zl_194 zk_194 dX4_readClaim_171 rfl (fun q_7 => ?_)
              exact a_gd (a_zret F M0.2.2.1 M0.2.2.2 dX4_readClaim_174)
            · refine a_mask [true, false, false, true] (L' := [some (.ref 186), none, none, some (.int (20005 : Int32))]) rfl rfl ?_
              exact b_X4_readClaim_175 M0 hg1 hg2 hdg (20005 : Int32) q_6.2
          · refine a_sipush F dX4_readClaim_147 ks_20006 ?_
            refine a_istore_n (L' := [some (.ref 186), some (.int p1), some (.int q_1.1), some (.int (20006 : Int32))]) F dX4_readClaim_150 rfl (lt_b rfl) rfl ?_
            refine a_goto F 175 dX4_readClaim_151 (by decide) ?_
            refine a_mask [true, false, false, true] (L' := [some (.ref 186), none, none, some (.int (20006 : Int32))]) rfl rfl ?_
            exact b_X4_readClaim_175 M0 hg1 hg2 hdg (20006 : Int32) q_5.2
        · refine a_sipush F dX4_readClaim_128 ks_20004 ?_
          refine a_istore_n (L' := [some (.ref 186), some (.int p1), some (.int q_1.1), some (.int (20004 : Int32))]) F dX4_readClaim_131 rfl (lt_b rfl) rfl ?_
          refine a_goto F 175 dX4_readClaim_132 (by decide) ?_
          refine a_mask [true, false, false, true] (L' := [some (.ref 186), none, none, some (.int (20004 : Int32))]) rfl rfl ?_
          exact b_X4_readClaim_175 M0 hg1 hg2 hdg (20004 : Int32) q_4.2
    · exact b_X4_readClaim_25 M0 hg1 hg2 hdg p1 q_1.1 q_2.2
  · exact b_X4_readClaim_25 M0 hg1 hg2 hdg p1 q_1.1 q_1.2
def recG : Nat → (Int32 → Mm → Option (Int32 × Mm)) × (Int32 → Mm → Option (Int32 × Mm))
  | 0 => (fun _ _ => none, fun _ _ => none)
  | k + 1 => (f_X4_readCondition_s (recG k).1 (recG k).2, f_X4_readClaim_s (recG k).1 (recG k).2)
theorem recG_ok (X : CX) : ∀ k : Nat, (∀ (p : Int32) (S : Mm), CtI X Z1 yX4_readCondition cX4_readCondition 4 (some .boolean) (3 + k) [.ref 186, .int p] S ((recG k).1 p S)) ∧ (∀ (p : Int32) (S : Mm), CtI X Z1 yX4_readClaim cX4_readClaim 4 (some .boolean) (3 + k) [.ref 186, .int p] S ((recG k).2 p S)) := by
  intro k
  induction k with
  | zero => exact ⟨fun p S r h => (by simp [recG] at h), fun p S r h => (by simp [recG] at h)⟩
  | succ k ih =>
    have h1 : ∀ (p : Int32) (S : Mm), CtI X Z1 yX4_readCondition cX4_readCondition 4 (some .boolean) (3 + (k + 1)) [.ref 186, .int p] S ((recG (k + 1)).1 p S) := fun p S => ctI_of (by decide +kernel) rfl (Nat.le_of_ble_eq_true rfl) (by simp [Value.category]) z1len fun E F R hra hlk => b_X4_readCondition (dg := 3 + k) ⟨F, R, hra, hlk⟩ ih.1 ih.2 (by omega) p S
    have h2 : ∀ (p : Int32) (S : Mm), CtI X Z1 yX4_readClaim cX4_readClaim 4 (some .boolean) (3 + (k + 1)) [.ref 186, .int p] S ((recG (k + 1)).2 p S) := fun p S => ctI_of (by decide +kernel) rfl (Nat.le_of_ble_eq_true rfl) (by simp [Value.category]) z1len fun E F R hra hlk => b_X4_readClaim (dg := 3 + k) ⟨F, R, hra, hlk⟩ ih.1 ih.2 (by omega) p S
    exact ⟨h1, h2⟩
def f_X4_readCondition (k : Nat) (p : Int32) (S : Mm) : Option (Int32 × Mm) := (recG k).1 p S
theorem c_X4_readCondition (k : Nat) (X : CX) (p : Int32) (S : Mm) : CtI X Z1 yX4_readCondition cX4_readCondition 4 (some .boolean) (3 + k) [.ref 186, .int p] S (f_X4_readCondition k p S) := (recG_ok X k).1 p S
def f_X4_readClaim (k : Nat) (p : Int32) (S : Mm) : Option (Int32 × Mm) := (recG k).2 p S
theorem c_X4_readClaim (k : Nat) (X : CX) (p : Int32) (S : Mm) : CtI X Z1 yX4_readClaim cX4_readClaim 4 (some .boolean) (3 + k) [.ref 186, .int p] S (f_X4_readClaim k p S) := (recG_ok X k).2 p S
def f_X4_readLine_119 (x1 : Int32) (S : Mm) : Option (Int32 × Mm) :=
  gd (inB x1 16 = true) <|
  nm (uM S 191 (ix x1) (S 187 1)) fun S_1 =>
  nm (uM S_1 187 2 ((S_1 187 2) + (1 : Int32))) fun S_2 =>
  (f_X8_skipSign 194 (59 : Int32) S_2).bind fun q_3 =>
  gd (q_3.1 = 0 ∨ q_3.1 = 1) <| some (q_3.1, q_3.2)
set_option maxRecDepth 20000 in
theorem b_X4_readLine_119 {X : CX} {E : FE} (M0 : MF X E RX4 cX4_readLine 2 28 (some .boolean)) (x1 : Int32) (S : Mm) : At X E false (mQi X Z1 E) 119 [some (.ref 186), some (.int x1)] [] Z1 S 0 0 (f_X4_readLine_119 x1 S) := by
  have F := M0.1
  unfold f_X4_readLine_119
  refine a_aload_n F dX4_readLine_119 rfl rfl ?_
  refine a_getR (k := 1) F cfX4 dX4_readLine_120 fl_X4_12 (by decide) fi_4_1 zl_186 zk_186 zr_186_1 ?_
  refine a_getR (k := 5) F cfX3 dX4_readLine_123 fl_X4_76 (by decide) fi_3_5 zl_187 zk_187 zr_187_5 ?_
  refine a_iload_n F dX4_readLine_126 rfl rfl ?_
  refine a_aload_n F dX4_readLine_127 rfl rfl ?_
  refine a_getR (k := 1) F cfX4 dX4_readLine_128 fl_X4_12 (by decide) fi_4_1 zl_186 zk_186 zr_186_1 ?_
  refine a_getI (k := 1) F cfX3 dX4_readLine_131 fl_X4_34 (by decide) fi_3_1 zl_187 zk_187 ?_
  refine a_gd (a_iast F dX4_readLine_134 zl_191 zk_191 ?_)
  refine a_nmS (fun S_1 => ?_)
  refine a_aload_n F dX4_readLine_135 rfl rfl ?_
  refine a_getR (k := 1) F cfX4 dX4_readLine_136 fl_X4_12 (by decide) fi_4_1 zl_186 zk_186 zr_186_1 ?_
  refine a_dup F dX4_readLine_139 rfl ?_
  refine a_getI (k := 2) F cfX3 dX4_readLine_140 fl_X4_38 (by decide) fi_3_2 zl_187 zk_187 ?_
  refine a_iconst F dX4_readLine_143 ki_1 ?_
  refine a_iadd F dX4_readLine_144 ?_
  refine a_putI (k := 2) F cfX3 dX4_readLine_145 fl_X4_38 (by decide) fi_3_2 rfl rfl zl_187 zk_187 ?_
  refine a_nmS (fun S_2 => ?_)
  refine a_aload_n F dX4_readLine_148 rfl rfl ?_
  refine a_getR (k := 0) F cfX4 dX4_readLine_149 fl_X4_27 (by decide) fi_4_0 zl_186 zk_186 zr_186_0 ?_
  refine a_bipush F dX4_readLine_152 kb_59 ?_
  refine a_callVI F (As := [.int (59 : Int32)]) cfX8 rfl (c_X8_skipSign X itk_194 (59 : Int32) S_2) mw_X8_skipSign ml_X4_79 im_X8_skipSign se_X8_skipSign M0.2.1 (Nat.le_of_ble_eq_true rfl) ⟨Nat.zero_le _, Nat.zero_le _⟩ rfl rfl (Nat.le_of_ble_eq_true rfl) zl_194 zk_194 dX4_readLine_154 rfl (fun q_3 => ?_)
  exact a_gd (a_zret F M0.2.2.1 M0.2.2.2 dX4_readLine_157)
def f_X4_readLine (S : Mm) : Option (Int32 × Mm) :=
  (f_X8_isWord 194 (0 : Int32) S).bind fun q_1 =>
  if q_1.1 = 0 then (
   (f_X8_wrong 194 (1 : Int32) q_1.2).bind fun q_2 =>
   gd (q_2.1 = 0 ∨ q_2.1 = 1) <| some (q_2.1, q_2.2)
  ) else (
   nm ((q_1.2 187 2)) fun x1_3 =>
   if x1_3 < (16 : Int32) then (
    (f_X8_skip 194 q_1.2).bind fun S_4 =>
    gd (inB x1_3 16 = true) <|
    nm (uM S_4 189 (ix x1_3) (S_4 187 1)) fun S_5 =>
    (f_X4_readValue S_5).bind fun q_6 =>
    if q_6.1 = 0 then (
     some ((0 : Int32), q_6.2)
    ) else (
     gd (inB x1_3 16 = true) <|
     nm (uM q_6.2 190 (ix x1_3) (q_6.2 187 1)) fun S_7 =>
     (f_X8_isWord 194 (1 : Int32) S_7).bind fun q_8 =>
     if q_8.1 = 0 then (
      f_X4_readLine_119 x1_3 q_8.2
     ) else (
      (f_X8_skip 194 q_8.2).bind fun S_9 =>
      (f_X4_readCondition 24 (0 : Int32) S_9).bind fun q_10 =>
      if q_10.1 = 0 then (
       some ((0 : Int32), q_10.2)
      ) else (
       f_X4_readLine_119 x1_3 q_10.2
      )
     )
    )
   ) else (
    (f_X8_wrong 194 (3 : Int32) q_1.2).bind fun q_11 =>
    gd (q_11.1 = 0 ∨ q_11.1 = 1) <| some (q_11.1, q_11.2)
   )
  )
set_option maxRecDepth 20000 in
theorem b_X4_readLine {X : CX} {E : FE} (M0 : MF X E RX4 cX4_readLine 2 28 (some .boolean)) (S : Mm) : At X E false (mQi X Z1 E) 0 [some (.ref 186), none] [] Z1 S 0 0 (f_X4_readLine S) := by
  have F := M0.1
  unfold f_X4_readLine
  refine a_aload_n F dX4_readLine_0 rfl rfl ?_
  refine a_getR (k := 0) F cfX4 dX4_readLine_1 fl_X4_27 (by decide) fi_4_0 zl_186 zk_186 zr_186_0 ?_
  refine a_iconst F dX4_readLine_4 ki_0 ?_
  refine a_callVI F (As := [.int (0 : Int32)]) cfX8 rfl (c_X8_isWord X itk_194 (0 : Int32) S) mw_X8_isWord ml_X4_53 im_X8_isWord se_X8_isWord M0.2.1 (Nat.le_of_ble_eq_true rfl) ⟨Nat.zero_le _, Nat.zero_le _⟩ rfl rfl (Nat.le_of_ble_eq_true rfl) zl_194 zk_194 dX4_readLine_5 rfl (fun q_1 => ?_)
  refine a_if_ne F 20 dX4_readLine_8 (by decide) ?_ ?_
  · refine a_aload_n F dX4_readLine_11 rfl rfl ?_
    refine a_getR (k := 0) F cfX4 dX4_readLine_12 fl_X4_27 (by decide) fi_4_0 zl_186 zk_186 zr_186_0 ?_
    refine a_iconst F dX4_readLine_15 ki_1 ?_
    refine a_callVI F (As := [.int (1 : Int32)]) cfX8 rfl (c_X8_wrong X itk_194 (1 : Int32) q_1.2) mw_X8_wrong ml_X4_57 im_X8_wrong se_X8_wrong M0.2.1 (Nat.le_of_ble_eq_true rfl) ⟨Nat.zero_le _, Nat.zero_le _⟩ rfl rfl (Nat.le_of_ble_eq_true rfl) zl_194 zk_194 dX4_readLine_16 rfl (fun q_2 => ?_)
    exact a_gd (a_zret F M0.2.2.1 M0.2.2.2 dX4_readLine_19)
  · refine a_aload_n F dX4_readLine_20 rfl rfl ?_
    refine a_getR (k := 1) F cfX4 dX4_readLine_21 fl_X4_12 (by decide) fi_4_1 zl_186 zk_186 zr_186_1 ?_
    refine a_getI (k := 2) F cfX3 dX4_readLine_24 fl_X4_38 (by decide) fi_3_2 zl_187 zk_187 ?_
    refine a_istore_nN (L' := fun x1_3 => [some (.ref 186), some (.int x1_3)]) F dX4_readLine_27 rfl (lt_b rfl) (fun _ => rfl) (fun x1_3 => ?_)
    refine a_iload_n F dX4_readLine_28 rfl rfl ?_
    refine a_bipush F dX4_readLine_29 kb_16 ?_
    refine a_icmp_lt F 43 dX4_readLine_31 (by decide) ?_ ?_
    · refine a_aload_n F dX4_readLine_43 rfl rfl ?_
      refine a_getR (k := 0) F cfX4 dX4_readLine_44 fl_X4_27 (by decide) fi_4_0 zl_186 zk_186 zr_186_0 ?_
      refine a_callVV F (As := []) cfX8 rfl (c_X8_skip X itk_194 q_1.2) mw_X8_skip ml_X4_60 im_X8_skip se_X8_skip M0.2.1 (Nat.le_of_ble_eq_true rfl) ⟨Nat.zero_le _, Nat.zero_le _⟩ rfl rfl (Nat.le_of_ble_eq_true rfl) zl_194 zk_194 dX4_readLine_47 rfl (fun S_4 => ?_)
      refine a_aload_n F dX4_readLine_50 rfl rfl ?_
      refine a_getR (k := 1) F cfX4 dX4_readLine_51 fl_X4_12 (by decide) fi_4_1 zl_186 zk_186 zr_186_1 ?_
      refine a_getR (k := 3) F cfX3 dX4_readLine_54 fl_X4_63 (by decide) fi_3_3 zl_187 zk_187 zr_187_3 ?_
      refine a_iload_n F dX4_readLine_57 rfl rfl ?_
      refine a_aload_n F dX4_readLine_58 rfl rfl ?_
      refine a_getR (k := 1) F cfX4 dX4_readLine_59 fl_X4_12 (by decide) fi_4_1 zl_186 zk_186 zr_186_1 ?_
      refine a_getI (k := 1) F cfX3 dX4_readLine_62 fl_X4_34 (by decide) fi_3_1 zl_187 zk_187 ?_
      refine a_gd (a_iast F dX4_readLine_65 zl_189 zk_189 ?_)
      refine a_nmS (fun S_5 => ?_)
      refine a_aload_n F dX4_readLine_66 rfl rfl ?_
      refine a_callVI F (As := []) cfX4 rfl (c_X4_readValue X S_5) mw_X4_readValue ml_X4_67 im_X4_readValue se_X4_readValue M0.2.1 (Nat.le_of_ble_eq_true rfl) ⟨Nat.zero_le _, Nat.zero_le _⟩ rfl rfl (Nat.le_of_ble_eq_true rfl) zl_186 zk_186 dX4_readLine_67 rfl (fun q_6 => ?_)
      refine a_if_ne F 75 dX4_readLine_70 (by decide) ?_ ?_
      · refine a_iconst F dX4_readLine_73 ki_0 ?_
        exact a_zretK F M0.2.2.1 M0.2.2.2 dX4_readLine_74 (Or.inl rfl)
      · refine a_aload_n F dX4_readLine_75 rfl rfl ?_
        refine a_getR (k := 1) F cfX4 dX4_readLine_76 fl_X4_12 (by decide) fi_4_1 zl_186 zk_186 zr_186_1 ?_
        refine a_getR (k := 4) F cfX3 dX4_readLine_79 fl_X4_70 (by decide) fi_3_4 zl_187 zk_187 zr_187_4 ?_
        refine a_iload_n F dX4_readLine_82 rfl rfl ?_
        refine a_aload_n F dX4_readLine_83 rfl rfl ?_
        refine a_getR (k := 1) F cfX4 dX4_readLine_84 fl_X4_12 (by decide) fi_4_1 zl_186 zk_186 zr_186_1 ?_
        refine a_getI (k := 1) F cfX3 dX4_readLine_87 fl_X4_34 (by decide) fi_3_1 zl_187 zk_187 ?_
        refine a_gd (a_iast F dX4_readLine_90 zl_190 zk_190 ?_)
        refine a_nmS (fun S_7 => ?_)
        refine a_aload_n F dX4_readLine_91 rfl rfl ?_
        refine a_getR (k := 0) F cfX4 dX4_readLine_92 fl_X4_27 (by decide) fi_4_0 zl_186 zk_186 zr_186_0 ?_
        refine a_iconst F dX4_readLine_95 ki_1 ?_
        refine a_callVI F (As := [.int (1 : Int32)]) cfX8 rfl (c_X8_isWord X itk_194 (1 : Int32) S_7) mw_X8_isWord ml_X4_53 im_X8_isWord se_X8_isWord M0.2.1 (Nat.le_of_ble_eq_true rfl) ⟨Nat.zero_le _, Nat.zero_le _⟩ rfl rfl (Nat.le_of_ble_eq_true rfl) zl_194 zk_194 dX4_readLine_96 rfl (fun q_8 => ?_)
        refine a_if_eq F 119 dX4_readLine_99 (by decide) ?_ ?_
        · exact b_X4_readLine_119 M0 x1_3 q_8.2
        · refine a_aload_n F dX4_readLine_102 rfl rfl ?_
          refine a_getR (k := 0) F cfX4 dX4_readLine_103 fl_X4_27 (by decide) fi_4_0 zl_186 zk_186 zr_186_0 ?_
          refine a_callVV F (As := []) cfX8 rfl (c_X8_skip X itk_194 q_8.2) mw_X8_skip ml_X4_60 im_X8_skip se_X8_skip M0.2.1 (Nat.le_of_ble_eq_true rfl) ⟨Nat.zero_le _, Nat.zero_le _⟩ rfl rfl (Nat.le_of_ble_eq_true rfl) zl_194 zk_194 dX4_readLine_106 rfl (fun S_9 => ?_)
          refine a_aload_n F dX4_readLine_109 rfl rfl ?_
          refine a_iconst F dX4_readLine_110 ki_0 ?_
          refine a_callVI F (As := [.int (0 : Int32)]) cfX4 rfl (c_X4_readCondition 24 X (0 : Int32) S_9) mw_X4_readCondition ml_X4_73 im_X4_readCondition se_X4_readCondition M0.2.1 (Nat.le_of_ble_eq_true rfl) ⟨Nat.zero_le _, Nat.zero_le _⟩ rfl rfl (Nat.le_of_ble_eq_true rfl) zl_186 zk_186 dX4_readLine_111 rfl (fun q_10 => ?_)
          refine a_if_ne F 119 dX4_readLine_114 (by decide) ?_ ?_
          · refine a_iconst F dX4_readLine_117 ki_0 ?_
            exact a_zretK F M0.2.2.1 M0.2.2.2 dX4_readLine_118 (Or.inl rfl)
          · exact b_X4_readLine_119 M0 x1_3 q_10.2
    · refine a_aload_n F dX4_readLine_34 rfl rfl ?_
      refine a_getR (k := 0) F cfX4 dX4_readLine_35 fl_X4_27 (by decide) fi_4_0 zl_186 zk_186 zr_186_0 ?_
      refine a_iconst F dX4_readLine_38 ki_3 ?_
      refine a_callVI F (As := [.int (3 : Int32)]) cfX8 rfl (c_X8_wrong X itk_194 (3 : Int32) q_1.2) mw_X8_wrong ml_X4_57 im_X8_wrong se_X8_wrong M0.2.1 (Nat.le_of_ble_eq_true rfl) ⟨Nat.zero_le _, Nat.zero_le _⟩ rfl rfl (Nat.le_of_ble_eq_true rfl) zl_194 zk_194 dX4_readLine_39 rfl (fun q_11 => ?_)
      exact a_gd (a_zret F M0.2.2.1 M0.2.2.2 dX4_readLine_42)
theorem c_X4_readLine (X : CX) (S : Mm) : CtI X Z1 yX4_readLine cX4_readLine 2 (some .boolean) 28 [.ref 186] S (f_X4_readLine S) :=
  ctI_of (by decide +kernel) rfl (Nat.le_of_ble_eq_true rfl) (by simp [Value.category]) z1len fun E F R hra hlk => b_X4_readLine ⟨F, R, hra, hlk⟩ S
def f_X3_become_18_187 (S : Mm) : Option Mm :=
  nm (uM S 18 1 (S 187 1)) fun S_1 =>
  nm (uM S_1 18 2 (S_1 187 2)) fun S_2 =>
  nm (rM S_2 19 (va_cpy (S_2 188) (S_2 19) 0 0 400)) fun S_3 =>
  nm (rM S_3 20 (va_cpy (S_3 189) (S_3 20) 0 0 16)) fun S_4 =>
  nm (rM S_4 21 (va_cpy (S_4 190) (S_4 21) 0 0 16)) fun S_5 =>
  nm (rM S_5 22 (va_cpy (S_5 191) (S_5 22) 0 0 16)) fun S_6 =>
  some S_6
set_option maxRecDepth 20000 in
theorem b_X3_become_18_187 {X : CX} {E : FE} (M0 : MF X E RX3 cX3_become 2 1 none) (S : Mm) : At X E false (mQv X Z1 E) 0 [some (.ref 18), some (.ref 187)] [] Z1 S 0 0 (f_X3_become_18_187 S) := by
  have F := M0.1
  unfold f_X3_become_18_187
  refine a_aload_n F dX3_become_0 rfl rfl ?_
  refine a_aload_n F dX3_become_1 rfl rfl ?_
  refine a_getI (k := 1) F cfX3 dX3_become_2 fl_X3_15 (by decide) fi_3_1 zl_187 zk_187 ?_
  refine a_putI (k := 1) F cfX3 dX3_become_5 fl_X3_15 (by decide) fi_3_1 rfl rfl zl_18 zk_18 ?_
  refine a_nmS (fun S_1 => ?_)
  refine a_aload_n F dX3_become_8 rfl rfl ?_
  refine a_aload_n F dX3_become_9 rfl rfl ?_
  refine a_getI (k := 2) F cfX3 dX3_become_10 fl_X3_19 (by decide) fi_3_2 zl_187 zk_187 ?_
  refine a_putI (k := 2) F cfX3 dX3_become_13 fl_X3_19 (by decide) fi_3_2 rfl rfl zl_18 zk_18 ?_
  refine a_nmS (fun S_2 => ?_)
  refine a_aload_n F dX3_become_16 rfl rfl ?_
  refine a_getR (k := 0) F cfX3 dX3_become_17 fl_X3_9 (by decide) fi_3_0 zl_187 zk_187 zr_187_0 ?_
  refine a_iconst F dX3_become_20 ki_0 ?_
  refine a_aload_n F dX3_become_21 rfl rfl ?_
  refine a_getR (k := 0) F cfX3 dX3_become_22 fl_X3_9 (by decide) fi_3_0 zl_18 zk_18 zr_18_0 ?_
  refine a_iconst F dX3_become_25 ki_0 ?_
  refine a_aload_n F dX3_become_26 rfl rfl ?_
  refine a_getR (k := 0) F cfX3 dX3_become_27 fl_X3_9 (by decide) fi_3_0 zl_18 zk_18 zr_18_0 ?_
  refine a_alen F dX3_become_30 zl_19 zk_19 kn_400 ?_
  refine a_gd1 (by decide : ¬ (0 : Int32) < 0 ∧ ¬ (0 : Int32) < 0 ∧ ¬ (400 : Int32) < 0 ∧ ix (0 : Int32) + ix (400 : Int32) ≤ 400 ∧ ix (0 : Int32) + ix (400 : Int32) ≤ 400) (a_copy F rfl dX3_become_31 ml_X3_37 rfl zl_188 zk_188 zl_19 zk_19 (Nat.le_of_ble_eq_true rfl) (Nat.le_of_ble_eq_true rfl) (rm_fr M0.2.1 (by omega)) (rm_lo M0.2.1 (by omega)) sysN sysS sysI ?_)
  refine a_nmS (fun S_3 => ?_)
  refine a_aload_n F dX3_become_34 rfl rfl ?_
  refine a_getR (k := 3) F cfX3 dX3_become_35 fl_X3_22 (by decide) fi_3_3 zl_187 zk_187 zr_187_3 ?_
  refine a_iconst F dX3_become_38 ki_0 ?_
  refine a_aload_n F dX3_become_39 rfl rfl ?_
  refine a_getR (k := 3) F cfX3 dX3_become_40 fl_X3_22 (by decide) fi_3_3 zl_18 zk_18 zr_18_3 ?_
  refine a_iconst F dX3_become_43 ki_0 ?_
  refine a_bipush F dX3_become_44 kb_16 ?_
  refine a_gd1 (by decide : ¬ (0 : Int32) < 0 ∧ ¬ (0 : Int32) < 0 ∧ ¬ (16 : Int32) < 0 ∧ ix (0 : Int32) + ix (16 : Int32) ≤ 16 ∧ ix (0 : Int32) + ix (16 : Int32) ≤ 16) (a_copy F rfl dX3_become_46 ml_X3_37 rfl zl_189 zk_189 zl_20 zk_20 (Nat.le_of_ble_eq_true rfl) (Nat.le_of_ble_eq_true rfl) (rm_fr M0.2.1 (by omega)) (rm_lo M0.2.1 (by omega)) sysN sysS sysI ?_)
  refine a_nmS (fun S_4 => ?_)
  refine a_aload_n F dX3_become_49 rfl rfl ?_
  refine a_getR (k := 4) F cfX3 dX3_become_50 fl_X3_25 (by decide) fi_3_4 zl_187 zk_187 zr_187_4 ?_
  refine a_iconst F dX3_become_53 ki_0 ?_
  refine a_aload_n F dX3_become_54 rfl rfl ?_
  refine a_getR (k := 4) F cfX3 dX3_become_55 fl_X3_25 (by decide) fi_3_4 zl_18 zk_18 zr_18_4 ?_
  refine a_iconst F dX3_become_58 ki_0 ?_
  refine a_bipush F dX3_become_59 kb_16 ?_
  refine a_gd1 (by decide : ¬ (0 : Int32) < 0 ∧ ¬ (0 : Int32) < 0 ∧ ¬ (16 : Int32) < 0 ∧ ix (0 : Int32) + ix (16 : Int32) ≤ 16 ∧ ix (0 : Int32) + ix (16 : Int32) ≤ 16) (a_copy F rfl dX3_become_61 ml_X3_37 rfl zl_190 zk_190 zl_21 zk_21 (Nat.le_of_ble_eq_true rfl) (Nat.le_of_ble_eq_true rfl) (rm_fr M0.2.1 (by omega)) (rm_lo M0.2.1 (by omega)) sysN sysS sysI ?_)
  refine a_nmS (fun S_5 => ?_)
  refine a_aload_n F dX3_become_64 rfl rfl ?_
  refine a_getR (k := 5) F cfX3 dX3_become_65 fl_X3_28 (by decide) fi_3_5 zl_187 zk_187 zr_187_5 ?_
  refine a_iconst F dX3_become_68 ki_0 ?_
  refine a_aload_n F dX3_become_69 rfl rfl ?_
  refine a_getR (k := 5) F cfX3 dX3_become_70 fl_X3_28 (by decide) fi_3_5 zl_18 zk_18 zr_18_5 ?_
  refine a_iconst F dX3_become_73 ki_0 ?_
  refine a_bipush F dX3_become_74 kb_16 ?_
  refine a_gd1 (by decide : ¬ (0 : Int32) < 0 ∧ ¬ (0 : Int32) < 0 ∧ ¬ (16 : Int32) < 0 ∧ ix (0 : Int32) + ix (16 : Int32) ≤ 16 ∧ ix (0 : Int32) + ix (16 : Int32) ≤ 16) (a_copy F rfl dX3_become_76 ml_X3_37 rfl zl_191 zk_191 zl_22 zk_22 (Nat.le_of_ble_eq_true rfl) (Nat.le_of_ble_eq_true rfl) (rm_fr M0.2.1 (by omega)) (rm_lo M0.2.1 (by omega)) sysN sysS sysI ?_)
  refine a_nmS (fun S_6 => ?_)
  exact a_vret F M0.2.2.1 M0.2.2.2 dX3_become_79
theorem c_X3_become_18_187 (X : CX) (S : Mm) : CtV X Z1 yX3_become cX3_become 2 1 [.ref 18, .ref 187] S (f_X3_become_18_187 S) :=
  ctV_of (by decide +kernel) rfl (Nat.le_of_ble_eq_true rfl) (by simp [Value.category]) z1len fun E F R hra hlk => b_X3_become_18_187 ⟨F, R, hra, hlk⟩ S
def f_X4_read_18_57 (S : Mm) : Option (Int32 × Mm) :=
  (f_X3_become_18_187 S).bind fun S_1 =>
  some ((S_1 18 2), S_1)
set_option maxRecDepth 20000 in
theorem b_X4_read_18_57 {X : CX} {E : FE} (M0 : MF X E RX4 cX4_read 3 29 (some .int)) (S : Mm) : At X E false (mQi X Z1 E) 57 [some (.ref 186), some (.ref 18), none] [] Z1 S 0 0 (f_X4_read_18_57 S) := by
  have F := M0.1
  unfold f_X4_read_18_57
  refine a_aload_n F dX4_read_57 rfl rfl ?_
  refine a_aload_n F dX4_read_58 rfl rfl ?_
  refine a_getR (k := 1) F cfX4 dX4_read_59 fl_X4_12 (by decide) fi_4_1 zl_186 zk_186 zr_186_1 ?_
  refine a_callVV F (As := [.ref 187]) cfX3 rfl (c_X3_become_18_187 X S) mw_X3_become ml_X4_49 im_X3_become se_X3_become M0.2.1 (Nat.le_of_ble_eq_true rfl) ⟨Nat.zero_le _, Nat.zero_le _⟩ rfl rfl (Nat.le_of_ble_eq_true rfl) zl_18 zk_18 dX4_read_62 rfl (fun S_1 => ?_)
  refine a_aload_n F dX4_read_65 rfl rfl ?_
  refine a_getI (k := 2) F cfX3 dX4_read_66 fl_X4_38 (by decide) fi_3_2 zl_18 zk_18 ?_
  exact a_iret F M0.2.2.1 M0.2.2.2 dX4_read_69
def f_X4_read_18_25b (k25 : Int32 → Mm → Option (Int32 × Mm)) (x2 : Int32) (S : Mm) : Option (Int32 × Mm) :=
  if (400 : Int32) ≤ x2 then (
   f_X4_read_18_57 S
  ) else (
   (f_X8_kind 194 S).bind fun q_1 =>
   if q_1.1 = 0 then (
    f_X4_read_18_57 q_1.2
   ) else (
    (f_X4_readLine q_1.2).bind fun q_2 =>
    if q_2.1 = 0 then (
     some ((-1 : Int32), q_2.2)
    ) else (
     nm (x2 + (1 : Int32)) fun x2_3 =>
     k25 x2_3 q_2.2
    )
   )
  )
set_option maxRecDepth 20000 in
theorem b_X4_read_18_25b {X : CX} {E : FE} (M0 : MF X E RX4 cX4_read 3 29 (some .int)) {k25 : Int32 → Mm → Option (Int32 × Mm)} (hk25 : ∀ (x2 : Int32) (S : Mm), At X E false (mQi X Z1 E) 25 [some (.ref 186), some (.ref 18), some (.int x2)] [] Z1 S 0 0 (k25 x2 S)) (x2 : Int32) (S : Mm) : At X E false (mQi X Z1 E) 25 [some (.ref 186), some (.ref 18), some (.int x2)] [] Z1 S 0 0 (f_X4_read_18_25b k25 x2 S) := by
  have F := M0.1
  unfold f_X4_read_18_25b
  refine a_iload_n F dX4_read_25 rfl rfl ?_
  refine a_sipush F dX4_read_26 ks_400 ?_
  refine a_icmp_ge F 57 dX4_read_29 (by decide) ?_ ?_
  · refine a_mask [true, true, false] (L' := [some (.ref 186), some (.ref 18), none]) rfl rfl ?_
    exact b_X4_read_18_57 M0 S
  · refine a_aload_n F dX4_read_32 rfl rfl ?_
    refine a_getR (k := 0) F cfX4 dX4_read_33 fl_X4_27 (by decide) fi_4_0 zl_186 zk_186 zr_186_0 ?_
    refine a_callVI F (As := []) cfX8 rfl (c_X8_kind X itk_194 S) mw_X8_kind ml_X4_41 im_X8_kind se_X8_kind M0.2.1 (Nat.le_of_ble_eq_true rfl) ⟨Nat.zero_le _, Nat.zero_le _⟩ rfl rfl (Nat.le_of_ble_eq_true rfl) zl_194 zk_194 dX4_read_36 rfl (fun q_1 => ?_)
    refine a_if_eq F 57 dX4_read_39 (by decide) ?_ ?_
    · refine a_mask [true, true, false] (L' := [some (.ref 186), some (.ref 18), none]) rfl rfl ?_
      exact b_X4_read_18_57 M0 q_1.2
    · refine a_aload_n F dX4_read_42 rfl rfl ?_
      refine a_callVI F (As := []) cfX4 rfl (c_X4_readLine X q_1.2) mw_X4_readLine ml_X4_45 im_X4_readLine se_X4_readLine M0.2.1 (Nat.le_of_ble_eq_true rfl) ⟨Nat.zero_le _, Nat.zero_le _⟩ rfl rfl (Nat.le_of_ble_eq_true rfl) zl_186 zk_186 dX4_read_43 rfl (fun q_2 => ?_)
      refine a_if_ne F 51 dX4_read_46 (by decide) ?_ ?_
      · refine a_iconst F dX4_read_49 ki_m1 ?_
        exact a_iret F M0.2.2.1 M0.2.2.2 dX4_read_50
      · refine a_iincN (L' := fun x2_3 => [some (.ref 186), some (.ref 18), some (.int x2_3)]) F dX4_read_51 rfl ki_1 (lt_b rfl) (fun _ => rfl) (fun x2_3 => ?_)
        refine a_goto F 25 dX4_read_54 (by decide) ?_
        exact hk25 x2_3 q_2.2
def f_X4_read_18_25 : Nat → Int32 → Mm → Option (Int32 × Mm) :=
  itr (fun _ _ => none) (fun k => f_X4_read_18_25b k)
theorem b_X4_read_18_25 {X : CX} {E : FE} (M0 : MF X E RX4 cX4_read 3 29 (some .int)) : ∀ (n : Nat) (x2 : Int32) (S : Mm), At X E false (mQi X Z1 E) 25 [some (.ref 186), some (.ref 18), some (.int x2)] [] Z1 S 0 0 (f_X4_read_18_25  n x2 S) := by
  intro n
  induction n with
  | zero => intros; exact a_none
  | succ n ih => intro x2 S; exact b_X4_read_18_25b M0 ih x2 S
def f_X4_read_18 (S : Mm) : Option (Int32 × Mm) :=
  (f_X8_cut 194 S).bind fun S_1 =>
  nm (uM S_1 187 1 (0 : Int32)) fun S_2 =>
  nm (uM S_2 187 2 (0 : Int32)) fun S_3 =>
  f_X4_read_18_25 FU (0 : Int32) S_3
set_option maxRecDepth 20000 in
theorem b_X4_read_18 {X : CX} {E : FE} (M0 : MF X E RX4 cX4_read 3 29 (some .int)) (S : Mm) : At X E false (mQi X Z1 E) 0 [some (.ref 186), some (.ref 18), none] [] Z1 S 0 0 (f_X4_read_18 S) := by
  have F := M0.1
  unfold f_X4_read_18
  refine a_aload_n F dX4_read_0 rfl rfl ?_
  refine a_getR (k := 0) F cfX4 dX4_read_1 fl_X4_27 (by decide) fi_4_0 zl_186 zk_186 zr_186_0 ?_
  refine a_callVV F (As := []) cfX8 rfl (c_X8_cut X itk_194 S) mw_X8_cut ml_X4_31 im_X8_cut se_X8_cut M0.2.1 (Nat.le_of_ble_eq_true rfl) ⟨Nat.zero_le _, Nat.zero_le _⟩ rfl rfl (Nat.le_of_ble_eq_true rfl) zl_194 zk_194 dX4_read_4 rfl (fun S_1 => ?_)
  refine a_aload_n F dX4_read_7 rfl rfl ?_
  refine a_getR (k := 1) F cfX4 dX4_read_8 fl_X4_12 (by decide) fi_4_1 zl_186 zk_186 zr_186_1 ?_
  refine a_iconst F dX4_read_11 ki_0 ?_
  refine a_putI (k := 1) F cfX3 dX4_read_12 fl_X4_34 (by decide) fi_3_1 rfl rfl zl_187 zk_187 ?_
  refine a_nmS (fun S_2 => ?_)
  refine a_aload_n F dX4_read_15 rfl rfl ?_
  refine a_getR (k := 1) F cfX4 dX4_read_16 fl_X4_12 (by decide) fi_4_1 zl_186 zk_186 zr_186_1 ?_
  refine a_iconst F dX4_read_19 ki_0 ?_
  refine a_putI (k := 2) F cfX3 dX4_read_20 fl_X4_38 (by decide) fi_3_2 rfl rfl zl_187 zk_187 ?_
  refine a_nmS (fun S_3 => ?_)
  refine a_iconst F dX4_read_23 ki_0 ?_
  refine a_istore_n (L' := [some (.ref 186), some (.ref 18), some (.int (0 : Int32))]) F dX4_read_24 rfl (lt_b rfl) rfl ?_
  exact b_X4_read_18_25 M0 FU (0 : Int32) S_3
theorem c_X4_read_18 (X : CX) (S : Mm) : CtI X Z1 yX4_read cX4_read 3 (some .int) 29 [.ref 186, .ref 18] S (f_X4_read_18 S) :=
  ctI_of (by decide +kernel) rfl (Nat.le_of_ble_eq_true rfl) (by simp [Value.category]) z1len fun E F R hra hlk => b_X4_read_18 ⟨F, R, hra, hlk⟩ S
def f_X8_place (r0 : Nat) (S : Mm) : Option (Int32 × Mm) :=
  gd (inB (S r0 7) 401 = true) <|
  some ((S (r0 + 3) (ix (S r0 7))), S)
set_option maxRecDepth 20000 in
theorem b_X8_place {X : CX} {E : FE} (M0 : MF X E RX8 cX8_place 1 1 (some .int)) {r0 : Nat} (h0 : isTok r0) (S : Mm) : At X E false (mQi X Z1 E) 0 [some (.ref r0)] [] Z1 S 0 0 (f_X8_place r0 S) := by
  have F := M0.1
  unfold f_X8_place
  refine a_aload_n F dX8_place_0 rfl rfl ?_
  refine a_getR (k := 5) F cfX8 dX8_place_1 fl_X8_18 (by decide) fi_8_5 (ztl_0 h0) (ztk_0 h0) (ztr_5 h0) ?_
  refine a_aload_n F dX8_place_4 rfl rfl ?_
  refine a_getI (k := 7) F cfX8 dX8_place_5 fl_X8_25 (by decide) fi_8_7 (ztl_0 h0) (ztk_0 h0) ?_
  refine a_gd (a_iald F dX8_place_8 (ztl_3 h0) (ztk_3 h0) ?_)
  exact a_iret F M0.2.2.1 M0.2.2.2 dX8_place_9
theorem c_X8_place (X : CX) {r0 : Nat} (h0 : isTok r0) (S : Mm) : CtI X Z1 yX8_place cX8_place 1 (some .int) 1 [.ref r0] S (f_X8_place r0 S) :=
  ctI_of (by decide +kernel) rfl (Nat.le_of_ble_eq_true rfl) (by simp [Value.category]) z1len fun E F R hra hlk => b_X8_place ⟨F, R, hra, hlk⟩ h0 S
def f_X9_endRow_10 (S : Mm) : Option (Int32 × Mm) :=
  (f_X8_wrong 202 (2 : Int32) S).bind fun q_1 =>
  gd (q_1.1 = 0 ∨ q_1.1 = 1) <| some (q_1.1, q_1.2)
set_option maxRecDepth 20000 in
theorem b_X9_endRow_10 {X : CX} {E : FE} (M0 : MF X E RX9 cX9_endRow 3 2 (some .boolean)) (S : Mm) : At X E false (mQi X Z1 E) 10 [some (.ref 198), none, none] [] Z1 S 0 0 (f_X9_endRow_10 S) := by
  have F := M0.1
  unfold f_X9_endRow_10
  refine a_aload_n F dX9_endRow_10 rfl rfl ?_
  refine a_getR (k := 1) F cfX9 dX9_endRow_11 fl_X9_46 (by decide) fi_9_1 zl_198 zk_198 zr_198_1 ?_
  refine a_iconst F dX9_endRow_14 ki_2 ?_
  refine a_callVI F (As := [.int (2 : Int32)]) cfX8 rfl (c_X8_wrong X itk_202 (2 : Int32) S) mw_X8_wrong ml_X9_83 im_X8_wrong se_X8_wrong M0.2.1 (Nat.le_of_ble_eq_true rfl) ⟨Nat.zero_le _, Nat.zero_le _⟩ rfl rfl (Nat.le_of_ble_eq_true rfl) zl_202 zk_202 dX9_endRow_15 rfl (fun q_1 => ?_)
  exact a_gd (a_zret F M0.2.2.1 M0.2.2.2 dX9_endRow_18)
def f_X9_endRow (p1 p2 : Int32) (S : Mm) : Option (Int32 × Mm) :=
  if p2 = 0 then (
   f_X9_endRow_10 S
  ) else (
   if p2 ≤ (28 : Int32) then (
    gd (inB (S 198 5) 12 = true) <|
    nm (uM S 199 (ix (S 198 5)) p1) fun S_1 =>
    (f_X8_skip 202 S_1).bind fun S_2 =>
    some ((1 : Int32), S_2)
   ) else (
    f_X9_endRow_10 S
   )
  )
set_option maxRecDepth 20000 in
theorem b_X9_endRow {X : CX} {E : FE} (M0 : MF X E RX9 cX9_endRow 3 2 (some .boolean)) (p1 p2 : Int32) (S : Mm) : At X E false (mQi X Z1 E) 0 [some (.ref 198), some (.int p1), some (.int p2)] [] Z1 S 0 0 (f_X9_endRow p1 p2 S) := by
  have F := M0.1
  unfold f_X9_endRow
  refine a_iload_n F dX9_endRow_0 rfl rfl ?_
  refine a_if_eq F 10 dX9_endRow_1 (by decide) ?_ ?_
  · refine a_mask [true, false, false] (L' := [some (.ref 198), none, none]) rfl rfl ?_
    exact b_X9_endRow_10 M0 S
  · refine a_iload_n F dX9_endRow_4 rfl rfl ?_
    refine a_bipush F dX9_endRow_5 kb_28 ?_
    refine a_icmp_le F 19 dX9_endRow_7 (by decide) ?_ ?_
    · refine a_aload_n F dX9_endRow_19 rfl rfl ?_
      refine a_getR (k := 2) F cfX9 dX9_endRow_20 fl_X9_11 (by decide) fi_9_2 zl_198 zk_198 zr_198_2 ?_
      refine a_aload_n F dX9_endRow_23 rfl rfl ?_
      refine a_getI (k := 5) F cfX9 dX9_endRow_24 fl_X9_23 (by decide) fi_9_5 zl_198 zk_198 ?_
      refine a_iload_n F dX9_endRow_27 rfl rfl ?_
      refine a_gd (a_iast F dX9_endRow_28 zl_199 zk_199 ?_)
      refine a_nmS (fun S_1 => ?_)
      refine a_aload_n F dX9_endRow_29 rfl rfl ?_
      refine a_getR (k := 1) F cfX9 dX9_endRow_30 fl_X9_46 (by decide) fi_9_1 zl_198 zk_198 zr_198_1 ?_
      refine a_callVV F (As := []) cfX8 rfl (c_X8_skip X itk_202 S_1) mw_X8_skip ml_X9_86 im_X8_skip se_X8_skip M0.2.1 (Nat.le_of_ble_eq_true rfl) ⟨Nat.zero_le _, Nat.zero_le _⟩ rfl rfl (Nat.le_of_ble_eq_true rfl) zl_202 zk_202 dX9_endRow_33 rfl (fun S_2 => ?_)
      refine a_iconst F dX9_endRow_36 ki_1 ?_
      exact a_zretK F M0.2.2.1 M0.2.2.2 dX9_endRow_37 (Or.inr rfl)
    · refine a_mask [true, false, false] (L' := [some (.ref 198), none, none]) rfl rfl ?_
      exact b_X9_endRow_10 M0 S
theorem c_X9_endRow (X : CX) (p1 p2 : Int32) (S : Mm) : CtI X Z1 yX9_endRow cX9_endRow 3 (some .boolean) 2 [.ref 198, .int p1, .int p2] S (f_X9_endRow p1 p2 S) :=
  ctI_of (by decide +kernel) rfl (Nat.le_of_ble_eq_true rfl) (by simp [Value.category]) z1len fun E F R hra hlk => b_X9_endRow ⟨F, R, hra, hlk⟩ p1 p2 S
def f_X10_letterOf_17 (x0 : Int32) (S : Mm) : Option (Int32 × Mm) :=
  if x0 = (46 : Int32) then (
   some ((26 : Int32), S)
  ) else (
   if x0 = (44 : Int32) then (
    some ((27 : Int32), S)
   ) else (
    some ((-1 : Int32), S)
   )
  )
set_option maxRecDepth 20000 in
theorem b_X10_letterOf_17 {X : CX} {E : FE} (M0 : MF X E RX10 cX10_letterOf 1 1 (some .int)) (x0 : Int32) (S : Mm) : At X E false (mQi X Z1 E) 17 [some (.int x0)] [] Z1 S 0 0 (f_X10_letterOf_17 x0 S) := by
  have F := M0.1
  unfold f_X10_letterOf_17
  refine a_iload_n F dX10_letterOf_17 rfl rfl ?_
  refine a_bipush F dX10_letterOf_18 kb_46 ?_
  refine a_icmp_ne F 26 dX10_letterOf_20 (by decide) ?_ ?_
  · refine a_bipush F dX10_letterOf_23 kb_26 ?_
    exact a_iret F M0.2.2.1 M0.2.2.2 dX10_letterOf_25
  · refine a_iload_n F dX10_letterOf_26 rfl rfl ?_
    refine a_bipush F dX10_letterOf_27 kb_44 ?_
    refine a_icmp_ne F 35 dX10_letterOf_29 (by decide) ?_ ?_
    · refine a_bipush F dX10_letterOf_32 kb_27 ?_
      exact a_iret F M0.2.2.1 M0.2.2.2 dX10_letterOf_34
    · refine a_iconst F dX10_letterOf_35 ki_m1 ?_
      exact a_iret F M0.2.2.1 M0.2.2.2 dX10_letterOf_36
def f_X10_letterOf (p0 : Int32) (S : Mm) : Option (Int32 × Mm) :=
  if p0 < (97 : Int32) then (
   f_X10_letterOf_17 p0 S
  ) else (
   if (122 : Int32) < p0 then (
    f_X10_letterOf_17 p0 S
   ) else (
    some ((p0 - (97 : Int32)), S)
   )
  )
set_option maxRecDepth 20000 in
theorem b_X10_letterOf {X : CX} {E : FE} (M0 : MF X E RX10 cX10_letterOf 1 1 (some .int)) (p0 : Int32) (S : Mm) : At X E false (mQi X Z1 E) 0 [some (.int p0)] [] Z1 S 0 0 (f_X10_letterOf p0 S) := by
  have F := M0.1
  unfold f_X10_letterOf
  refine a_iload_n F dX10_letterOf_0 rfl rfl ?_
  refine a_bipush F dX10_letterOf_1 kb_97 ?_
  refine a_icmp_lt F 17 dX10_letterOf_3 (by decide) ?_ ?_
  · exact b_X10_letterOf_17 M0 p0 S
  · refine a_iload_n F dX10_letterOf_6 rfl rfl ?_
    refine a_bipush F dX10_letterOf_7 kb_122 ?_
    refine a_icmp_gt F 17 dX10_letterOf_9 (by decide) ?_ ?_
    · exact b_X10_letterOf_17 M0 p0 S
    · refine a_iload_n F dX10_letterOf_12 rfl rfl ?_
      refine a_bipush F dX10_letterOf_13 kb_97 ?_
      refine a_isub F dX10_letterOf_15 ?_
      exact a_iret F M0.2.2.1 M0.2.2.2 dX10_letterOf_16
theorem c_X10_letterOf (X : CX) (p0 : Int32) (S : Mm) : CtI X Z1 yX10_letterOf cX10_letterOf 1 (some .int) 1 [.int p0] S (f_X10_letterOf p0 S) :=
  ctI_of (by decide +kernel) rfl (Nat.le_of_ble_eq_true rfl) (by simp [Value.category]) z1len fun E F R hra hlk => b_X10_letterOf ⟨F, R, hra, hlk⟩ p0 S
def f_X5_wrong (p1 p2 : Int32) (S : Mm) : Option (Int32 × Mm) :=
  nm (uM S 184 2 p1) fun S_1 =>
  nm (uM S_1 184 3 p2) fun S_2 =>
  some ((-1 : Int32), S_2)
set_option maxRecDepth 20000 in
theorem b_X5_wrong {X : CX} {E : FE} (M0 : MF X E RX5 cX5_wrong 3 1 (some .int)) (p1 p2 : Int32) (S : Mm) : At X E false (mQi X Z1 E) 0 [some (.ref 184), some (.int p1), some (.int p2)] [] Z1 S 0 0 (f_X5_wrong p1 p2 S) := by
  have F := M0.1
  unfold f_X5_wrong
  refine a_aload_n F dX5_wrong_0 rfl rfl ?_
  refine a_iload_n F dX5_wrong_1 rfl rfl ?_
  refine a_putI (k := 2) F cfX5 dX5_wrong_2 fl_X5_19 (by decide) fi_5_2 rfl rfl zl_184 zk_184 ?_
  refine a_nmS (fun S_1 => ?_)
  refine a_aload_n F dX5_wrong_5 rfl rfl ?_
  refine a_iload_n F dX5_wrong_6 rfl rfl ?_
  refine a_putI (k := 3) F cfX5 dX5_wrong_7 fl_X5_22 (by decide) fi_5_3 rfl rfl zl_184 zk_184 ?_
  refine a_nmS (fun S_2 => ?_)
  refine a_iconst F dX5_wrong_10 ki_m1 ?_
  exact a_iret F M0.2.2.1 M0.2.2.2 dX5_wrong_11
theorem c_X5_wrong (X : CX) (p1 p2 : Int32) (S : Mm) : CtI X Z1 yX5_wrong cX5_wrong 3 (some .int) 1 [.ref 184, .int p1, .int p2] S (f_X5_wrong p1 p2 S) :=
  ctI_of (by decide +kernel) rfl (Nat.le_of_ble_eq_true rfl) (by simp [Value.category]) z1len fun E F R hra hlk => b_X5_wrong ⟨F, R, hra, hlk⟩ p1 p2 S
def f_X9_readRow_35b (k35 : Int32 → Int32 → Int32 → Mm → Option (Int32 × Mm)) (x1 x2 x3 : Int32) (S : Mm) : Option (Int32 × Mm) :=
  if (S 184 1) ≤ x3 then (
   (f_X5_wrong (1 : Int32) (S 184 1) S).bind fun q_1 =>
   some ((0 : Int32), q_1.2)
  ) else (
   gd (inB x3 400 = true) <|
   if (S 185 (ix x3)) = (34 : Int32) then (
    (f_X9_endRow x2 (x3 - x1) S).bind fun q_2 =>
    gd (q_2.1 = 0 ∨ q_2.1 = 1) <| some (q_2.1, q_2.2)
   ) else (
    gd (inB x3 400 = true) <|
    (f_X10_letterOf (S 185 (ix x3)) S).bind fun q_3 =>
    if q_3.1 = (-1 : Int32) then (
     (f_X5_wrong (1 : Int32) x3 q_3.2).bind fun q_4 =>
     some ((0 : Int32), q_4.2)
    ) else (
     nm ((x2 ||| (shl (1 : Int32) q_3.1))) fun x2_5 =>
     nm (x3 + (1 : Int32)) fun x3_6 =>
     k35 x1 x2_5 x3_6 q_3.2
    )
   )
  )
set_option maxRecDepth 20000 in
theorem b_X9_readRow_35b {X : CX} {E : FE} (M0 : MF X E RX9 cX9_readRow 5 3 (some .boolean)) {k35 : Int32 → Int32 → Int32 → Mm → Option (Int32 × Mm)} (hk35 : ∀ (x1 x2 x3 : Int32) (S : Mm), At X E false (mQi X Z1 E) 35 [some (.ref 198), some (.int x1), some (.int x2), some (.int x3), none] [] Z1 S 0 0 (k35 x1 x2 x3 S)) (x1 x2 x3 : Int32) (S : Mm) : At X E false (mQi X Z1 E) 35 [some (.ref 198), some (.int x1), some (.int x2), some (.int x3), none] [] Z1 S 0 0 (f_X9_readRow_35b k35 x1 x2 x3 S) := by
  have F := M0.1
  unfold f_X9_readRow_35b
  refine a_iload_n F dX9_readRow_35 rfl rfl ?_
  refine a_aload_n F dX9_readRow_36 rfl rfl ?_
  refine a_getR (k := 0) F cfX9 dX9_readRow_37 fl_X9_33 (by decide) fi_9_0 zl_198 zk_198 zr_198_0 ?_
  refine a_getI (k := 1) F cfX5 dX9_readRow_40 fl_X9_113 (by decide) fi_5_1 zl_184 zk_184 ?_
  refine a_icmp_ge F 114 dX9_readRow_43 (by decide) ?_ ?_
  · refine a_aload_n F dX9_readRow_114 rfl rfl ?_
    refine a_getR (k := 0) F cfX9 dX9_readRow_115 fl_X9_33 (by decide) fi_9_0 zl_198 zk_198 zr_198_0 ?_
    refine a_iconst F dX9_readRow_118 ki_1 ?_
    refine a_aload_n F dX9_readRow_119 rfl rfl ?_
    refine a_getR (k := 0) F cfX9 dX9_readRow_120 fl_X9_33 (by decide) fi_9_0 zl_198 zk_198 zr_198_0 ?_
    refine a_getI (k := 1) F cfX5 dX9_readRow_123 fl_X9_113 (by decide) fi_5_1 zl_184 zk_184 ?_
    refine a_callVI F (As := [.int (1 : Int32), .int (S 184 1)]) cfX5 rfl (c_X5_wrong X (1 : Int32) (S 184 1) S) mw_X5_wrong ml_X9_129 im_X5_wrong se_X5_wrong M0.2.1 (Nat.le_of_ble_eq_true rfl) ⟨Nat.zero_le _, Nat.zero_le _⟩ rfl rfl (Nat.le_of_ble_eq_true rfl) zl_184 zk_184 dX9_readRow_126 rfl (fun q_1 => ?_)
    refine a_pop F dX9_readRow_129 rfl ?_
    refine a_iconst F dX9_readRow_130 ki_0 ?_
    exact a_zretK F M0.2.2.1 M0.2.2.2 dX9_readRow_131 (Or.inl rfl)
  · refine a_aload_n F dX9_readRow_46 rfl rfl ?_
    refine a_getR (k := 0) F cfX9 dX9_readRow_47 fl_X9_33 (by decide) fi_9_0 zl_198 zk_198 zr_198_0 ?_
    refine a_getR (k := 0) F cfX5 dX9_readRow_50 fl_X9_118 (by decide) fi_5_0 zl_184 zk_184 zr_184_0 ?_
    refine a_iload_n F dX9_readRow_53 rfl rfl ?_
    refine a_gd (a_iald F dX9_readRow_54 zl_185 zk_185 ?_)
    refine a_bipush F dX9_readRow_55 kb_34 ?_
    refine a_icmp_ne F 69 dX9_readRow_57 (by decide) ?_ ?_
    · refine a_aload_n F dX9_readRow_60 rfl rfl ?_
      refine a_iload_n F dX9_readRow_61 rfl rfl ?_
      refine a_iload_n F dX9_readRow_62 rfl rfl ?_
      refine a_iload_n F dX9_readRow_63 rfl rfl ?_
      refine a_isub F dX9_readRow_64 ?_
      refine a_callVI F (As := [.int x2, .int (x3 - x1)]) cfX9 rfl (c_X9_endRow X x2 (x3 - x1) S) mw_X9_endRow ml_X9_121 im_X9_endRow se_X9_endRow M0.2.1 (Nat.le_of_ble_eq_true rfl) ⟨Nat.zero_le _, Nat.zero_le _⟩ rfl rfl (Nat.le_of_ble_eq_true rfl) zl_198 zk_198 dX9_readRow_65 rfl (fun q_2 => ?_)
      exact a_gd (a_zret F M0.2.2.1 M0.2.2.2 dX9_readRow_68)
    · refine a_aload_n F dX9_readRow_69 rfl rfl ?_
      refine a_getR (k := 0) F cfX9 dX9_readRow_70 fl_X9_33 (by decide) fi_9_0 zl_198 zk_198 zr_198_0 ?_
      refine a_getR (k := 0) F cfX5 dX9_readRow_73 fl_X9_118 (by decide) fi_5_0 zl_184 zk_184 zr_184_0 ?_
      refine a_iload_n F dX9_readRow_76 rfl rfl ?_
      refine a_gd (a_iald F dX9_readRow_77 zl_185 zk_185 ?_)
      refine a_callNI (host := RX10) F (As := [.int (S 185 (ix x3))]) (c_X10_letterOf X (S 185 (ix x3)) S) mw_X10_letterOf (by decide +kernel) st_X10_letterOf M0.2.1 (Nat.le_of_ble_eq_true rfl) ⟨Nat.zero_le _, Nat.zero_le _⟩ rfl rfl (Nat.le_of_ble_eq_true rfl) dX9_readRow_78 rfl (fun q_3 => ?_)
      refine a_istore (L' := [some (.ref 198), some (.int x1), some (.int x2), some (.int x3), some (.int q_3.1)]) F dX9_readRow_81 (lt_b rfl) rfl ?_
      refine a_iload F dX9_readRow_83 rfl ?_
      refine a_iconst F dX9_readRow_85 ki_m1 ?_
      refine a_icmp_ne F 101 dX9_readRow_86 (by decide) ?_ ?_
      · refine a_aload_n F dX9_readRow_89 rfl rfl ?_
        refine a_getR (k := 0) F cfX9 dX9_readRow_90 fl_X9_33 (by decide) fi_9_0 zl_198 zk_198 zr_198_0 ?_
        refine a_iconst F dX9_readRow_93 ki_1 ?_
        refine a_iload_n F dX9_readRow_94 rfl rfl ?_
        refine a_callVI F (As := [.int (1 : Int32), .int x3]) cfX5 rfl (c_X5_wrong X (1 : Int32) x3 q_3.2) mw_X5_wrong ml_X9_129 im_X5_wrong se_X5_wrong M0.2.1 (Nat.le_of_ble_eq_true rfl) ⟨Nat.zero_le _, Nat.zero_le _⟩ rfl rfl (Nat.le_of_ble_eq_true rfl) zl_184 zk_184 dX9_readRow_95 rfl (fun q_4 => ?_)
        refine a_pop F dX9_readRow_98 rfl ?_
        refine a_iconst F dX9_readRow_99 ki_0 ?_
        exact a_zretK F M0.2.2.1 M0.2.2.2 dX9_readRow_100 (Or.inl rfl)
      · refine a_iload_n F dX9_readRow_101 rfl rfl ?_
        refine a_iconst F dX9_readRow_102 ki_1 ?_
        refine a_iload F dX9_readRow_103 rfl ?_
        refine a_ishl F dX9_readRow_105 ?_
        refine a_ior F dX9_readRow_106 ?_
        refine a_istore_nN (L' := fun x2_5 => [some (.ref 198), some (.int x1), some (.int x2_5), some (.int x3), some (.int q_3.1)]) F dX9_readRow_107 rfl (lt_b rfl) (fun _ => rfl) (fun x2_5 => ?_)
        refine a_iincN (L' := fun x3_6 => [some (.ref 198), some (.int x1), some (.int x2_5), some (.int x3_6), some (.int q_3.1)]) F dX9_readRow_108 rfl ki_1 (lt_b rfl) (fun _ => rfl) (fun x3_6 => ?_)
        refine a_goto F 35 dX9_readRow_111 (by decide) ?_
        refine a_mask [true, true, true, true, false] (L' := [some (.ref 198), some (.int x1), some (.int x2_5), some (.int x3_6), none]) rfl rfl ?_
        exact hk35 x1 x2_5 x3_6 q_3.2
def f_X9_readRow_35 : Nat → Int32 → Int32 → Int32 → Mm → Option (Int32 × Mm) :=
  itr (fun _ _ _ _ => none) (fun k => f_X9_readRow_35b k)
theorem b_X9_readRow_35 {X : CX} {E : FE} (M0 : MF X E RX9 cX9_readRow 5 3 (some .boolean)) : ∀ (n : Nat) (x1 x2 x3 : Int32) (S : Mm), At X E false (mQi X Z1 E) 35 [some (.ref 198), some (.int x1), some (.int x2), some (.int x3), none] [] Z1 S 0 0 (f_X9_readRow_35  n x1 x2 x3 S) := by
  intro n
  induction n with
  | zero => intros; exact a_none
  | succ n ih => intro x1 x2 x3 S; exact b_X9_readRow_35b M0 ih x1 x2 x3 S
def f_X9_readRow (S : Mm) : Option (Int32 × Mm) :=
  (f_X8_isSign 202 (34 : Int32) S).bind fun q_1 =>
  if q_1.1 = 0 then (
   (f_X8_wrong 202 (1 : Int32) q_1.2).bind fun q_2 =>
   gd (q_2.1 = 0 ∨ q_2.1 = 1) <| some (q_2.1, q_2.2)
  ) else (
   (f_X8_place 202 q_1.2).bind fun q_3 =>
   nm ((q_3.1 + (1 : Int32))) fun x1_4 =>
   f_X9_readRow_35 FU x1_4 (0 : Int32) x1_4 q_3.2
  )
set_option maxRecDepth 20000 in
theorem b_X9_readRow {X : CX} {E : FE} (M0 : MF X E RX9 cX9_readRow 5 3 (some .boolean)) (S : Mm) : At X E false (mQi X Z1 E) 0 [some (.ref 198), none, none, none, none] [] Z1 S 0 0 (f_X9_readRow S) := by
  have F := M0.1
  unfold f_X9_readRow
  refine a_aload_n F dX9_readRow_0 rfl rfl ?_
  refine a_getR (k := 1) F cfX9 dX9_readRow_1 fl_X9_46 (by decide) fi_9_1 zl_198 zk_198 zr_198_1 ?_
  refine a_bipush F dX9_readRow_4 kb_34 ?_
  refine a_callVI F (As := [.int (34 : Int32)]) cfX8 rfl (c_X8_isSign X itk_202 (34 : Int32) S) mw_X8_isSign ml_X9_107 im_X8_isSign se_X8_isSign M0.2.1 (Nat.le_of_ble_eq_true rfl) ⟨Nat.zero_le _, Nat.zero_le _⟩ rfl rfl (Nat.le_of_ble_eq_true rfl) zl_202 zk_202 dX9_readRow_6 rfl (fun q_1 => ?_)
  refine a_if_ne F 21 dX9_readRow_9 (by decide) ?_ ?_
  · refine a_aload_n F dX9_readRow_12 rfl rfl ?_
    refine a_getR (k := 1) F cfX9 dX9_readRow_13 fl_X9_46 (by decide) fi_9_1 zl_198 zk_198 zr_198_1 ?_
    refine a_iconst F dX9_readRow_16 ki_1 ?_
    refine a_callVI F (As := [.int (1 : Int32)]) cfX8 rfl (c_X8_wrong X itk_202 (1 : Int32) q_1.2) mw_X8_wrong ml_X9_83 im_X8_wrong se_X8_wrong M0.2.1 (Nat.le_of_ble_eq_true rfl) ⟨Nat.zero_le _, Nat.zero_le _⟩ rfl rfl (Nat.le_of_ble_eq_true rfl) zl_202 zk_202 dX9_readRow_17 rfl (fun q_2 => ?_)
    exact a_gd (a_zret F M0.2.2.1 M0.2.2.2 dX9_readRow_20)
  · refine a_aload_n F dX9_readRow_21 rfl rfl ?_
    refine a_getR (k := 1) F cfX9 dX9_readRow_22 fl_X9_46 (by decide) fi_9_1 zl_198 zk_198 zr_198_1 ?_
    refine a_callVI F (As := []) cfX8 rfl (c_X8_place X itk_202 q_1.2) mw_X8_place ml_X9_110 im_X8_place se_X8_place M0.2.1 (Nat.le_of_ble_eq_true rfl) ⟨Nat.zero_le _, Nat.zero_le _⟩ rfl rfl (Nat.le_of_ble_eq_true rfl) zl_202 zk_202 dX9_readRow_25 rfl (fun q_3 => ?_)
    refine a_iconst F dX9_readRow_28 ki_1 ?_
    refine a_iadd F dX9_readRow_29 ?_
    refine a_istore_nN (L' := fun x1_4 => [some (.ref 198), some (.int x1_4), none, none, none]) F dX9_readRow_30 rfl (lt_b rfl) (fun _ => rfl) (fun x1_4 => ?_)
    refine a_iconst F dX9_readRow_31 ki_0 ?_
    refine a_istore_n (L' := [some (.ref 198), some (.int x1_4), some (.int (0 : Int32)), none, none]) F dX9_readRow_32 rfl (lt_b rfl) rfl ?_
    refine a_iload_n F dX9_readRow_33 rfl rfl ?_
    refine a_istore_n (L' := [some (.ref 198), some (.int x1_4), some (.int (0 : Int32)), some (.int x1_4), none]) F dX9_readRow_34 rfl (lt_b rfl) rfl ?_
    exact b_X9_readRow_35 M0 FU x1_4 (0 : Int32) x1_4 q_3.2
theorem c_X9_readRow (X : CX) (S : Mm) : CtI X Z1 yX9_readRow cX9_readRow 5 (some .boolean) 3 [.ref 198] S (f_X9_readRow S) :=
  ctI_of (by decide +kernel) rfl (Nat.le_of_ble_eq_true rfl) (by simp [Value.category]) z1len fun E F R hra hlk => b_X9_readRow ⟨F, R, hra, hlk⟩ S
def f_X8_skipWord (r0 : Nat) (p1 : Int32) (S : Mm) : Option (Int32 × Mm) :=
  (f_X8_isWord r0 p1 S).bind fun q_1 =>
  if q_1.1 = 0 then (
   (f_X8_wrong r0 (1 : Int32) q_1.2).bind fun q_2 =>
   gd (q_2.1 = 0 ∨ q_2.1 = 1) <| some (q_2.1, q_2.2)
  ) else (
   (f_X8_skip r0 q_1.2).bind fun S_3 =>
   some ((1 : Int32), S_3)
  )
set_option maxRecDepth 20000 in
theorem b_X8_skipWord {X : CX} {E : FE} (M0 : MF X E RX8 cX8_skipWord 2 2 (some .boolean)) {r0 : Nat} (h0 : isTok r0) (p1 : Int32) (S : Mm) : At X E false (mQi X Z1 E) 0 [some (.ref r0), some (.int p1)] [] Z1 S 0 0 (f_X8_skipWord r0 p1 S) := by
  have F := M0.1
  unfold f_X8_skipWord
  refine a_aload_n F dX8_skipWord_0 rfl rfl ?_
  refine a_iload_n F dX8_skipWord_1 rfl rfl ?_
  refine a_callVI F (As := [.int p1]) cfX8 rfl (c_X8_isWord X h0 p1 S) mw_X8_isWord ml_X8_100 im_X8_isWord se_X8_isWord M0.2.1 (Nat.le_of_ble_eq_true rfl) ⟨Nat.zero_le _, Nat.zero_le _⟩ rfl rfl (Nat.le_of_ble_eq_true rfl) (ztl_0 h0) (ztk_0 h0) dX8_skipWord_2 rfl (fun q_1 => ?_)
  refine a_if_ne F 14 dX8_skipWord_5 (by decide) ?_ ?_
  · refine a_aload_n F dX8_skipWord_8 rfl rfl ?_
    refine a_iconst F dX8_skipWord_9 ki_1 ?_
    refine a_callVI F (As := [.int (1 : Int32)]) cfX8 rfl (c_X8_wrong X h0 (1 : Int32) q_1.2) mw_X8_wrong ml_X8_103 im_X8_wrong se_X8_wrong M0.2.1 (Nat.le_of_ble_eq_true rfl) ⟨Nat.zero_le _, Nat.zero_le _⟩ rfl rfl (Nat.le_of_ble_eq_true rfl) (ztl_0 h0) (ztk_0 h0) dX8_skipWord_10 rfl (fun q_2 => ?_)
    exact a_gd (a_zret F M0.2.2.1 M0.2.2.2 dX8_skipWord_13)
  · refine a_aload_n F dX8_skipWord_14 rfl rfl ?_
    refine a_callVV F (As := []) cfX8 rfl (c_X8_skip X h0 q_1.2) mw_X8_skip ml_X8_106 im_X8_skip se_X8_skip M0.2.1 (Nat.le_of_ble_eq_true rfl) ⟨Nat.zero_le _, Nat.zero_le _⟩ rfl rfl (Nat.le_of_ble_eq_true rfl) (ztl_0 h0) (ztk_0 h0) dX8_skipWord_15 rfl (fun S_3 => ?_)
    refine a_iconst F dX8_skipWord_18 ki_1 ?_
    exact a_zretK F M0.2.2.1 M0.2.2.2 dX8_skipWord_19 (Or.inr rfl)
theorem c_X8_skipWord (X : CX) {r0 : Nat} (h0 : isTok r0) (p1 : Int32) (S : Mm) : CtI X Z1 yX8_skipWord cX8_skipWord 2 (some .boolean) 2 [.ref r0, .int p1] S (f_X8_skipWord r0 p1 S) :=
  ctI_of (by decide +kernel) rfl (Nat.le_of_ble_eq_true rfl) (by simp [Value.category]) z1len fun E F R hra hlk => b_X8_skipWord ⟨F, R, hra, hlk⟩ h0 p1 S
def f_X9_readPerson_200_44 (S : Mm) : Option (Int32 × Mm) :=
  (f_X8_wrong 202 (2 : Int32) S).bind fun q_1 =>
  gd (q_1.1 = 0 ∨ q_1.1 = 1) <| some (q_1.1, q_1.2)
set_option maxRecDepth 20000 in
theorem b_X9_readPerson_200_44 {X : CX} {E : FE} (M0 : MF X E RX9 cX9_readPerson 3 2 (some .boolean)) (S : Mm) : At X E false (mQi X Z1 E) 44 [some (.ref 198), none, none] [] Z1 S 0 0 (f_X9_readPerson_200_44 S) := by
  have F := M0.1
  unfold f_X9_readPerson_200_44
  refine a_aload_n F dX9_readPerson_44 rfl rfl ?_
  refine a_getR (k := 1) F cfX9 dX9_readPerson_45 fl_X9_46 (by decide) fi_9_1 zl_198 zk_198 zr_198_1 ?_
  refine a_iconst F dX9_readPerson_48 ki_2 ?_
  refine a_callVI F (As := [.int (2 : Int32)]) cfX8 rfl (c_X8_wrong X itk_202 (2 : Int32) S) mw_X8_wrong ml_X9_83 im_X8_wrong se_X8_wrong M0.2.1 (Nat.le_of_ble_eq_true rfl) ⟨Nat.zero_le _, Nat.zero_le _⟩ rfl rfl (Nat.le_of_ble_eq_true rfl) zl_202 zk_202 dX9_readPerson_49 rfl (fun q_1 => ?_)
  exact a_gd (a_zret F M0.2.2.1 M0.2.2.2 dX9_readPerson_52)
def f_X9_readPerson_200 (S : Mm) : Option (Int32 × Mm) :=
  (f_X8_kind 202 S).bind fun q_1 =>
  if q_1.1 = (2 : Int32) then (
   (f_X8_value 202 q_1.2).bind fun q_2 =>
   if (q_2.2 198 7) ≤ q_2.1 then (
    f_X9_readPerson_200_44 q_2.2
   ) else (
    if q_2.1 = (q_2.2 198 6) then (
     f_X9_readPerson_200_44 q_2.2
    ) else (
     gd (inB (q_2.2 198 5) 12 = true) <|
     nm (uM q_2.2 200 (ix (q_2.2 198 5)) q_2.1) fun S_3 =>
     (f_X8_skip 202 S_3).bind fun S_4 =>
     some ((1 : Int32), S_4)
    )
   )
  ) else (
   (f_X8_wrong 202 (1 : Int32) q_1.2).bind fun q_5 =>
   gd (q_5.1 = 0 ∨ q_5.1 = 1) <| some (q_5.1, q_5.2)
  )
set_option maxRecDepth 20000 in
theorem b_X9_readPerson_200 {X : CX} {E : FE} (M0 : MF X E RX9 cX9_readPerson 3 2 (some .boolean)) (S : Mm) : At X E false (mQi X Z1 E) 0 [some (.ref 198), some (.ref 200), none] [] Z1 S 0 0 (f_X9_readPerson_200 S) := by
  have F := M0.1
  unfold f_X9_readPerson_200
  refine a_aload_n F dX9_readPerson_0 rfl rfl ?_
  refine a_getR (k := 1) F cfX9 dX9_readPerson_1 fl_X9_46 (by decide) fi_9_1 zl_198 zk_198 zr_198_1 ?_
  refine a_callVI F (As := []) cfX8 rfl (c_X8_kind X itk_202 S) mw_X8_kind ml_X9_53 im_X8_kind se_X8_kind M0.2.1 (Nat.le_of_ble_eq_true rfl) ⟨Nat.zero_le _, Nat.zero_le _⟩ rfl rfl (Nat.le_of_ble_eq_true rfl) zl_202 zk_202 dX9_readPerson_4 rfl (fun q_1 => ?_)
  refine a_iconst F dX9_readPerson_7 ki_2 ?_
  refine a_icmp_eq F 20 dX9_readPerson_8 (by decide) ?_ ?_
  · refine a_aload_n F dX9_readPerson_20 rfl rfl ?_
    refine a_getR (k := 1) F cfX9 dX9_readPerson_21 fl_X9_46 (by decide) fi_9_1 zl_198 zk_198 zr_198_1 ?_
    refine a_callVI F (As := []) cfX8 rfl (c_X8_value X itk_202 q_1.2) mw_X8_value ml_X9_104 im_X8_value se_X8_value M0.2.1 (Nat.le_of_ble_eq_true rfl) ⟨Nat.zero_le _, Nat.zero_le _⟩ rfl rfl (Nat.le_of_ble_eq_true rfl) zl_202 zk_202 dX9_readPerson_24 rfl (fun q_2 => ?_)
    refine a_istore_n (L' := [some (.ref 198), some (.ref 200), some (.int q_2.1)]) F dX9_readPerson_27 rfl (lt_b rfl) rfl ?_
    refine a_iload_n F dX9_readPerson_28 rfl rfl ?_
    refine a_aload_n F dX9_readPerson_29 rfl rfl ?_
    refine a_getI (k := 7) F cfX9 dX9_readPerson_30 fl_X9_30 (by decide) fi_9_7 zl_198 zk_198 ?_
    refine a_icmp_ge F 44 dX9_readPerson_33 (by decide) ?_ ?_
    · refine a_mask [true, false, false] (L' := [some (.ref 198), none, none]) rfl rfl ?_
      exact b_X9_readPerson_200_44 M0 q_2.2
    · refine a_iload_n F dX9_readPerson_36 rfl rfl ?_
      refine a_aload_n F dX9_readPerson_37 rfl rfl ?_
      refine a_getI (k := 6) F cfX9 dX9_readPerson_38 fl_X9_27 (by decide) fi_9_6 zl_198 zk_198 ?_
      refine a_icmp_ne F 53 dX9_readPerson_41 (by decide) ?_ ?_
      · refine a_mask [true, false, false] (L' := [some (.ref 198), none, none]) rfl rfl ?_
        exact b_X9_readPerson_200_44 M0 q_2.2
      · refine a_aload_n F dX9_readPerson_53 rfl rfl ?_
        refine a_aload_n F dX9_readPerson_54 rfl rfl ?_
        refine a_getI (k := 5) F cfX9 dX9_readPerson_55 fl_X9_23 (by decide) fi_9_5 zl_198 zk_198 ?_
        refine a_iload_n F dX9_readPerson_58 rfl rfl ?_
        refine a_gd (a_iast F dX9_readPerson_59 zl_200 zk_200 ?_)
        refine a_nmS (fun S_3 => ?_)
        refine a_aload_n F dX9_readPerson_60 rfl rfl ?_
        refine a_getR (k := 1) F cfX9 dX9_readPerson_61 fl_X9_46 (by decide) fi_9_1 zl_198 zk_198 zr_198_1 ?_
        refine a_callVV F (As := []) cfX8 rfl (c_X8_skip X itk_202 S_3) mw_X8_skip ml_X9_86 im_X8_skip se_X8_skip M0.2.1 (Nat.le_of_ble_eq_true rfl) ⟨Nat.zero_le _, Nat.zero_le _⟩ rfl rfl (Nat.le_of_ble_eq_true rfl) zl_202 zk_202 dX9_readPerson_64 rfl (fun S_4 => ?_)
        refine a_iconst F dX9_readPerson_67 ki_1 ?_
        exact a_zretK F M0.2.2.1 M0.2.2.2 dX9_readPerson_68 (Or.inr rfl)
  · refine a_aload_n F dX9_readPerson_11 rfl rfl ?_
    refine a_getR (k := 1) F cfX9 dX9_readPerson_12 fl_X9_46 (by decide) fi_9_1 zl_198 zk_198 zr_198_1 ?_
    refine a_iconst F dX9_readPerson_15 ki_1 ?_
    refine a_callVI F (As := [.int (1 : Int32)]) cfX8 rfl (c_X8_wrong X itk_202 (1 : Int32) q_1.2) mw_X8_wrong ml_X9_83 im_X8_wrong se_X8_wrong M0.2.1 (Nat.le_of_ble_eq_true rfl) ⟨Nat.zero_le _, Nat.zero_le _⟩ rfl rfl (Nat.le_of_ble_eq_true rfl) zl_202 zk_202 dX9_readPerson_16 rfl (fun q_5 => ?_)
    exact a_gd (a_zret F M0.2.2.1 M0.2.2.2 dX9_readPerson_19)
theorem c_X9_readPerson_200 (X : CX) (S : Mm) : CtI X Z1 yX9_readPerson cX9_readPerson 3 (some .boolean) 2 [.ref 198, .ref 200] S (f_X9_readPerson_200 S) :=
  ctI_of (by decide +kernel) rfl (Nat.le_of_ble_eq_true rfl) (by simp [Value.category]) z1len fun E F R hra hlk => b_X9_readPerson_200 ⟨F, R, hra, hlk⟩ S
def f_X9_readPerson_201_44 (S : Mm) : Option (Int32 × Mm) :=
  (f_X8_wrong 202 (2 : Int32) S).bind fun q_1 =>
  gd (q_1.1 = 0 ∨ q_1.1 = 1) <| some (q_1.1, q_1.2)
set_option maxRecDepth 20000 in
theorem b_X9_readPerson_201_44 {X : CX} {E : FE} (M0 : MF X E RX9 cX9_readPerson 3 2 (some .boolean)) (S : Mm) : At X E false (mQi X Z1 E) 44 [some (.ref 198), none, none] [] Z1 S 0 0 (f_X9_readPerson_201_44 S) := by
  have F := M0.1
  unfold f_X9_readPerson_201_44
  refine a_aload_n F dX9_readPerson_44 rfl rfl ?_
  refine a_getR (k := 1) F cfX9 dX9_readPerson_45 fl_X9_46 (by decide) fi_9_1 zl_198 zk_198 zr_198_1 ?_
  refine a_iconst F dX9_readPerson_48 ki_2 ?_
  refine a_callVI F (As := [.int (2 : Int32)]) cfX8 rfl (c_X8_wrong X itk_202 (2 : Int32) S) mw_X8_wrong ml_X9_83 im_X8_wrong se_X8_wrong M0.2.1 (Nat.le_of_ble_eq_true rfl) ⟨Nat.zero_le _, Nat.zero_le _⟩ rfl rfl (Nat.le_of_ble_eq_true rfl) zl_202 zk_202 dX9_readPerson_49 rfl (fun q_1 => ?_)
  exact a_gd (a_zret F M0.2.2.1 M0.2.2.2 dX9_readPerson_52)
def f_X9_readPerson_201 (S : Mm) : Option (Int32 × Mm) :=
  (f_X8_kind 202 S).bind fun q_1 =>
  if q_1.1 = (2 : Int32) then (
   (f_X8_value 202 q_1.2).bind fun q_2 =>
   if (q_2.2 198 7) ≤ q_2.1 then (
    f_X9_readPerson_201_44 q_2.2
   ) else (
    if q_2.1 = (q_2.2 198 6) then (
     f_X9_readPerson_201_44 q_2.2
    ) else (
     gd (inB (q_2.2 198 5) 12 = true) <|
     nm (uM q_2.2 201 (ix (q_2.2 198 5)) q_2.1) fun S_3 =>
     (f_X8_skip 202 S_3).bind fun S_4 =>
     some ((1 : Int32), S_4)
    )
   )
  ) else (
   (f_X8_wrong 202 (1 : Int32) q_1.2).bind fun q_5 =>
   gd (q_5.1 = 0 ∨ q_5.1 = 1) <| some (q_5.1, q_5.2)
  )
set_option maxRecDepth 20000 in
theorem b_X9_readPerson_201 {X : CX} {E : FE} (M0 : MF X E RX9 cX9_readPerson 3 2 (some .boolean)) (S : Mm) : At X E false (mQi X Z1 E) 0 [some (.ref 198), some (.ref 201), none] [] Z1 S 0 0 (f_X9_readPerson_201 S) := by
  have F := M0.1
  unfold f_X9_readPerson_201
  refine a_aload_n F dX9_readPerson_0 rfl rfl ?_
  refine a_getR (k := 1) F cfX9 dX9_readPerson_1 fl_X9_46 (by decide) fi_9_1 zl_198 zk_198 zr_198_1 ?_
  refine a_callVI F (As := []) cfX8 rfl (c_X8_kind X itk_202 S) mw_X8_kind ml_X9_53 im_X8_kind se_X8_kind M0.2.1 (Nat.le_of_ble_eq_true rfl) ⟨Nat.zero_le _, Nat.zero_le _⟩ rfl rfl (Nat.le_of_ble_eq_true rfl) zl_202 zk_202 dX9_readPerson_4 rfl (fun q_1 => ?_)
  refine a_iconst F dX9_readPerson_7 ki_2 ?_
  refine a_icmp_eq F 20 dX9_readPerson_8 (by decide) ?_ ?_
  · refine a_aload_n F dX9_readPerson_20 rfl rfl ?_
    refine a_getR (k := 1) F cfX9 dX9_readPerson_21 fl_X9_46 (by decide) fi_9_1 zl_198 zk_198 zr_198_1 ?_
    refine a_callVI F (As := []) cfX8 rfl (c_X8_value X itk_202 q_1.2) mw_X8_value ml_X9_104 im_X8_value se_X8_value M0.2.1 (Nat.le_of_ble_eq_true rfl) ⟨Nat.zero_le _, Nat.zero_le _⟩ rfl rfl (Nat.le_of_ble_eq_true rfl) zl_202 zk_202 dX9_readPerson_24 rfl (fun q_2 => ?_)
    refine a_istore_n (L' := [some (.ref 198), some (.ref 201), some (.int q_2.1)]) F dX9_readPerson_27 rfl (lt_b rfl) rfl ?_
    refine a_iload_n F dX9_readPerson_28 rfl rfl ?_
    refine a_aload_n F dX9_readPerson_29 rfl rfl ?_
    refine a_getI (k := 7) F cfX9 dX9_readPerson_30 fl_X9_30 (by decide) fi_9_7 zl_198 zk_198 ?_
    refine a_icmp_ge F 44 dX9_readPerson_33 (by decide) ?_ ?_
    · refine a_mask [true, false, false] (L' := [some (.ref 198), none, none]) rfl rfl ?_
      exact b_X9_readPerson_201_44 M0 q_2.2
    · refine a_iload_n F dX9_readPerson_36 rfl rfl ?_
      refine a_aload_n F dX9_readPerson_37 rfl rfl ?_
      refine a_getI (k := 6) F cfX9 dX9_readPerson_38 fl_X9_27 (by decide) fi_9_6 zl_198 zk_198 ?_
      refine a_icmp_ne F 53 dX9_readPerson_41 (by decide) ?_ ?_
      · refine a_mask [true, false, false] (L' := [some (.ref 198), none, none]) rfl rfl ?_
        exact b_X9_readPerson_201_44 M0 q_2.2
      · refine a_aload_n F dX9_readPerson_53 rfl rfl ?_
        refine a_aload_n F dX9_readPerson_54 rfl rfl ?_
        refine a_getI (k := 5) F cfX9 dX9_readPerson_55 fl_X9_23 (by decide) fi_9_5 zl_198 zk_198 ?_
        refine a_iload_n F dX9_readPerson_58 rfl rfl ?_
        refine a_gd (a_iast F dX9_readPerson_59 zl_201 zk_201 ?_)
        refine a_nmS (fun S_3 => ?_)
        refine a_aload_n F dX9_readPerson_60 rfl rfl ?_
        refine a_getR (k := 1) F cfX9 dX9_readPerson_61 fl_X9_46 (by decide) fi_9_1 zl_198 zk_198 zr_198_1 ?_
        refine a_callVV F (As := []) cfX8 rfl (c_X8_skip X itk_202 S_3) mw_X8_skip ml_X9_86 im_X8_skip se_X8_skip M0.2.1 (Nat.le_of_ble_eq_true rfl) ⟨Nat.zero_le _, Nat.zero_le _⟩ rfl rfl (Nat.le_of_ble_eq_true rfl) zl_202 zk_202 dX9_readPerson_64 rfl (fun S_4 => ?_)
        refine a_iconst F dX9_readPerson_67 ki_1 ?_
        exact a_zretK F M0.2.2.1 M0.2.2.2 dX9_readPerson_68 (Or.inr rfl)
  · refine a_aload_n F dX9_readPerson_11 rfl rfl ?_
    refine a_getR (k := 1) F cfX9 dX9_readPerson_12 fl_X9_46 (by decide) fi_9_1 zl_198 zk_198 zr_198_1 ?_
    refine a_iconst F dX9_readPerson_15 ki_1 ?_
    refine a_callVI F (As := [.int (1 : Int32)]) cfX8 rfl (c_X8_wrong X itk_202 (1 : Int32) q_1.2) mw_X8_wrong ml_X9_83 im_X8_wrong se_X8_wrong M0.2.1 (Nat.le_of_ble_eq_true rfl) ⟨Nat.zero_le _, Nat.zero_le _⟩ rfl rfl (Nat.le_of_ble_eq_true rfl) zl_202 zk_202 dX9_readPerson_16 rfl (fun q_5 => ?_)
    exact a_gd (a_zret F M0.2.2.1 M0.2.2.2 dX9_readPerson_19)
theorem c_X9_readPerson_201 (X : CX) (S : Mm) : CtI X Z1 yX9_readPerson cX9_readPerson 3 (some .boolean) 2 [.ref 198, .ref 201] S (f_X9_readPerson_201 S) :=
  ctI_of (by decide +kernel) rfl (Nat.le_of_ble_eq_true rfl) (by simp [Value.category]) z1len fun E F R hra hlk => b_X9_readPerson_201 ⟨F, R, hra, hlk⟩ S
def f_X9_readLine_147 (S : Mm) : Option (Int32 × Mm) :=
  nm (uM S 198 5 ((S 198 5) + (1 : Int32))) fun S_1 =>
  (f_X8_skipSign 202 (59 : Int32) S_1).bind fun q_2 =>
  gd (q_2.1 = 0 ∨ q_2.1 = 1) <| some (q_2.1, q_2.2)
set_option maxRecDepth 20000 in
theorem b_X9_readLine_147 {X : CX} {E : FE} (M0 : MF X E RX9 cX9_readLine 2 4 (some .boolean)) (S : Mm) : At X E false (mQi X Z1 E) 147 [some (.ref 198), none] [] Z1 S 0 0 (f_X9_readLine_147 S) := by
  have F := M0.1
  unfold f_X9_readLine_147
  refine a_aload_n F dX9_readLine_147 rfl rfl ?_
  refine a_dup F dX9_readLine_148 rfl ?_
  refine a_getI (k := 5) F cfX9 dX9_readLine_149 fl_X9_23 (by decide) fi_9_5 zl_198 zk_198 ?_
  refine a_iconst F dX9_readLine_152 ki_1 ?_
  refine a_iadd F dX9_readLine_153 ?_
  refine a_putI (k := 5) F cfX9 dX9_readLine_154 fl_X9_23 (by decide) fi_9_5 rfl rfl zl_198 zk_198 ?_
  refine a_nmS (fun S_1 => ?_)
  refine a_aload_n F dX9_readLine_157 rfl rfl ?_
  refine a_getR (k := 1) F cfX9 dX9_readLine_158 fl_X9_46 (by decide) fi_9_1 zl_198 zk_198 zr_198_1 ?_
  refine a_bipush F dX9_readLine_161 kb_59 ?_
  refine a_callVI F (As := [.int (59 : Int32)]) cfX8 rfl (c_X8_skipSign X itk_202 (59 : Int32) S_1) mw_X8_skipSign ml_X9_100 im_X8_skipSign se_X8_skipSign M0.2.1 (Nat.le_of_ble_eq_true rfl) ⟨Nat.zero_le _, Nat.zero_le _⟩ rfl rfl (Nat.le_of_ble_eq_true rfl) zl_202 zk_202 dX9_readLine_163 rfl (fun q_2 => ?_)
  exact a_gd (a_zret F M0.2.2.1 M0.2.2.2 dX9_readLine_166)
def f_X9_readLine_82 (S : Mm) : Option (Int32 × Mm) :=
  (f_X8_skipWord 202 (1 : Int32) S).bind fun q_1 =>
  if q_1.1 = 0 then (
   some ((0 : Int32), q_1.2)
  ) else (
   (f_X9_readPerson_200 q_1.2).bind fun q_2 =>
   if q_2.1 = 0 then (
    some ((0 : Int32), q_2.2)
   ) else (
    gd (inB (q_2.2 198 5) 12 = true) <|
    nm (uM q_2.2 201 (ix (q_2.2 198 5)) (-1 : Int32)) fun S_3 =>
    (f_X8_isWord 202 (2 : Int32) S_3).bind fun q_4 =>
    if q_4.1 = 0 then (
     f_X9_readLine_147 q_4.2
    ) else (
     (f_X8_skip 202 q_4.2).bind fun S_5 =>
     (f_X9_readPerson_201 S_5).bind fun q_6 =>
     if q_6.1 = 0 then (
      some ((0 : Int32), q_6.2)
     ) else (
      f_X9_readLine_147 q_6.2
     )
    )
   )
  )
set_option maxRecDepth 20000 in
theorem b_X9_readLine_82 {X : CX} {E : FE} (M0 : MF X E RX9 cX9_readLine 2 4 (some .boolean)) (S : Mm) : At X E false (mQi X Z1 E) 82 [some (.ref 198), none] [] Z1 S 0 0 (f_X9_readLine_82 S) := by
  have F := M0.1
  unfold f_X9_readLine_82
  refine a_aload_n F dX9_readLine_82 rfl rfl ?_
  refine a_getR (k := 1) F cfX9 dX9_readLine_83 fl_X9_46 (by decide) fi_9_1 zl_198 zk_198 zr_198_1 ?_
  refine a_iconst F dX9_readLine_86 ki_1 ?_
  refine a_callVI F (As := [.int (1 : Int32)]) cfX8 rfl (c_X8_skipWord X itk_202 (1 : Int32) S) mw_X8_skipWord ml_X9_93 im_X8_skipWord se_X8_skipWord M0.2.1 (Nat.le_of_ble_eq_true rfl) ⟨Nat.zero_le _, Nat.zero_le _⟩ rfl rfl (Nat.le_of_ble_eq_true rfl) zl_202 zk_202 dX9_readLine_87 rfl (fun q_1 => ?_)
  refine a_if_eq F 104 dX9_readLine_90 (by decide) ?_ ?_
  · refine a_iconst F dX9_readLine_104 ki_0 ?_
    exact a_zretK F M0.2.2.1 M0.2.2.2 dX9_readLine_105 (Or.inl rfl)
  · refine a_aload_n F dX9_readLine_93 rfl rfl ?_
    refine a_aload_n F dX9_readLine_94 rfl rfl ?_
    refine a_getR (k := 3) F cfX9 dX9_readLine_95 fl_X9_17 (by decide) fi_9_3 zl_198 zk_198 zr_198_3 ?_
    refine a_callVI F (As := [.ref 200]) cfX9 rfl (c_X9_readPerson_200 X q_1.2) mw_X9_readPerson ml_X9_96 im_X9_readPerson se_X9_readPerson M0.2.1 (Nat.le_of_ble_eq_true rfl) ⟨Nat.zero_le _, Nat.zero_le _⟩ rfl rfl (Nat.le_of_ble_eq_true rfl) zl_198 zk_198 dX9_readLine_98 rfl (fun q_2 => ?_)
    refine a_if_ne F 106 dX9_readLine_101 (by decide) ?_ ?_
    · refine a_iconst F dX9_readLine_104 ki_0 ?_
      exact a_zretK F M0.2.2.1 M0.2.2.2 dX9_readLine_105 (Or.inl rfl)
    · refine a_aload_n F dX9_readLine_106 rfl rfl ?_
      refine a_getR (k := 4) F cfX9 dX9_readLine_107 fl_X9_20 (by decide) fi_9_4 zl_198 zk_198 zr_198_4 ?_
      refine a_aload_n F dX9_readLine_110 rfl rfl ?_
      refine a_getI (k := 5) F cfX9 dX9_readLine_111 fl_X9_23 (by decide) fi_9_5 zl_198 zk_198 ?_
      refine a_iconst F dX9_readLine_114 ki_m1 ?_
      refine a_gd (a_iast F dX9_readLine_115 zl_201 zk_201 ?_)
      refine a_nmS (fun S_3 => ?_)
      refine a_aload_n F dX9_readLine_116 rfl rfl ?_
      refine a_getR (k := 1) F cfX9 dX9_readLine_117 fl_X9_46 (by decide) fi_9_1 zl_198 zk_198 zr_198_1 ?_
      refine a_iconst F dX9_readLine_120 ki_2 ?_
      refine a_callVI F (As := [.int (2 : Int32)]) cfX8 rfl (c_X8_isWord X itk_202 (2 : Int32) S_3) mw_X8_isWord ml_X9_79 im_X8_isWord se_X8_isWord M0.2.1 (Nat.le_of_ble_eq_true rfl) ⟨Nat.zero_le _, Nat.zero_le _⟩ rfl rfl (Nat.le_of_ble_eq_true rfl) zl_202 zk_202 dX9_readLine_121 rfl (fun q_4 => ?_)
      refine a_if_eq F 147 dX9_readLine_124 (by decide) ?_ ?_
      · exact b_X9_readLine_147 M0 q_4.2
      · refine a_aload_n F dX9_readLine_127 rfl rfl ?_
        refine a_getR (k := 1) F cfX9 dX9_readLine_128 fl_X9_46 (by decide) fi_9_1 zl_198 zk_198 zr_198_1 ?_
        refine a_callVV F (As := []) cfX8 rfl (c_X8_skip X itk_202 q_4.2) mw_X8_skip ml_X9_86 im_X8_skip se_X8_skip M0.2.1 (Nat.le_of_ble_eq_true rfl) ⟨Nat.zero_le _, Nat.zero_le _⟩ rfl rfl (Nat.le_of_ble_eq_true rfl) zl_202 zk_202 dX9_readLine_131 rfl (fun S_5 => ?_)
        refine a_aload_n F dX9_readLine_134 rfl rfl ?_
        refine a_aload_n F dX9_readLine_135 rfl rfl ?_
        refine a_getR (k := 4) F cfX9 dX9_readLine_136 fl_X9_20 (by decide) fi_9_4 zl_198 zk_198 zr_198_4 ?_
        refine a_callVI F (As := [.ref 201]) cfX9 rfl (c_X9_readPerson_201 X S_5) mw_X9_readPerson ml_X9_96 im_X9_readPerson se_X9_readPerson M0.2.1 (Nat.le_of_ble_eq_true rfl) ⟨Nat.zero_le _, Nat.zero_le _⟩ rfl rfl (Nat.le_of_ble_eq_true rfl) zl_198 zk_198 dX9_readLine_139 rfl (fun q_6 => ?_)
        refine a_if_ne F 147 dX9_readLine_142 (by decide) ?_ ?_
        · refine a_iconst F dX9_readLine_145 ki_0 ?_
          exact a_zretK F M0.2.2.1 M0.2.2.2 dX9_readLine_146 (Or.inl rfl)
        · exact b_X9_readLine_147 M0 q_6.2
def f_X9_readLine_33 (x1 : Int32) (S : Mm) : Option (Int32 × Mm) :=
  if (S 198 5) < (12 : Int32) then (
   (f_X8_skip 202 S).bind fun S_1 =>
   gd (inB (S_1 198 5) 12 = true) <|
   nm (uM S_1 199 (ix (S_1 198 5)) (268435455 : Int32)) fun S_2 =>
   if x1 = 0 then (
    (f_X9_readRow S_2).bind fun q_3 =>
    if q_3.1 = 0 then (
     some ((0 : Int32), q_3.2)
    ) else (
     f_X9_readLine_82 q_3.2
    )
   ) else (
    f_X9_readLine_82 S_2
   )
  ) else (
   (f_X8_wrong 202 (3 : Int32) S).bind fun q_4 =>
   gd (q_4.1 = 0 ∨ q_4.1 = 1) <| some (q_4.1, q_4.2)
  )
set_option maxRecDepth 20000 in
theorem b_X9_readLine_33 {X : CX} {E : FE} (M0 : MF X E RX9 cX9_readLine 2 4 (some .boolean)) (x1 : Int32) (S : Mm) : At X E false (mQi X Z1 E) 33 [some (.ref 198), some (.int x1)] [] Z1 S 0 0 (f_X9_readLine_33 x1 S) := by
  have F := M0.1
  unfold f_X9_readLine_33
  refine a_aload_n F dX9_readLine_33 rfl rfl ?_
  refine a_getI (k := 5) F cfX9 dX9_readLine_34 fl_X9_23 (by decide) fi_9_5 zl_198 zk_198 ?_
  refine a_bipush F dX9_readLine_37 kb_12 ?_
  refine a_icmp_lt F 51 dX9_readLine_39 (by decide) ?_ ?_
  · refine a_aload_n F dX9_readLine_51 rfl rfl ?_
    refine a_getR (k := 1) F cfX9 dX9_readLine_52 fl_X9_46 (by decide) fi_9_1 zl_198 zk_198 zr_198_1 ?_
    refine a_callVV F (As := []) cfX8 rfl (c_X8_skip X itk_202 S) mw_X8_skip ml_X9_86 im_X8_skip se_X8_skip M0.2.1 (Nat.le_of_ble_eq_true rfl) ⟨Nat.zero_le _, Nat.zero_le _⟩ rfl rfl (Nat.le_of_ble_eq_true rfl) zl_202 zk_202 dX9_readLine_55 rfl (fun S_1 => ?_)
    refine a_aload_n F dX9_readLine_58 rfl rfl ?_
    refine a_getR (k := 2) F cfX9 dX9_readLine_59 fl_X9_11 (by decide) fi_9_2 zl_198 zk_198 zr_198_2 ?_
    refine a_aload_n F dX9_readLine_62 rfl rfl ?_
    refine a_getI (k := 5) F cfX9 dX9_readLine_63 fl_X9_23 (by decide) fi_9_5 zl_198 zk_198 ?_
    refine a_ldc F dX9_readLine_66 con_X9_89 ?_
    refine a_gd (a_iast F dX9_readLine_68 zl_199 zk_199 ?_)
    refine a_nmS (fun S_2 => ?_)
    refine a_iload_n F dX9_readLine_69 rfl rfl ?_
    refine a_if_ne F 82 dX9_readLine_70 (by decide) ?_ ?_
    · refine a_aload_n F dX9_readLine_73 rfl rfl ?_
      refine a_callVI F (As := []) cfX9 rfl (c_X9_readRow X S_2) mw_X9_readRow ml_X9_90 im_X9_readRow se_X9_readRow M0.2.1 (Nat.le_of_ble_eq_true rfl) ⟨Nat.zero_le _, Nat.zero_le _⟩ rfl rfl (Nat.le_of_ble_eq_true rfl) zl_198 zk_198 dX9_readLine_74 rfl (fun q_3 => ?_)
      refine a_if_ne F 82 dX9_readLine_77 (by decide) ?_ ?_
      · refine a_iconst F dX9_readLine_80 ki_0 ?_
        exact a_zretK F M0.2.2.1 M0.2.2.2 dX9_readLine_81 (Or.inl rfl)
      · refine a_mask [true, false] (L' := [some (.ref 198), none]) rfl rfl ?_
        exact b_X9_readLine_82 M0 q_3.2
    · refine a_mask [true, false] (L' := [some (.ref 198), none]) rfl rfl ?_
      exact b_X9_readLine_82 M0 S_2
  · refine a_aload_n F dX9_readLine_42 rfl rfl ?_
    refine a_getR (k := 1) F cfX9 dX9_readLine_43 fl_X9_46 (by decide) fi_9_1 zl_198 zk_198 zr_198_1 ?_
    refine a_iconst F dX9_readLine_46 ki_3 ?_
    refine a_callVI F (As := [.int (3 : Int32)]) cfX8 rfl (c_X8_wrong X itk_202 (3 : Int32) S) mw_X8_wrong ml_X9_83 im_X8_wrong se_X8_wrong M0.2.1 (Nat.le_of_ble_eq_true rfl) ⟨Nat.zero_le _, Nat.zero_le _⟩ rfl rfl (Nat.le_of_ble_eq_true rfl) zl_202 zk_202 dX9_readLine_47 rfl (fun q_4 => ?_)
    exact a_gd (a_zret F M0.2.2.1 M0.2.2.2 dX9_readLine_50)
def f_X9_readLine (S : Mm) : Option (Int32 × Mm) :=
  (f_X8_isWord 202 (3 : Int32) S).bind fun q_1 =>
  if q_1.1 = 0 then (
   (f_X8_isWord 202 (0 : Int32) q_1.2).bind fun q_2 =>
   if q_2.1 = 0 then (
    (f_X8_wrong 202 (1 : Int32) q_2.2).bind fun q_3 =>
    gd (q_3.1 = 0 ∨ q_3.1 = 1) <| some (q_3.1, q_3.2)
   ) else (
    f_X9_readLine_33 q_1.1 q_2.2
   )
  ) else (
   f_X9_readLine_33 q_1.1 q_1.2
  )
set_option maxRecDepth 20000 in
theorem b_X9_readLine {X : CX} {E : FE} (M0 : MF X E RX9 cX9_readLine 2 4 (some .boolean)) (S : Mm) : At X E false (mQi X Z1 E) 0 [some (.ref 198), none] [] Z1 S 0 0 (f_X9_readLine S) := by
  have F := M0.1
  unfold f_X9_readLine
  refine a_aload_n F dX9_readLine_0 rfl rfl ?_
  refine a_getR (k := 1) F cfX9 dX9_readLine_1 fl_X9_46 (by decide) fi_9_1 zl_198 zk_198 zr_198_1 ?_
  refine a_iconst F dX9_readLine_4 ki_3 ?_
  refine a_callVI F (As := [.int (3 : Int32)]) cfX8 rfl (c_X8_isWord X itk_202 (3 : Int32) S) mw_X8_isWord ml_X9_79 im_X8_isWord se_X8_isWord M0.2.1 (Nat.le_of_ble_eq_true rfl) ⟨Nat.zero_le _, Nat.zero_le _⟩ rfl rfl (Nat.le_of_ble_eq_true rfl) zl_202 zk_202 dX9_readLine_5 rfl (fun q_1 => ?_)
  refine a_istore_n (L' := [some (.ref 198), some (.int q_1.1)]) F dX9_readLine_8 rfl (lt_b rfl) rfl ?_
  refine a_iload_n F dX9_readLine_9 rfl rfl ?_
  refine a_if_ne F 33 dX9_readLine_10 (by decide) ?_ ?_
  · refine a_aload_n F dX9_readLine_13 rfl rfl ?_
    refine a_getR (k := 1) F cfX9 dX9_readLine_14 fl_X9_46 (by decide) fi_9_1 zl_198 zk_198 zr_198_1 ?_
    refine a_iconst F dX9_readLine_17 ki_0 ?_
    refine a_callVI F (As := [.int (0 : Int32)]) cfX8 rfl (c_X8_isWord X itk_202 (0 : Int32) q_1.2) mw_X8_isWord ml_X9_79 im_X8_isWord se_X8_isWord M0.2.1 (Nat.le_of_ble_eq_true rfl) ⟨Nat.zero_le _, Nat.zero_le _⟩ rfl rfl (Nat.le_of_ble_eq_true rfl) zl_202 zk_202 dX9_readLine_18 rfl (fun q_2 => ?_)
    refine a_if_ne F 33 dX9_readLine_21 (by decide) ?_ ?_
    · refine a_aload_n F dX9_readLine_24 rfl rfl ?_
      refine a_getR (k := 1) F cfX9 dX9_readLine_25 fl_X9_46 (by decide) fi_9_1 zl_198 zk_198 zr_198_1 ?_
      refine a_iconst F dX9_readLine_28 ki_1 ?_
      refine a_callVI F (As := [.int (1 : Int32)]) cfX8 rfl (c_X8_wrong X itk_202 (1 : Int32) q_2.2) mw_X8_wrong ml_X9_83 im_X8_wrong se_X8_wrong M0.2.1 (Nat.le_of_ble_eq_true rfl) ⟨Nat.zero_le _, Nat.zero_le _⟩ rfl rfl (Nat.le_of_ble_eq_true rfl) zl_202 zk_202 dX9_readLine_29 rfl (fun q_3 => ?_)
      exact a_gd (a_zret F M0.2.2.1 M0.2.2.2 dX9_readLine_32)
    · exact b_X9_readLine_33 M0 q_1.1 q_2.2
  · exact b_X9_readLine_33 M0 q_1.1 q_1.2
theorem c_X9_readLine (X : CX) (S : Mm) : CtI X Z1 yX9_readLine cX9_readLine 2 (some .boolean) 4 [.ref 198] S (f_X9_readLine S) :=
  ctI_of (by decide +kernel) rfl (Nat.le_of_ble_eq_true rfl) (by simp [Value.category]) z1len fun E F R hra hlk => b_X9_readLine ⟨F, R, hra, hlk⟩ S
def f_X9_read_17_58 (x1 : Int32) (S : Mm) : Option (Int32 × Mm) :=
  nm ((x1 * (12 : Int32))) fun x4_1 =>
  gd (¬ (0 : Int32) < 0 ∧ ¬ x4_1 < 0 ∧ ¬ (S 198 5) < 0 ∧ ix (0 : Int32) + ix (S 198 5) ≤ 12 ∧ ix x4_1 + ix (S 198 5) ≤ 144) <|
  nm (rM S 26 (va_cpy (S 199) (S 26) (ix (0 : Int32)) (ix x4_1) (ix (S 198 5)))) fun S_2 =>
  gd (¬ (0 : Int32) < 0 ∧ ¬ x4_1 < 0 ∧ ¬ (S_2 198 5) < 0 ∧ ix (0 : Int32) + ix (S_2 198 5) ≤ 12 ∧ ix x4_1 + ix (S_2 198 5) ≤ 144) <|
  nm (rM S_2 27 (va_cpy (S_2 200) (S_2 27) (ix (0 : Int32)) (ix x4_1) (ix (S_2 198 5)))) fun S_3 =>
  gd (¬ (0 : Int32) < 0 ∧ ¬ x4_1 < 0 ∧ ¬ (S_3 198 5) < 0 ∧ ix (0 : Int32) + ix (S_3 198 5) ≤ 12 ∧ ix x4_1 + ix (S_3 198 5) ≤ 144) <|
  nm (rM S_3 28 (va_cpy (S_3 201) (S_3 28) (ix (0 : Int32)) (ix x4_1) (ix (S_3 198 5)))) fun S_4 =>
  gd (inB x1 12 = true) <|
  nm (uM S_4 25 (ix x1) (S_4 198 5)) fun S_5 =>
  some ((S_5 198 5), S_5)
set_option maxRecDepth 20000 in
theorem b_X9_read_17_58 {X : CX} {E : FE} (M0 : MF X E RX9 cX9_read 5 10 (some .int)) (x1 : Int32) (S : Mm) : At X E false (mQi X Z1 E) 58 [some (.ref 198), some (.int x1), none, some (.ref 17), none] [] Z1 S 0 0 (f_X9_read_17_58 x1 S) := by
  have F := M0.1
  unfold f_X9_read_17_58
  refine a_iload_n F dX9_read_58 rfl rfl ?_
  refine a_bipush F dX9_read_59 kb_12 ?_
  refine a_imul F dX9_read_61 ?_
  refine a_istoreN (L' := fun x4_1 => [some (.ref 198), some (.int x1), none, some (.ref 17), some (.int x4_1)]) F dX9_read_62 (lt_b rfl) (fun _ => rfl) (fun x4_1 => ?_)
  refine a_aload_n F dX9_read_64 rfl rfl ?_
  refine a_getR (k := 2) F cfX9 dX9_read_65 fl_X9_11 (by decide) fi_9_2 zl_198 zk_198 zr_198_2 ?_
  refine a_iconst F dX9_read_68 ki_0 ?_
  refine a_aload_n F dX9_read_69 rfl rfl ?_
  refine a_getR (k := 2) F cfX6 dX9_read_70 fl_X9_61 (by decide) fi_6_2 zl_17 zk_17 zr_17_2 ?_
  refine a_iload F dX9_read_73 rfl ?_
  refine a_aload_n F dX9_read_75 rfl rfl ?_
  refine a_getI (k := 5) F cfX9 dX9_read_76 fl_X9_23 (by decide) fi_9_5 zl_198 zk_198 ?_
  refine a_gd (a_copy F rfl dX9_read_79 ml_X9_64 rfl zl_199 zk_199 zl_26 zk_26 (Nat.le_of_ble_eq_true rfl) (Nat.le_of_ble_eq_true rfl) (rm_fr M0.2.1 (by omega)) (rm_lo M0.2.1 (by omega)) sysN sysS sysI ?_)
  refine a_nmS (fun S_2 => ?_)
  refine a_aload_n F dX9_read_82 rfl rfl ?_
  refine a_getR (k := 3) F cfX9 dX9_read_83 fl_X9_17 (by decide) fi_9_3 zl_198 zk_198 zr_198_3 ?_
  refine a_iconst F dX9_read_86 ki_0 ?_
  refine a_aload_n F dX9_read_87 rfl rfl ?_
  refine a_getR (k := 3) F cfX6 dX9_read_88 fl_X9_70 (by decide) fi_6_3 zl_17 zk_17 zr_17_3 ?_
  refine a_iload F dX9_read_91 rfl ?_
  refine a_aload_n F dX9_read_93 rfl rfl ?_
  refine a_getI (k := 5) F cfX9 dX9_read_94 fl_X9_23 (by decide) fi_9_5 zl_198 zk_198 ?_
  refine a_gd (a_copy F rfl dX9_read_97 ml_X9_64 rfl zl_200 zk_200 zl_27 zk_27 (Nat.le_of_ble_eq_true rfl) (Nat.le_of_ble_eq_true rfl) (rm_fr M0.2.1 (by omega)) (rm_lo M0.2.1 (by omega)) sysN sysS sysI ?_)
  refine a_nmS (fun S_3 => ?_)
  refine a_aload_n F dX9_read_100 rfl rfl ?_
  refine a_getR (k := 4) F cfX9 dX9_read_101 fl_X9_20 (by decide) fi_9_4 zl_198 zk_198 zr_198_4 ?_
  refine a_iconst F dX9_read_104 ki_0 ?_
  refine a_aload_n F dX9_read_105 rfl rfl ?_
  refine a_getR (k := 4) F cfX6 dX9_read_106 fl_X9_73 (by decide) fi_6_4 zl_17 zk_17 zr_17_4 ?_
  refine a_iload F dX9_read_109 rfl ?_
  refine a_aload_n F dX9_read_111 rfl rfl ?_
  refine a_getI (k := 5) F cfX9 dX9_read_112 fl_X9_23 (by decide) fi_9_5 zl_198 zk_198 ?_
  refine a_gd (a_copy F rfl dX9_read_115 ml_X9_64 rfl zl_201 zk_201 zl_28 zk_28 (Nat.le_of_ble_eq_true rfl) (Nat.le_of_ble_eq_true rfl) (rm_fr M0.2.1 (by omega)) (rm_lo M0.2.1 (by omega)) sysN sysS sysI ?_)
  refine a_nmS (fun S_4 => ?_)
  refine a_aload_n F dX9_read_118 rfl rfl ?_
  refine a_getR (k := 1) F cfX6 dX9_read_119 fl_X9_76 (by decide) fi_6_1 zl_17 zk_17 zr_17_1 ?_
  refine a_iload_n F dX9_read_122 rfl rfl ?_
  refine a_aload_n F dX9_read_123 rfl rfl ?_
  refine a_getI (k := 5) F cfX9 dX9_read_124 fl_X9_23 (by decide) fi_9_5 zl_198 zk_198 ?_
  refine a_gd (a_iast F dX9_read_127 zl_25 zk_25 ?_)
  refine a_nmS (fun S_5 => ?_)
  refine a_aload_n F dX9_read_128 rfl rfl ?_
  refine a_getI (k := 5) F cfX9 dX9_read_129 fl_X9_23 (by decide) fi_9_5 zl_198 zk_198 ?_
  exact a_iret F M0.2.2.1 M0.2.2.2 dX9_read_132
def f_X9_read_17_25b (k25 : Int32 → Int32 → Mm → Option (Int32 × Mm)) (x1 x4 : Int32) (S : Mm) : Option (Int32 × Mm) :=
  if (400 : Int32) ≤ x4 then (
   f_X9_read_17_58 x1 S
  ) else (
   (f_X8_kind 202 S).bind fun q_1 =>
   if q_1.1 = 0 then (
    f_X9_read_17_58 x1 q_1.2
   ) else (
    (f_X9_readLine q_1.2).bind fun q_2 =>
    if q_2.1 = 0 then (
     some ((-1 : Int32), q_2.2)
    ) else (
     nm (x4 + (1 : Int32)) fun x4_3 =>
     k25 x1 x4_3 q_2.2
    )
   )
  )
set_option maxRecDepth 20000 in
theorem b_X9_read_17_25b {X : CX} {E : FE} (M0 : MF X E RX9 cX9_read 5 10 (some .int)) {k25 : Int32 → Int32 → Mm → Option (Int32 × Mm)} (hk25 : ∀ (x1 x4 : Int32) (S : Mm), At X E false (mQi X Z1 E) 25 [some (.ref 198), some (.int x1), none, some (.ref 17), some (.int x4)] [] Z1 S 0 0 (k25 x1 x4 S)) (x1 x4 : Int32) (S : Mm) : At X E false (mQi X Z1 E) 25 [some (.ref 198), some (.int x1), none, some (.ref 17), some (.int x4)] [] Z1 S 0 0 (f_X9_read_17_25b k25 x1 x4 S) := by
  have F := M0.1
  unfold f_X9_read_17_25b
  refine a_iload F dX9_read_25 rfl ?_
  refine a_sipush F dX9_read_27 ks_400 ?_
  refine a_icmp_ge F 58 dX9_read_30 (by decide) ?_ ?_
  · refine a_mask [true, true, false, true, false] (L' := [some (.ref 198), some (.int x1), none, some (.ref 17), none]) rfl rfl ?_
    exact b_X9_read_17_58 M0 x1 S
  · refine a_aload_n F dX9_read_33 rfl rfl ?_
    refine a_getR (k := 1) F cfX9 dX9_read_34 fl_X9_46 (by decide) fi_9_1 zl_198 zk_198 zr_198_1 ?_
    refine a_callVI F (As := []) cfX8 rfl (c_X8_kind X itk_202 S) mw_X8_kind ml_X9_53 im_X8_kind se_X8_kind M0.2.1 (Nat.le_of_ble_eq_true rfl) ⟨Nat.zero_le _, Nat.zero_le _⟩ rfl rfl (Nat.le_of_ble_eq_true rfl) zl_202 zk_202 dX9_read_37 rfl (fun q_1 => ?_)
    refine a_if_eq F 58 dX9_read_40 (by decide) ?_ ?_
    · refine a_mask [true, true, false, true, false] (L' := [some (.ref 198), some (.int x1), none, some (.ref 17), none]) rfl rfl ?_
      exact b_X9_read_17_58 M0 x1 q_1.2
    · refine a_aload_n F dX9_read_43 rfl rfl ?_
      refine a_callVI F (As := []) cfX9 rfl (c_X9_readLine X q_1.2) mw_X9_readLine ml_X9_57 im_X9_readLine se_X9_readLine M0.2.1 (Nat.le_of_ble_eq_true rfl) ⟨Nat.zero_le _, Nat.zero_le _⟩ rfl rfl (Nat.le_of_ble_eq_true rfl) zl_198 zk_198 dX9_read_44 rfl (fun q_2 => ?_)
      refine a_if_ne F 52 dX9_read_47 (by decide) ?_ ?_
      · refine a_iconst F dX9_read_50 ki_m1 ?_
        exact a_iret F M0.2.2.1 M0.2.2.2 dX9_read_51
      · refine a_iincN (L' := fun x4_3 => [some (.ref 198), some (.int x1), none, some (.ref 17), some (.int x4_3)]) F dX9_read_52 rfl ki_1 (lt_b rfl) (fun _ => rfl) (fun x4_3 => ?_)
        refine a_goto F 25 dX9_read_55 (by decide) ?_
        exact hk25 x1 x4_3 q_2.2
def f_X9_read_17_25 : Nat → Int32 → Int32 → Mm → Option (Int32 × Mm) :=
  itr (fun _ _ _ => none) (fun k => f_X9_read_17_25b k)
theorem b_X9_read_17_25 {X : CX} {E : FE} (M0 : MF X E RX9 cX9_read 5 10 (some .int)) : ∀ (n : Nat) (x1 x4 : Int32) (S : Mm), At X E false (mQi X Z1 E) 25 [some (.ref 198), some (.int x1), none, some (.ref 17), some (.int x4)] [] Z1 S 0 0 (f_X9_read_17_25  n x1 x4 S) := by
  intro n
  induction n with
  | zero => intros; exact a_none
  | succ n ih => intro x1 x4 S; exact b_X9_read_17_25b M0 ih x1 x4 S
def f_X9_read_17 (p1 p2 : Int32) (S : Mm) : Option (Int32 × Mm) :=
  (f_X8_cut 202 S).bind fun S_1 =>
  nm (uM S_1 198 5 (0 : Int32)) fun S_2 =>
  nm (uM S_2 198 6 p1) fun S_3 =>
  nm (uM S_3 198 7 p2) fun S_4 =>
  f_X9_read_17_25 FU p1 (0 : Int32) S_4
set_option maxRecDepth 20000 in
theorem b_X9_read_17 {X : CX} {E : FE} (M0 : MF X E RX9 cX9_read 5 10 (some .int)) (p1 p2 : Int32) (S : Mm) : At X E false (mQi X Z1 E) 0 [some (.ref 198), some (.int p1), some (.int p2), some (.ref 17), none] [] Z1 S 0 0 (f_X9_read_17 p1 p2 S) := by
  have F := M0.1
  unfold f_X9_read_17
  refine a_aload_n F dX9_read_0 rfl rfl ?_
  refine a_getR (k := 1) F cfX9 dX9_read_1 fl_X9_46 (by decide) fi_9_1 zl_198 zk_198 zr_198_1 ?_
  refine a_callVV F (As := []) cfX8 rfl (c_X8_cut X itk_202 S) mw_X8_cut ml_X9_50 im_X8_cut se_X8_cut M0.2.1 (Nat.le_of_ble_eq_true rfl) ⟨Nat.zero_le _, Nat.zero_le _⟩ rfl rfl (Nat.le_of_ble_eq_true rfl) zl_202 zk_202 dX9_read_4 rfl (fun S_1 => ?_)
  refine a_aload_n F dX9_read_7 rfl rfl ?_
  refine a_iconst F dX9_read_8 ki_0 ?_
  refine a_putI (k := 5) F cfX9 dX9_read_9 fl_X9_23 (by decide) fi_9_5 rfl rfl zl_198 zk_198 ?_
  refine a_nmS (fun S_2 => ?_)
  refine a_aload_n F dX9_read_12 rfl rfl ?_
  refine a_iload_n F dX9_read_13 rfl rfl ?_
  refine a_putI (k := 6) F cfX9 dX9_read_14 fl_X9_27 (by decide) fi_9_6 rfl rfl zl_198 zk_198 ?_
  refine a_nmS (fun S_3 => ?_)
  refine a_aload_n F dX9_read_17 rfl rfl ?_
  refine a_iload_n F dX9_read_18 rfl rfl ?_
  refine a_putI (k := 7) F cfX9 dX9_read_19 fl_X9_30 (by decide) fi_9_7 rfl rfl zl_198 zk_198 ?_
  refine a_nmS (fun S_4 => ?_)
  refine a_iconst F dX9_read_22 ki_0 ?_
  refine a_istore (L' := [some (.ref 198), some (.int p1), some (.int p2), some (.ref 17), some (.int (0 : Int32))]) F dX9_read_23 (lt_b rfl) rfl ?_
  refine a_mask [true, true, false, true, true] (L' := [some (.ref 198), some (.int p1), none, some (.ref 17), some (.int (0 : Int32))]) rfl rfl ?_
  exact b_X9_read_17_25 M0 FU p1 (0 : Int32) S_4
theorem c_X9_read_17 (X : CX) (p1 p2 : Int32) (S : Mm) : CtI X Z1 yX9_read cX9_read 5 (some .int) 10 [.ref 198, .int p1, .int p2, .ref 17] S (f_X9_read_17 p1 p2 S) :=
  ctI_of (by decide +kernel) rfl (Nat.le_of_ble_eq_true rfl) (by simp [Value.category]) z1len fun E F R hra hlk => b_X9_read_17 ⟨F, R, hra, hlk⟩ p1 p2 S
def f_X6_addDeed_17_184_108 (k18 : Int32 → Int32 → Int32 → Mm → Option (Int32 × Mm)) (x2 x3 x4 : Int32) (S : Mm) : Option (Int32 × Mm) :=
  nm (x4 + (1 : Int32)) fun x4_1 =>
  k18 x2 x3 x4_1 S
set_option maxRecDepth 20000 in
theorem b_X6_addDeed_17_184_108 {X : CX} {E : FE} (M0 : MF X E RX6 cX6_addDeed 7 2 (some .int)) {k18 : Int32 → Int32 → Int32 → Mm → Option (Int32 × Mm)} (hk18 : ∀ (x2 x3 x4 : Int32) (S : Mm), At X E false (mQi X Z1 E) 18 [some (.ref 17), some (.ref 184), some (.int x2), some (.int x3), some (.int x4), none, none] [] Z1 S 0 0 (k18 x2 x3 x4 S)) (x2 x3 x4 : Int32) (S : Mm) : At X E false (mQi X Z1 E) 108 [some (.ref 17), some (.ref 184), some (.int x2), some (.int x3), some (.int x4), none, none] [] Z1 S 0 0 (f_X6_addDeed_17_184_108 k18 x2 x3 x4 S) := by
  have F := M0.1
  unfold f_X6_addDeed_17_184_108
  refine a_iincN (L' := fun x4_1 => [some (.ref 17), some (.ref 184), some (.int x2), some (.int x3), some (.int x4_1), none, none]) F dX6_addDeed_108 rfl ki_1 (lt_b rfl) (fun _ => rfl) (fun x4_1 => ?_)
  refine a_goto F 18 dX6_addDeed_111 (by decide) ?_
  exact hk18 x2 x3 x4_1 S
def f_X6_addDeed_17_184_18b (k18 : Int32 → Int32 → Int32 → Mm → Option (Int32 × Mm)) (x2 x3 x4 : Int32) (S : Mm) : Option (Int32 × Mm) :=
  if (S 184 1) ≤ x4 then (
   if x2 = 0 then (
    (f_X5_wrong (4 : Int32) (S 184 1) S).bind fun q_1 =>
    some (q_1.1, q_1.2)
   ) else (
    gd (inB (S 17 5) 8 = true) <|
    nm (uM S 30 (ix (S 17 5)) x2) fun S_2 =>
    gd (inB (S_2 17 5) 8 = true) <|
    nm (uM S_2 31 (ix (S_2 17 5)) x3) fun S_3 =>
    nm (uM S_3 17 5 ((S_3 17 5) + (1 : Int32))) fun S_4 =>
    some (((S_4 17 5) - (1 : Int32)), S_4)
   )
  ) else (
   gd (inB x4 400 = true) <|
   nm ((S 185 (ix x4))) fun x5_5 =>
   (f_X10_isBlank x5_5 S).bind fun q_6 =>
   if q_6.1 = 0 then (
    (f_X10_letterOf x5_5 q_6.2).bind fun q_7 =>
    if q_7.1 = (-1 : Int32) then (
     (f_X5_wrong (1 : Int32) x4 q_7.2).bind fun q_8 =>
     some (q_8.1, q_8.2)
    ) else (
     if x2 = (40 : Int32) then (
      (f_X5_wrong (3 : Int32) x4 q_7.2).bind fun q_9 =>
      some (q_9.1, q_9.2)
     ) else (
      gd (inB (((q_7.2 17 5) * (40 : Int32)) + x2) 320 = true) <|
      nm (uM q_7.2 29 (ix (((q_7.2 17 5) * (40 : Int32)) + x2)) q_7.1) fun S_10 =>
      nm ((x3 ||| (shl (1 : Int32) q_7.1))) fun x3_11 =>
      nm (x2 + (1 : Int32)) fun x2_12 =>
      f_X6_addDeed_17_184_108 k18 x2_12 x3_11 x4 S_10
     )
    )
   ) else (
    f_X6_addDeed_17_184_108 k18 x2 x3 x4 q_6.2
   )
  )
set_option maxRecDepth 20000 in
theorem b_X6_addDeed_17_184_18b {X : CX} {E : FE} (M0 : MF X E RX6 cX6_addDeed 7 2 (some .int)) {k18 : Int32 → Int32 → Int32 → Mm → Option (Int32 × Mm)} (hk18 : ∀ (x2 x3 x4 : Int32) (S : Mm), At X E false (mQi X Z1 E) 18 [some (.ref 17), some (.ref 184), some (.int x2), some (.int x3), some (.int x4), none, none] [] Z1 S 0 0 (k18 x2 x3 x4 S)) (x2 x3 x4 : Int32) (S : Mm) : At X E false (mQi X Z1 E) 18 [some (.ref 17), some (.ref 184), some (.int x2), some (.int x3), some (.int x4), none, none] [] Z1 S 0 0 (f_X6_addDeed_17_184_18b k18 x2 x3 x4 S) := by
  have F := M0.1
  unfold f_X6_addDeed_17_184_18b
  refine a_iload F dX6_addDeed_18 rfl ?_
  refine a_aload_n F dX6_addDeed_20 rfl rfl ?_
  refine a_getI (k := 1) F cfX5 dX6_addDeed_21 fl_X6_54 (by decide) fi_5_1 zl_184 zk_184 ?_
  refine a_icmp_ge F 114 dX6_addDeed_24 (by decide) ?_ ?_
  · refine a_iload_n F dX6_addDeed_114 rfl rfl ?_
    refine a_if_ne F 128 dX6_addDeed_115 (by decide) ?_ ?_
    · refine a_aload_n F dX6_addDeed_118 rfl rfl ?_
      refine a_iconst F dX6_addDeed_119 ki_4 ?_
      refine a_aload_n F dX6_addDeed_120 rfl rfl ?_
      refine a_getI (k := 1) F cfX5 dX6_addDeed_121 fl_X6_54 (by decide) fi_5_1 zl_184 zk_184 ?_
      refine a_callVI F (As := [.int (4 : Int32), .int (S 184 1)]) cfX5 rfl (c_X5_wrong X (4 : Int32) (S 184 1) S) mw_X5_wrong ml_X6_70 im_X5_wrong se_X5_wrong M0.2.1 (Nat.le_of_ble_eq_true rfl) ⟨Nat.zero_le _, Nat.zero_le _⟩ rfl rfl (Nat.le_of_ble_eq_true rfl) zl_184 zk_184 dX6_addDeed_124 rfl (fun q_1 => ?_)
      exact a_iret F M0.2.2.1 M0.2.2.2 dX6_addDeed_127
    · refine a_aload_n F dX6_addDeed_128 rfl rfl ?_
      refine a_getR (k := 7) F cfX6 dX6_addDeed_129 fl_X6_38 (by decide) fi_6_7 zl_17 zk_17 zr_17_7 ?_
      refine a_aload_n F dX6_addDeed_132 rfl rfl ?_
      refine a_getI (k := 5) F cfX6 dX6_addDeed_133 fl_X6_31 (by decide) fi_6_5 zl_17 zk_17 ?_
      refine a_iload_n F dX6_addDeed_136 rfl rfl ?_
      refine a_gd (a_iast F dX6_addDeed_137 zl_30 zk_30 ?_)
      refine a_nmS (fun S_2 => ?_)
      refine a_aload_n F dX6_addDeed_138 rfl rfl ?_
      refine a_getR (k := 8) F cfX6 dX6_addDeed_139 fl_X6_41 (by decide) fi_6_8 zl_17 zk_17 zr_17_8 ?_
      refine a_aload_n F dX6_addDeed_142 rfl rfl ?_
      refine a_getI (k := 5) F cfX6 dX6_addDeed_143 fl_X6_31 (by decide) fi_6_5 zl_17 zk_17 ?_
      refine a_iload_n F dX6_addDeed_146 rfl rfl ?_
      refine a_gd (a_iast F dX6_addDeed_147 zl_31 zk_31 ?_)
      refine a_nmS (fun S_3 => ?_)
      refine a_aload_n F dX6_addDeed_148 rfl rfl ?_
      refine a_dup F dX6_addDeed_149 rfl ?_
      refine a_getI (k := 5) F cfX6 dX6_addDeed_150 fl_X6_31 (by decide) fi_6_5 zl_17 zk_17 ?_
      refine a_iconst F dX6_addDeed_153 ki_1 ?_
      refine a_iadd F dX6_addDeed_154 ?_
      refine a_putI (k := 5) F cfX6 dX6_addDeed_155 fl_X6_31 (by decide) fi_6_5 rfl rfl zl_17 zk_17 ?_
      refine a_nmS (fun S_4 => ?_)
      refine a_aload_n F dX6_addDeed_158 rfl rfl ?_
      refine a_getI (k := 5) F cfX6 dX6_addDeed_159 fl_X6_31 (by decide) fi_6_5 zl_17 zk_17 ?_
      refine a_iconst F dX6_addDeed_162 ki_1 ?_
      refine a_isub F dX6_addDeed_163 ?_
      exact a_iret F M0.2.2.1 M0.2.2.2 dX6_addDeed_164
  · refine a_aload_n F dX6_addDeed_27 rfl rfl ?_
    refine a_getR (k := 0) F cfX5 dX6_addDeed_28 fl_X6_59 (by decide) fi_5_0 zl_184 zk_184 zr_184_0 ?_
    refine a_iload F dX6_addDeed_31 rfl ?_
    refine a_gd (a_iald F dX6_addDeed_33 zl_185 zk_185 ?_)
    refine a_istoreN (L' := fun x5_5 => [some (.ref 17), some (.ref 184), some (.int x2), some (.int x3), some (.int x4), some (.int x5_5), none]) F dX6_addDeed_34 (lt_b rfl) (fun _ => rfl) (fun x5_5 => ?_)
    refine a_iload F dX6_addDeed_36 rfl ?_
    refine a_callNI (host := RX10) F (As := [.int x5_5]) (c_X10_isBlank X x5_5 S) mw_X10_isBlank (by decide +kernel) st_X10_isBlank M0.2.1 (Nat.le_of_ble_eq_true rfl) ⟨Nat.zero_le _, Nat.zero_le _⟩ rfl rfl (Nat.le_of_ble_eq_true rfl) dX6_addDeed_38 rfl (fun q_6 => ?_)
    refine a_if_eq F 47 dX6_addDeed_41 (by decide) ?_ ?_
    · refine a_iload F dX6_addDeed_47 rfl ?_
      refine a_callNI (host := RX10) F (As := [.int x5_5]) (c_X10_letterOf X x5_5 q_6.2) mw_X10_letterOf (by decide +kernel) st_X10_letterOf M0.2.1 (Nat.le_of_ble_eq_true rfl) ⟨Nat.zero_le _, Nat.zero_le _⟩ rfl rfl (Nat.le_of_ble_eq_true rfl) dX6_addDeed_49 rfl (fun q_7 => ?_)
      refine a_istore (L' := [some (.ref 17), some (.ref 184), some (.int x2), some (.int x3), some (.int x4), some (.int x5_5), some (.int q_7.1)]) F dX6_addDeed_52 (lt_b rfl) rfl ?_
      refine a_iload F dX6_addDeed_54 rfl ?_
      refine a_iconst F dX6_addDeed_56 ki_m1 ?_
      refine a_icmp_ne F 68 dX6_addDeed_57 (by decide) ?_ ?_
      · refine a_aload_n F dX6_addDeed_60 rfl rfl ?_
        refine a_iconst F dX6_addDeed_61 ki_1 ?_
        refine a_iload F dX6_addDeed_62 rfl ?_
        refine a_callVI F (As := [.int (1 : Int32), .int x4]) cfX5 rfl (c_X5_wrong X (1 : Int32) x4 q_7.2) mw_X5_wrong ml_X6_70 im_X5_wrong se_X5_wrong M0.2.1 (Nat.le_of_ble_eq_true rfl) ⟨Nat.zero_le _, Nat.zero_le _⟩ rfl rfl (Nat.le_of_ble_eq_true rfl) zl_184 zk_184 dX6_addDeed_64 rfl (fun q_8 => ?_)
        exact a_iret F M0.2.2.1 M0.2.2.2 dX6_addDeed_67
      · refine a_iload_n F dX6_addDeed_68 rfl rfl ?_
        refine a_bipush F dX6_addDeed_69 kb_40 ?_
        refine a_icmp_ne F 82 dX6_addDeed_71 (by decide) ?_ ?_
        · refine a_aload_n F dX6_addDeed_74 rfl rfl ?_
          refine a_iconst F dX6_addDeed_75 ki_3 ?_
          refine a_iload F dX6_addDeed_76 rfl ?_
          refine a_callVI F (As := [.int (3 : Int32), .int x4]) cfX5 rfl (c_X5_wrong X (3 : Int32) x4 q_7.2) mw_X5_wrong ml_X6_70 im_X5_wrong se_X5_wrong M0.2.1 (Nat.le_of_ble_eq_true rfl) ⟨Nat.zero_le _, Nat.zero_le _⟩ rfl rfl (Nat.le_of_ble_eq_true rfl) zl_184 zk_184 dX6_addDeed_78 rfl (fun q_9 => ?_)
          exact a_iret F M0.2.2.1 M0.2.2.2 dX6_addDeed_81
        · refine a_aload_n F dX6_addDeed_82 rfl rfl ?_
          refine a_getR (k := 6) F cfX6 dX6_addDeed_83 fl_X6_35 (by decide) fi_6_6 zl_17 zk_17 zr_17_6 ?_
          refine a_aload_n F dX6_addDeed_86 rfl rfl ?_
          refine a_getI (k := 5) F cfX6 dX6_addDeed_87 fl_X6_31 (by decide) fi_6_5 zl_17 zk_17 ?_
          refine a_bipush F dX6_addDeed_90 kb_40 ?_
          refine a_imul F dX6_addDeed_92 ?_
          refine a_iload_n F dX6_addDeed_93 rfl rfl ?_
          refine a_iadd F dX6_addDeed_94 ?_
          refine a_iload F dX6_addDeed_95 rfl ?_
          refine a_gd (a_iast F dX6_addDeed_97 zl_29 zk_29 ?_)
          refine a_nmS (fun S_10 => ?_)
          refine a_iload_n F dX6_addDeed_98 rfl rfl ?_
          refine a_iconst F dX6_addDeed_99 ki_1 ?_
          refine a_iload F dX6_addDeed_100 rfl ?_
          refine a_ishl F dX6_addDeed_102 ?_
          refine a_ior F dX6_addDeed_103 ?_
          refine a_istore_nN (L' := fun x3_11 => [some (.ref 17), some (.ref 184), some (.int x2), some (.int x3_11), some (.int x4), some (.int x5_5), some (.int q_7.1)]) F dX6_addDeed_104 rfl (lt_b rfl) (fun _ => rfl) (fun x3_11 => ?_)
          refine a_iincN (L' := fun x2_12 => [some (.ref 17), some (.ref 184), some (.int x2_12), some (.int x3_11), some (.int x4), some (.int x5_5), some (.int q_7.1)]) F dX6_addDeed_105 rfl ki_1 (lt_b rfl) (fun _ => rfl) (fun x2_12 => ?_)
          refine a_mask [true, true, true, true, true, false, false] (L' := [some (.ref 17), some (.ref 184), some (.int x2_12), some (.int x3_11), some (.int x4), none, none]) rfl rfl ?_
          exact b_X6_addDeed_17_184_108 M0 hk18 x2_12 x3_11 x4 S_10
    · refine a_goto F 108 dX6_addDeed_44 (by decide) ?_
      refine a_mask [true, true, true, true, true, false, false] (L' := [some (.ref 17), some (.ref 184), some (.int x2), some (.int x3), some (.int x4), none, none]) rfl rfl ?_
      exact b_X6_addDeed_17_184_108 M0 hk18 x2 x3 x4 q_6.2
def f_X6_addDeed_17_184_18 : Nat → Int32 → Int32 → Int32 → Mm → Option (Int32 × Mm) :=
  itr (fun _ _ _ _ => none) (fun k => f_X6_addDeed_17_184_18b k)
theorem b_X6_addDeed_17_184_18 {X : CX} {E : FE} (M0 : MF X E RX6 cX6_addDeed 7 2 (some .int)) : ∀ (n : Nat) (x2 x3 x4 : Int32) (S : Mm), At X E false (mQi X Z1 E) 18 [some (.ref 17), some (.ref 184), some (.int x2), some (.int x3), some (.int x4), none, none] [] Z1 S 0 0 (f_X6_addDeed_17_184_18  n x2 x3 x4 S) := by
  intro n
  induction n with
  | zero => intros; exact a_none
  | succ n ih => intro x2 x3 x4 S; exact b_X6_addDeed_17_184_18b M0 ih x2 x3 x4 S
def f_X6_addDeed_17_184 (S : Mm) : Option (Int32 × Mm) :=
  if (S 17 5) < (8 : Int32) then (
   f_X6_addDeed_17_184_18 FU (0 : Int32) (0 : Int32) (0 : Int32) S
  ) else (
   some ((-1 : Int32), S)
  )
set_option maxRecDepth 20000 in
theorem b_X6_addDeed_17_184 {X : CX} {E : FE} (M0 : MF X E RX6 cX6_addDeed 7 2 (some .int)) (S : Mm) : At X E false (mQi X Z1 E) 0 [some (.ref 17), some (.ref 184), none, none, none, none, none] [] Z1 S 0 0 (f_X6_addDeed_17_184 S) := by
  have F := M0.1
  unfold f_X6_addDeed_17_184
  refine a_aload_n F dX6_addDeed_0 rfl rfl ?_
  refine a_getI (k := 5) F cfX6 dX6_addDeed_1 fl_X6_31 (by decide) fi_6_5 zl_17 zk_17 ?_
  refine a_bipush F dX6_addDeed_4 kb_8 ?_
  refine a_icmp_lt F 11 dX6_addDeed_6 (by decide) ?_ ?_
  · refine a_iconst F dX6_addDeed_11 ki_0 ?_
    refine a_istore_n (L' := [some (.ref 17), some (.ref 184), some (.int (0 : Int32)), none, none, none, none]) F dX6_addDeed_12 rfl (lt_b rfl) rfl ?_
    refine a_iconst F dX6_addDeed_13 ki_0 ?_
    refine a_istore_n (L' := [some (.ref 17), some (.ref 184), some (.int (0 : Int32)), some (.int (0 : Int32)), none, none, none]) F dX6_addDeed_14 rfl (lt_b rfl) rfl ?_
    refine a_iconst F dX6_addDeed_15 ki_0 ?_
    refine a_istore (L' := [some (.ref 17), some (.ref 184), some (.int (0 : Int32)), some (.int (0 : Int32)), some (.int (0 : Int32)), none, none]) F dX6_addDeed_16 (lt_b rfl) rfl ?_
    exact b_X6_addDeed_17_184_18 M0 FU (0 : Int32) (0 : Int32) (0 : Int32) S
  · refine a_iconst F dX6_addDeed_9 ki_m1 ?_
    exact a_iret F M0.2.2.1 M0.2.2.2 dX6_addDeed_10
theorem c_X6_addDeed_17_184 (X : CX) (S : Mm) : CtI X Z1 yX6_addDeed cX6_addDeed 7 (some .int) 2 [.ref 17, .ref 184] S (f_X6_addDeed_17_184 S) :=
  ctI_of (by decide +kernel) rfl (Nat.le_of_ble_eq_true rfl) (by simp [Value.category]) z1len fun E F R hra hlk => b_X6_addDeed_17_184 ⟨F, R, hra, hlk⟩ S
def f_X10_text_99 (x3 : Int32) (S : Mm) : Option (Int32 × Mm) :=
  nm (uM S 184 1 (0 : Int32)) fun S_1 =>
  some (x3, S_1)
set_option maxRecDepth 20000 in
theorem b_X10_text_99 {X : CX} {E : FE} (M0 : MF X E RX10 cX10_text 4 30 (some .int)) (x3 : Int32) (S : Mm) : At X E false (mQi X Z1 E) 99 [some (.ref 0), none, none, some (.int x3)] [] Z1 S 0 0 (f_X10_text_99 x3 S) := by
  have F := M0.1
  unfold f_X10_text_99
  refine a_aload_n F dX10_text_99 rfl rfl ?_
  refine a_getR (k := 5) F cfX10 dX10_text_100 fl_X10_49 (by decide) fi_10_5 zl_0 zk_0 zr_0_5 ?_
  refine a_iconst F dX10_text_103 ki_0 ?_
  refine a_putI (k := 1) F cfX5 dX10_text_104 fl_X10_138 (by decide) fi_5_1 rfl rfl zl_184 zk_184 ?_
  refine a_nmS (fun S_1 => ?_)
  refine a_iload_n F dX10_text_107 rfl rfl ?_
  exact a_iret F M0.2.2.1 M0.2.2.2 dX10_text_108
def f_X10_text_70 (x1 x3 : Int32) (S : Mm) : Option (Int32 × Mm) :=
  if x1 = (2 : Int32) then (
   if (8 : Int32) ≤ (S 17 5) then (
    f_X10_text_99 x3 S
   ) else (
    (f_X6_addDeed_17_184 S).bind fun q_1 =>
    f_X10_text_99 q_1.1 q_1.2
   )
  ) else (
   f_X10_text_99 x3 S
  )
set_option maxRecDepth 20000 in
theorem b_X10_text_70 {X : CX} {E : FE} (M0 : MF X E RX10 cX10_text 4 30 (some .int)) (x1 x3 : Int32) (S : Mm) : At X E false (mQi X Z1 E) 70 [some (.ref 0), some (.int x1), none, some (.int x3)] [] Z1 S 0 0 (f_X10_text_70 x1 x3 S) := by
  have F := M0.1
  unfold f_X10_text_70
  refine a_iload_n F dX10_text_70 rfl rfl ?_
  refine a_iconst F dX10_text_71 ki_2 ?_
  refine a_icmp_ne F 99 dX10_text_72 (by decide) ?_ ?_
  · refine a_aload_n F dX10_text_75 rfl rfl ?_
    refine a_getR (k := 1) F cfX10 dX10_text_76 fl_X10_19 (by decide) fi_10_1 zl_0 zk_0 zr_0_1 ?_
    refine a_getI (k := 5) F cfX6 dX10_text_79 fl_X10_158 (by decide) fi_6_5 zl_17 zk_17 ?_
    refine a_bipush F dX10_text_82 kb_8 ?_
    refine a_icmp_ge F 99 dX10_text_84 (by decide) ?_ ?_
    · refine a_mask [true, false, false, true] (L' := [some (.ref 0), none, none, some (.int x3)]) rfl rfl ?_
      exact b_X10_text_99 M0 x3 S
    · refine a_aload_n F dX10_text_87 rfl rfl ?_
      refine a_getR (k := 1) F cfX10 dX10_text_88 fl_X10_19 (by decide) fi_10_1 zl_0 zk_0 zr_0_1 ?_
      refine a_aload_n F dX10_text_91 rfl rfl ?_
      refine a_getR (k := 5) F cfX10 dX10_text_92 fl_X10_49 (by decide) fi_10_5 zl_0 zk_0 zr_0_5 ?_
      refine a_callVI F (As := [.ref 184]) cfX6 rfl (c_X6_addDeed_17_184 X S) mw_X6_addDeed ml_X10_161 im_X6_addDeed se_X6_addDeed M0.2.1 (Nat.le_of_ble_eq_true rfl) ⟨Nat.zero_le _, Nat.zero_le _⟩ rfl rfl (Nat.le_of_ble_eq_true rfl) zl_17 zk_17 dX10_text_95 rfl (fun q_1 => ?_)
      refine a_istore_n (L' := [some (.ref 0), some (.int x1), none, some (.int q_1.1)]) F dX10_text_98 rfl (lt_b rfl) rfl ?_
      refine a_mask [true, false, false, true] (L' := [some (.ref 0), none, none, some (.int q_1.1)]) rfl rfl ?_
      exact b_X10_text_99 M0 q_1.1 q_1.2
  · refine a_mask [true, false, false, true] (L' := [some (.ref 0), none, none, some (.int x3)]) rfl rfl ?_
    exact b_X10_text_99 M0 x3 S
def f_X10_text (p1 p2 : Int32) (S : Mm) : Option (Int32 × Mm) :=
  (f_X5_faultless S).bind fun S_1 =>
  if p1 = 0 then (
   (f_X4_read_18 S_1).bind fun q_2 =>
   f_X10_text_99 q_2.1 q_2.2
  ) else (
   if p1 = (1 : Int32) then (
    (f_X1_lives 1 p2 S_1).bind fun q_3 =>
    if q_3.1 = 0 then (
     f_X10_text_70 p1 (-1 : Int32) q_3.2
    ) else (
     (f_X9_read_17 p2 (q_3.2 1 3) q_3.2).bind fun q_4 =>
     f_X10_text_99 q_4.1 q_4.2
    )
   ) else (
    f_X10_text_70 p1 (-1 : Int32) S_1
   )
  )
set_option maxRecDepth 20000 in
theorem b_X10_text {X : CX} {E : FE} (M0 : MF X E RX10 cX10_text 4 30 (some .int)) (p1 p2 : Int32) (S : Mm) : At X E false (mQi X Z1 E) 0 [some (.ref 0), some (.int p1), some (.int p2), none] [] Z1 S 0 0 (f_X10_text p1 p2 S) := by
  have F := M0.1
  unfold f_X10_text
  refine a_aload_n F dX10_text_0 rfl rfl ?_
  refine a_getR (k := 5) F cfX10 dX10_text_1 fl_X10_49 (by decide) fi_10_5 zl_0 zk_0 zr_0_5 ?_
  refine a_callVV F (As := []) cfX5 rfl (c_X5_faultless X S) mw_X5_faultless ml_X10_144 im_X5_faultless se_X5_faultless M0.2.1 (Nat.le_of_ble_eq_true rfl) ⟨Nat.zero_le _, Nat.zero_le _⟩ rfl rfl (Nat.le_of_ble_eq_true rfl) zl_184 zk_184 dX10_text_4 rfl (fun S_1 => ?_)
  refine a_iconst F dX10_text_7 ki_m1 ?_
  refine a_istore_n (L' := [some (.ref 0), some (.int p1), some (.int p2), some (.int (-1 : Int32))]) F dX10_text_8 rfl (lt_b rfl) rfl ?_
  refine a_iload_n F dX10_text_9 rfl rfl ?_
  refine a_if_ne F 31 dX10_text_10 (by decide) ?_ ?_
  · refine a_aload_n F dX10_text_13 rfl rfl ?_
    refine a_getR (k := 6) F cfX10 dX10_text_14 fl_X10_58 (by decide) fi_10_6 zl_0 zk_0 zr_0_6 ?_
    refine a_aload_n F dX10_text_17 rfl rfl ?_
    refine a_getR (k := 1) F cfX10 dX10_text_18 fl_X10_19 (by decide) fi_10_1 zl_0 zk_0 zr_0_1 ?_
    refine a_getR (k := 0) F cfX6 dX10_text_21 fl_X10_147 (by decide) fi_6_0 zl_17 zk_17 zr_17_0 ?_
    refine a_callVI F (As := [.ref 18]) cfX4 rfl (c_X4_read_18 X S_1) mw_X4_read ml_X10_151 im_X4_read se_X4_read M0.2.1 (Nat.le_of_ble_eq_true rfl) ⟨Nat.zero_le _, Nat.zero_le _⟩ rfl rfl (Nat.le_of_ble_eq_true rfl) zl_186 zk_186 dX10_text_24 rfl (fun q_2 => ?_)
    refine a_istore_n (L' := [some (.ref 0), some (.int p1), some (.int p2), some (.int q_2.1)]) F dX10_text_27 rfl (lt_b rfl) rfl ?_
    refine a_goto F 99 dX10_text_28 (by decide) ?_
    refine a_mask [true, false, false, true] (L' := [some (.ref 0), none, none, some (.int q_2.1)]) rfl rfl ?_
    exact b_X10_text_99 M0 q_2.1 q_2.2
  · refine a_iload_n F dX10_text_31 rfl rfl ?_
    refine a_iconst F dX10_text_32 ki_1 ?_
    refine a_icmp_ne F 70 dX10_text_33 (by decide) ?_ ?_
    · refine a_aload_n F dX10_text_36 rfl rfl ?_
      refine a_getR (k := 0) F cfX10 dX10_text_37 fl_X10_12 (by decide) fi_10_0 zl_0 zk_0 zr_0_0 ?_
      refine a_iload_n F dX10_text_40 rfl rfl ?_
      refine a_callVI F (As := [.int p2]) cfX1 rfl (c_X1_lives X icl_1 p2 S_1) mw_X1_lives ml_X10_104 im_X1_lives se_X1_lives M0.2.1 (Nat.le_of_ble_eq_true rfl) ⟨Nat.zero_le _, Nat.zero_le _⟩ rfl rfl (Nat.le_of_ble_eq_true rfl) zl_1 zk_1 dX10_text_41 rfl (fun q_3 => ?_)
      refine a_if_eq F 70 dX10_text_44 (by decide) ?_ ?_
      · refine a_mask [true, true, false, true] (L' := [some (.ref 0), some (.int p1), none, some (.int (-1 : Int32))]) rfl rfl ?_
        exact b_X10_text_70 M0 p1 (-1 : Int32) q_3.2
      · refine a_aload_n F dX10_text_47 rfl rfl ?_
        refine a_getR (k := 7) F cfX10 dX10_text_48 fl_X10_65 (by decide) fi_10_7 zl_0 zk_0 zr_0_7 ?_
        refine a_iload_n F dX10_text_51 rfl rfl ?_
        refine a_aload_n F dX10_text_52 rfl rfl ?_
        refine a_getR (k := 0) F cfX10 dX10_text_53 fl_X10_12 (by decide) fi_10_0 zl_0 zk_0 zr_0_0 ?_
        refine a_getI (k := 3) F cfX1 dX10_text_56 fl_X10_89 (by decide) fi_1_3 zl_1 zk_1 ?_
        refine a_aload_n F dX10_text_59 rfl rfl ?_
        refine a_getR (k := 1) F cfX10 dX10_text_60 fl_X10_19 (by decide) fi_10_1 zl_0 zk_0 zr_0_1 ?_
        refine a_callVI F (As := [.int p2, .int (q_3.2 1 3), .ref 17]) cfX9 rfl (c_X9_read_17 X p2 (q_3.2 1 3) q_3.2) mw_X9_read ml_X10_155 im_X9_read se_X9_read M0.2.1 (Nat.le_of_ble_eq_true rfl) ⟨Nat.zero_le _, Nat.zero_le _⟩ rfl rfl (Nat.le_of_ble_eq_true rfl) zl_198 zk_198 dX10_text_63 rfl (fun q_4 => ?_)
        refine a_istore_n (L' := [some (.ref 0), some (.int p1), some (.int p2), some (.int q_4.1)]) F dX10_text_66 rfl (lt_b rfl) rfl ?_
        refine a_goto F 99 dX10_text_67 (by decide) ?_
        refine a_mask [true, false, false, true] (L' := [some (.ref 0), none, none, some (.int q_4.1)]) rfl rfl ?_
        exact b_X10_text_99 M0 q_4.1 q_4.2
    · refine a_mask [true, true, false, true] (L' := [some (.ref 0), some (.int p1), none, some (.int (-1 : Int32))]) rfl rfl ?_
      exact b_X10_text_70 M0 p1 (-1 : Int32) S_1
theorem c_X10_text (X : CX) (p1 p2 : Int32) (S : Mm) : CtI X Z1 yX10_text cX10_text 4 (some .int) 30 [.ref 0, .int p1, .int p2] S (f_X10_text p1 p2 S) :=
  ctI_of (by decide +kernel) rfl (Nat.le_of_ble_eq_true rfl) (by simp [Value.category]) z1len fun E F R hra hlk => b_X10_text ⟨F, R, hra, hlk⟩ p1 p2 S
def f_X0_changeOf_32_41 (k5 : Int32 → Int32 → Int32 → Int32 → Mm → Option (Int32 × Mm)) (x1 x2 x3 x4 : Int32) (S : Mm) : Option (Int32 × Mm) :=
  nm (x4 + (1 : Int32)) fun x4_1 =>
  k5 x1 x2 x3 x4_1 S
set_option maxRecDepth 20000 in
theorem b_X0_changeOf_32_41 {X : CX} {E : FE} (M0 : MF X E RX0 cX0_changeOf 5 1 (some .int)) {k5 : Int32 → Int32 → Int32 → Int32 → Mm → Option (Int32 × Mm)} (hk5 : ∀ (x1 x2 x3 x4 : Int32) (S : Mm), At X E false (mQi X Z1 E) 5 [some (.ref 32), some (.int x1), some (.int x2), some (.int x3), some (.int x4)] [] Z1 S 0 0 (k5 x1 x2 x3 x4 S)) (x1 x2 x3 x4 : Int32) (S : Mm) : At X E false (mQi X Z1 E) 41 [some (.ref 32), some (.int x1), some (.int x2), some (.int x3), some (.int x4)] [] Z1 S 0 0 (f_X0_changeOf_32_41 k5 x1 x2 x3 x4 S) := by
  have F := M0.1
  unfold f_X0_changeOf_32_41
  refine a_iincN (L' := fun x4_1 => [some (.ref 32), some (.int x1), some (.int x2), some (.int x3), some (.int x4_1)]) F dX0_changeOf_41 rfl ki_1 (lt_b rfl) (fun _ => rfl) (fun x4_1 => ?_)
  refine a_goto F 5 dX0_changeOf_44 (by decide) ?_
  exact hk5 x1 x2 x3 x4_1 S
def f_X0_changeOf_32_5b (k5 : Int32 → Int32 → Int32 → Int32 → Mm → Option (Int32 × Mm)) (x1 x2 x3 x4 : Int32) (S : Mm) : Option (Int32 × Mm) :=
  if (S 32 1) ≤ x4 then (
   some ((-1 : Int32), S)
  ) else (
   gd (inB (x4 * (5 : Int32)) 1000 = true) <|
   if (S 33 (ix (x4 * (5 : Int32)))) = x1 then (
    if x3 = x2 then (
     some (x4, S)
    ) else (
     nm (x3 + (1 : Int32)) fun x3_1 =>
     f_X0_changeOf_32_41 k5 x1 x2 x3_1 x4 S
    )
   ) else (
    f_X0_changeOf_32_41 k5 x1 x2 x3 x4 S
   )
  )
set_option maxRecDepth 20000 in
theorem b_X0_changeOf_32_5b {X : CX} {E : FE} (M0 : MF X E RX0 cX0_changeOf 5 1 (some .int)) {k5 : Int32 → Int32 → Int32 → Int32 → Mm → Option (Int32 × Mm)} (hk5 : ∀ (x1 x2 x3 x4 : Int32) (S : Mm), At X E false (mQi X Z1 E) 5 [some (.ref 32), some (.int x1), some (.int x2), some (.int x3), some (.int x4)] [] Z1 S 0 0 (k5 x1 x2 x3 x4 S)) (x1 x2 x3 x4 : Int32) (S : Mm) : At X E false (mQi X Z1 E) 5 [some (.ref 32), some (.int x1), some (.int x2), some (.int x3), some (.int x4)] [] Z1 S 0 0 (f_X0_changeOf_32_5b k5 x1 x2 x3 x4 S) := by
  have F := M0.1
  unfold f_X0_changeOf_32_5b
  refine a_iload F dX0_changeOf_5 rfl ?_
  refine a_aload_n F dX0_changeOf_7 rfl rfl ?_
  refine a_getI (k := 1) F cfX0 dX0_changeOf_8 fl_X0_15 (by decide) fi_0_1 zl_32 zk_32 ?_
  refine a_icmp_ge F 47 dX0_changeOf_11 (by decide) ?_ ?_
  · refine a_iconst F dX0_changeOf_47 ki_m1 ?_
    exact a_iret F M0.2.2.1 M0.2.2.2 dX0_changeOf_48
  · refine a_aload_n F dX0_changeOf_14 rfl rfl ?_
    refine a_getR (k := 0) F cfX0 dX0_changeOf_15 fl_X0_11 (by decide) fi_0_0 zl_32 zk_32 zr_32_0 ?_
    refine a_iload F dX0_changeOf_18 rfl ?_
    refine a_iconst F dX0_changeOf_20 ki_5 ?_
    refine a_imul F dX0_changeOf_21 ?_
    refine a_gd (a_iald F dX0_changeOf_22 zl_33 zk_33 ?_)
    refine a_iload_n F dX0_changeOf_23 rfl rfl ?_
    refine a_icmp_eq F 30 dX0_changeOf_24 (by decide) ?_ ?_
    · refine a_iload_n F dX0_changeOf_30 rfl rfl ?_
      refine a_iload_n F dX0_changeOf_31 rfl rfl ?_
      refine a_icmp_ne F 38 dX0_changeOf_32 (by decide) ?_ ?_
      · refine a_iload F dX0_changeOf_35 rfl ?_
        exact a_iret F M0.2.2.1 M0.2.2.2 dX0_changeOf_37
      · refine a_iincN (L' := fun x3_1 => [some (.ref 32), some (.int x1), some (.int x2), some (.int x3_1), some (.int x4)]) F dX0_changeOf_38 rfl ki_1 (lt_b rfl) (fun _ => rfl) (fun x3_1 => ?_)
        exact b_X0_changeOf_32_41 M0 hk5 x1 x2 x3_1 x4 S
    · refine a_goto F 41 dX0_changeOf_27 (by decide) ?_
      exact b_X0_changeOf_32_41 M0 hk5 x1 x2 x3 x4 S
def f_X0_changeOf_32_5 : Nat → Int32 → Int32 → Int32 → Int32 → Mm → Option (Int32 × Mm) :=
  itr (fun _ _ _ _ _ => none) (fun k => f_X0_changeOf_32_5b k)
theorem b_X0_changeOf_32_5 {X : CX} {E : FE} (M0 : MF X E RX0 cX0_changeOf 5 1 (some .int)) : ∀ (n : Nat) (x1 x2 x3 x4 : Int32) (S : Mm), At X E false (mQi X Z1 E) 5 [some (.ref 32), some (.int x1), some (.int x2), some (.int x3), some (.int x4)] [] Z1 S 0 0 (f_X0_changeOf_32_5  n x1 x2 x3 x4 S) := by
  intro n
  induction n with
  | zero => intros; exact a_none
  | succ n ih => intro x1 x2 x3 x4 S; exact b_X0_changeOf_32_5b M0 ih x1 x2 x3 x4 S
def f_X0_changeOf_32 (p1 p2 : Int32) (S : Mm) : Option (Int32 × Mm) :=
  f_X0_changeOf_32_5 FU p1 p2 (0 : Int32) (0 : Int32) S
set_option maxRecDepth 20000 in
theorem b_X0_changeOf_32 {X : CX} {E : FE} (M0 : MF X E RX0 cX0_changeOf 5 1 (some .int)) (p1 p2 : Int32) (S : Mm) : At X E false (mQi X Z1 E) 0 [some (.ref 32), some (.int p1), some (.int p2), none, none] [] Z1 S 0 0 (f_X0_changeOf_32 p1 p2 S) := by
  have F := M0.1
  unfold f_X0_changeOf_32
  refine a_iconst F dX0_changeOf_0 ki_0 ?_
  refine a_istore_n (L' := [some (.ref 32), some (.int p1), some (.int p2), some (.int (0 : Int32)), none]) F dX0_changeOf_1 rfl (lt_b rfl) rfl ?_
  refine a_iconst F dX0_changeOf_2 ki_0 ?_
  refine a_istore (L' := [some (.ref 32), some (.int p1), some (.int p2), some (.int (0 : Int32)), some (.int (0 : Int32))]) F dX0_changeOf_3 (lt_b rfl) rfl ?_
  exact b_X0_changeOf_32_5 M0 FU p1 p2 (0 : Int32) (0 : Int32) S
theorem c_X0_changeOf_32 (X : CX) (p1 p2 : Int32) (S : Mm) : CtI X Z1 yX0_changeOf cX0_changeOf 5 (some .int) 1 [.ref 32, .int p1, .int p2] S (f_X0_changeOf_32 p1 p2 S) :=
  ctI_of (by decide +kernel) rfl (Nat.le_of_ble_eq_true rfl) (by simp [Value.category]) z1len fun E F R hra hlk => b_X0_changeOf_32 ⟨F, R, hra, hlk⟩ p1 p2 S
def f_X10_trace (p1 p2 : Int32) (S : Mm) : Option (Int32 × Mm) :=
  (f_X10_isLetter p1 S).bind fun q_1 =>
  if q_1.1 = 0 then (
   some ((-1 : Int32), q_1.2)
  ) else (
   if 0 ≤ p2 then (
    (f_X0_changeOf_32 p1 p2 q_1.2).bind fun q_2 =>
    some (q_2.1, q_2.2)
   ) else (
    some ((-1 : Int32), q_1.2)
   )
  )
set_option maxRecDepth 20000 in
theorem b_X10_trace {X : CX} {E : FE} (M0 : MF X E RX10 cX10_trace 3 2 (some .int)) (p1 p2 : Int32) (S : Mm) : At X E false (mQi X Z1 E) 0 [some (.ref 0), some (.int p1), some (.int p2)] [] Z1 S 0 0 (f_X10_trace p1 p2 S) := by
  have F := M0.1
  unfold f_X10_trace
  refine a_iload_n F dX10_trace_0 rfl rfl ?_
  refine a_callSI F (As := [.int p1]) (c_X10_isLetter X p1 S) mw_X10_isLetter ml_X10_127 st_X10_isLetter M0.2.1 (Nat.le_of_ble_eq_true rfl) ⟨Nat.zero_le _, Nat.zero_le _⟩ rfl rfl (Nat.le_of_ble_eq_true rfl) dX10_trace_1 rfl (fun q_1 => ?_)
  refine a_if_eq F 11 dX10_trace_4 (by decide) ?_ ?_
  · refine a_iconst F dX10_trace_11 ki_m1 ?_
    exact a_iret F M0.2.2.1 M0.2.2.2 dX10_trace_12
  · refine a_iload_n F dX10_trace_7 rfl rfl ?_
    refine a_if_ge F 13 dX10_trace_8 (by decide) ?_ ?_
    · refine a_aload_n F dX10_trace_13 rfl rfl ?_
      refine a_getR (k := 2) F cfX10 dX10_trace_14 fl_X10_26 (by decide) fi_10_2 zl_0 zk_0 zr_0_2 ?_
      refine a_iload_n F dX10_trace_17 rfl rfl ?_
      refine a_iload_n F dX10_trace_18 rfl rfl ?_
      refine a_callVI F (As := [.int p1, .int p2]) cfX0 rfl (c_X0_changeOf_32 X p1 p2 q_1.2) mw_X0_changeOf ml_X10_279 im_X0_changeOf se_X0_changeOf M0.2.1 (Nat.le_of_ble_eq_true rfl) ⟨Nat.zero_le _, Nat.zero_le _⟩ rfl rfl (Nat.le_of_ble_eq_true rfl) zl_32 zk_32 dX10_trace_19 rfl (fun q_2 => ?_)
      exact a_iret F M0.2.2.1 M0.2.2.2 dX10_trace_22
    · refine a_iconst F dX10_trace_11 ki_m1 ?_
      exact a_iret F M0.2.2.1 M0.2.2.2 dX10_trace_12
theorem c_X10_trace (X : CX) (p1 p2 : Int32) (S : Mm) : CtI X Z1 yX10_trace cX10_trace 3 (some .int) 2 [.ref 0, .int p1, .int p2] S (f_X10_trace p1 p2 S) :=
  ctI_of (by decide +kernel) rfl (Nat.le_of_ble_eq_true rfl) (by simp [Value.category]) z1len fun E F R hra hlk => b_X10_trace ⟨F, R, hra, hlk⟩ p1 p2 S
def f_X2_goBack_32 (r1 : Nat) (S : Mm) : Option (Int32 × Mm) :=
  if (S 34 3) = 0 then (
   some ((0 : Int32), S)
  ) else (
   nm (uM S 34 3 ((S 34 3) - (1 : Int32))) fun S_1 =>
   nm (uM S_1 34 2 (irem (((S_1 34 2) + (8 : Int32)) - (1 : Int32)) (8 : Int32))) fun S_2 =>
   gd (inB (S_2 34 2) 8 = true) <|
   (f_X1_become r1 (37 + 16 * ix (S_2 34 2)) S_2).bind fun S_3 =>
   gd (inB (S_3 34 2) 8 = true) <|
   nm (uM S_3 32 1 (S_3 36 (ix (S_3 34 2)))) fun S_4 =>
   some ((1 : Int32), S_4)
  )
set_option maxRecDepth 20000 in
theorem b_X2_goBack_32 {X : CX} {E : FE} (M0 : MF X E RX2 cX2_goBack 3 2 (some .boolean)) {r1 : Nat} (h1 : isClan r1) (S : Mm) : At X E false (mQi X Z1 E) 0 [some (.ref 34), some (.ref r1), some (.ref 32)] [] Z1 S 0 0 (f_X2_goBack_32 r1 S) := by
  have F := M0.1
  unfold f_X2_goBack_32
  refine a_aload_n F dX2_goBack_0 rfl rfl ?_
  refine a_getI (k := 3) F cfX2 dX2_goBack_1 fl_X2_23 (by decide) fi_2_3 zl_34 zk_34 ?_
  refine a_if_ne F 9 dX2_goBack_4 (by decide) ?_ ?_
  · refine a_iconst F dX2_goBack_7 ki_0 ?_
    exact a_zretK F M0.2.2.1 M0.2.2.2 dX2_goBack_8 (Or.inl rfl)
  · refine a_aload_n F dX2_goBack_9 rfl rfl ?_
    refine a_dup F dX2_goBack_10 rfl ?_
    refine a_getI (k := 3) F cfX2 dX2_goBack_11 fl_X2_23 (by decide) fi_2_3 zl_34 zk_34 ?_
    refine a_iconst F dX2_goBack_14 ki_1 ?_
    refine a_isub F dX2_goBack_15 ?_
    refine a_putI (k := 3) F cfX2 dX2_goBack_16 fl_X2_23 (by decide) fi_2_3 rfl rfl zl_34 zk_34 ?_
    refine a_nmS (fun S_1 => ?_)
    refine a_aload_n F dX2_goBack_19 rfl rfl ?_
    refine a_aload_n F dX2_goBack_20 rfl rfl ?_
    refine a_getI (k := 2) F cfX2 dX2_goBack_21 fl_X2_19 (by decide) fi_2_2 zl_34 zk_34 ?_
    refine a_bipush F dX2_goBack_24 kb_8 ?_
    refine a_iadd F dX2_goBack_26 ?_
    refine a_iconst F dX2_goBack_27 ki_1 ?_
    refine a_isub F dX2_goBack_28 ?_
    refine a_bipush F dX2_goBack_29 kb_8 ?_
    refine a_ifF (o2 := none) nz_8 (a_irem F dX2_goBack_31 ?_)
    refine a_putI (k := 2) F cfX2 dX2_goBack_32 fl_X2_19 (by decide) fi_2_2 rfl rfl zl_34 zk_34 ?_
    refine a_nmS (fun S_2 => ?_)
    refine a_aload_n F dX2_goBack_35 rfl rfl ?_
    refine a_aload_n F dX2_goBack_36 rfl rfl ?_
    refine a_getR (k := 0) F cfX2 dX2_goBack_37 fl_X2_11 (by decide) fi_2_0 zl_34 zk_34 zr_34_0 ?_
    refine a_aload_n F dX2_goBack_40 rfl rfl ?_
    refine a_getI (k := 2) F cfX2 dX2_goBack_41 fl_X2_19 (by decide) fi_2_2 zl_34 zk_34 ?_
    refine a_gd (a_aald F (fun k => 37 + 16 * k) dX2_goBack_44 zl_35 zk_35 zr_hist (fun hHC0 => ?_))
    have hHC := hist_clan hHC0
    refine a_callVV F (As := [.ref (37 + 16 * ix (S_2 34 2))]) cfX1 rfl (c_X1_become X h1 hHC S_2) mw_X1_become ml_X2_27 im_X1_become se_X1_become M0.2.1 (Nat.le_of_ble_eq_true rfl) ⟨Nat.zero_le _, Nat.zero_le _⟩ rfl rfl (Nat.le_of_ble_eq_true rfl) (zcl_0 h1) (zck_0 h1) dX2_goBack_45 rfl (fun S_3 => ?_)
    refine a_aload_n F dX2_goBack_48 rfl rfl ?_
    refine a_aload_n F dX2_goBack_49 rfl rfl ?_
    refine a_getR (k := 1) F cfX2 dX2_goBack_50 fl_X2_15 (by decide) fi_2_1 zl_34 zk_34 zr_34_1 ?_
    refine a_aload_n F dX2_goBack_53 rfl rfl ?_
    refine a_getI (k := 2) F cfX2 dX2_goBack_54 fl_X2_19 (by decide) fi_2_2 zl_34 zk_34 ?_
    refine a_gd (a_iald F dX2_goBack_57 zl_36 zk_36 ?_)
    refine a_putI (k := 1) F cfX0 dX2_goBack_58 fl_X2_31 (by decide) fi_0_1 rfl rfl zl_32 zk_32 ?_
    refine a_nmS (fun S_4 => ?_)
    refine a_iconst F dX2_goBack_61 ki_1 ?_
    exact a_zretK F M0.2.2.1 M0.2.2.2 dX2_goBack_62 (Or.inr rfl)
theorem c_X2_goBack_32 (X : CX) {r1 : Nat} (h1 : isClan r1) (S : Mm) : CtI X Z1 yX2_goBack cX2_goBack 3 (some .boolean) 2 [.ref 34, .ref r1, .ref 32] S (f_X2_goBack_32 r1 S) :=
  ctI_of (by decide +kernel) rfl (Nat.le_of_ble_eq_true rfl) (by simp [Value.category]) z1len fun E F R hra hlk => b_X2_goBack_32 ⟨F, R, hra, hlk⟩ h1 S
def f_X10_undo (S : Mm) : Option (Int32 × Mm) :=
  (f_X2_goBack_32 1 S).bind fun q_1 =>
  gd (q_1.1 = 0 ∨ q_1.1 = 1) <| some (q_1.1, q_1.2)
set_option maxRecDepth 20000 in
theorem b_X10_undo {X : CX} {E : FE} (M0 : MF X E RX10 cX10_undo 1 3 (some .boolean)) (S : Mm) : At X E false (mQi X Z1 E) 0 [some (.ref 0)] [] Z1 S 0 0 (f_X10_undo S) := by
  have F := M0.1
  unfold f_X10_undo
  refine a_aload_n F dX10_undo_0 rfl rfl ?_
  refine a_getR (k := 3) F cfX10 dX10_undo_1 fl_X10_33 (by decide) fi_10_3 zl_0 zk_0 zr_0_3 ?_
  refine a_aload_n F dX10_undo_4 rfl rfl ?_
  refine a_getR (k := 0) F cfX10 dX10_undo_5 fl_X10_12 (by decide) fi_10_0 zl_0 zk_0 zr_0_0 ?_
  refine a_aload_n F dX10_undo_8 rfl rfl ?_
  refine a_getR (k := 2) F cfX10 dX10_undo_9 fl_X10_26 (by decide) fi_10_2 zl_0 zk_0 zr_0_2 ?_
  refine a_callVI F (As := [.ref 1, .ref 32]) cfX2 rfl (c_X2_goBack_32 X icl_1 S) mw_X2_goBack ml_X10_318 im_X2_goBack se_X2_goBack M0.2.1 (Nat.le_of_ble_eq_true rfl) ⟨Nat.zero_le _, Nat.zero_le _⟩ rfl rfl (Nat.le_of_ble_eq_true rfl) zl_34 zk_34 dX10_undo_12 rfl (fun q_1 => ?_)
  exact a_gd (a_zret F M0.2.2.1 M0.2.2.2 dX10_undo_15)
theorem c_X10_undo (X : CX) (S : Mm) : CtI X Z1 yX10_undo cX10_undo 1 (some .boolean) 3 [.ref 0] S (f_X10_undo S) :=
  ctI_of (by decide +kernel) rfl (Nat.le_of_ble_eq_true rfl) (by simp [Value.category]) z1len fun E F R hra hlk => b_X10_undo ⟨F, R, hra, hlk⟩ S
def f_X1_mayWed_95 (r0 : Nat) (S : Mm) : Option (Int32 × Mm) :=
  some ((0 : Int32), S)
set_option maxRecDepth 20000 in
theorem b_X1_mayWed_95 {X : CX} {E : FE} (M0 : MF X E RX1 cX1_mayWed 3 3 (some .boolean)) {r0 : Nat} (h0 : isClan r0) (S : Mm) : At X E false (mQi X Z1 E) 95 [none, none, none] [] Z1 S 0 0 (f_X1_mayWed_95 r0 S) := by
  have F := M0.1
  unfold f_X1_mayWed_95
  refine a_iconst F dX1_mayWed_95 ki_0 ?_
  exact a_zretK F M0.2.2.1 M0.2.2.2 dX1_mayWed_96 (Or.inl rfl)
def f_X1_mayWed (r0 : Nat) (p1 p2 : Int32) (S : Mm) : Option (Int32 × Mm) :=
  if p1 = p2 then (
   some ((0 : Int32), S)
  ) else (
   (f_X1_lives r0 p1 S).bind fun q_1 =>
   if q_1.1 = 0 then (
    some ((0 : Int32), q_1.2)
   ) else (
    (f_X1_lives r0 p2 q_1.2).bind fun q_2 =>
    if q_2.1 = 0 then (
     some ((0 : Int32), q_2.2)
    ) else (
     gd (inB p1 12 = true) <|
     if (q_2.2 (r0 + 8) (ix p1)) = (-1 : Int32) then (
      gd (inB p2 12 = true) <|
      if (q_2.2 (r0 + 8) (ix p2)) = (-1 : Int32) then (
       (f_X1_isParent r0 p1 p2 q_2.2).bind fun q_3 =>
       if q_3.1 = 0 then (
        (f_X1_isParent r0 p2 p1 q_3.2).bind fun q_4 =>
        if q_4.1 = 0 then (
         gd (inB p1 12 = true) <|
         (f_X1_isParent r0 (q_4.2 (r0 + 1) (ix p1)) p2 q_4.2).bind fun q_5 =>
         if q_5.1 = 0 then (
          gd (inB p1 12 = true) <|
          (f_X1_isParent r0 (q_5.2 (r0 + 2) (ix p1)) p2 q_5.2).bind fun q_6 =>
          if q_6.1 = 0 then (
           some ((1 : Int32), q_6.2)
          ) else (
           f_X1_mayWed_95 r0 q_6.2
          )
         ) else (
          f_X1_mayWed_95 r0 q_5.2
         )
        ) else (
         f_X1_mayWed_95 r0 q_4.2
        )
       ) else (
        f_X1_mayWed_95 r0 q_3.2
       )
      ) else (
       some ((0 : Int32), q_2.2)
      )
     ) else (
      some ((0 : Int32), q_2.2)
     )
    )
   )
  )
set_option maxRecDepth 20000 in
theorem b_X1_mayWed {X : CX} {E : FE} (M0 : MF X E RX1 cX1_mayWed 3 3 (some .boolean)) {r0 : Nat} (h0 : isClan r0) (p1 p2 : Int32) (S : Mm) : At X E false (mQi X Z1 E) 0 [some (.ref r0), some (.int p1), some (.int p2)] [] Z1 S 0 0 (f_X1_mayWed r0 p1 p2 S) := by
  have F := M0.1
  unfold f_X1_mayWed
  refine a_iload_n F dX1_mayWed_0 rfl rfl ?_
  refine a_iload_n F dX1_mayWed_1 rfl rfl ?_
  refine a_icmp_eq F 21 dX1_mayWed_2 (by decide) ?_ ?_
  · refine a_iconst F dX1_mayWed_21 ki_0 ?_
    exact a_zretK F M0.2.2.1 M0.2.2.2 dX1_mayWed_22 (Or.inl rfl)
  · refine a_aload_n F dX1_mayWed_5 rfl rfl ?_
    refine a_iload_n F dX1_mayWed_6 rfl rfl ?_
    refine a_callVI F (As := [.int p1]) cfX1 rfl (c_X1_lives X h0 p1 S) mw_X1_lives ml_X1_87 im_X1_lives se_X1_lives M0.2.1 (Nat.le_of_ble_eq_true rfl) ⟨Nat.zero_le _, Nat.zero_le _⟩ rfl rfl (Nat.le_of_ble_eq_true rfl) (zcl_0 h0) (zck_0 h0) dX1_mayWed_7 rfl (fun q_1 => ?_)
    refine a_if_eq F 21 dX1_mayWed_10 (by decide) ?_ ?_
    · refine a_iconst F dX1_mayWed_21 ki_0 ?_
      exact a_zretK F M0.2.2.1 M0.2.2.2 dX1_mayWed_22 (Or.inl rfl)
    · refine a_aload_n F dX1_mayWed_13 rfl rfl ?_
      refine a_iload_n F dX1_mayWed_14 rfl rfl ?_
      refine a_callVI F (As := [.int p2]) cfX1 rfl (c_X1_lives X h0 p2 q_1.2) mw_X1_lives ml_X1_87 im_X1_lives se_X1_lives M0.2.1 (Nat.le_of_ble_eq_true rfl) ⟨Nat.zero_le _, Nat.zero_le _⟩ rfl rfl (Nat.le_of_ble_eq_true rfl) (zcl_0 h0) (zck_0 h0) dX1_mayWed_15 rfl (fun q_2 => ?_)
      refine a_if_ne F 23 dX1_mayWed_18 (by decide) ?_ ?_
      · refine a_iconst F dX1_mayWed_21 ki_0 ?_
        exact a_zretK F M0.2.2.1 M0.2.2.2 dX1_mayWed_22 (Or.inl rfl)
      · refine a_aload_n F dX1_mayWed_23 rfl rfl ?_
        refine a_getR (k := 12) F cfX1 dX1_mayWed_24 fl_X1_49 (by decide) fi_1_12 (zcl_0 h0) (zck_0 h0) (zcr_12 h0) ?_
        refine a_iload_n F dX1_mayWed_27 rfl rfl ?_
        refine a_gd (a_iald F dX1_mayWed_28 (zcl_8 h0) (zck_8 h0) ?_)
        refine a_iconst F dX1_mayWed_29 ki_m1 ?_
        refine a_icmp_ne F 43 dX1_mayWed_30 (by decide) ?_ ?_
        · refine a_aload_n F dX1_mayWed_33 rfl rfl ?_
          refine a_getR (k := 12) F cfX1 dX1_mayWed_34 fl_X1_49 (by decide) fi_1_12 (zcl_0 h0) (zck_0 h0) (zcr_12 h0) ?_
          refine a_iload_n F dX1_mayWed_37 rfl rfl ?_
          refine a_gd (a_iald F dX1_mayWed_38 (zcl_8 h0) (zck_8 h0) ?_)
          refine a_iconst F dX1_mayWed_39 ki_m1 ?_
          refine a_icmp_eq F 45 dX1_mayWed_40 (by decide) ?_ ?_
          · refine a_aload_n F dX1_mayWed_45 rfl rfl ?_
            refine a_iload_n F dX1_mayWed_46 rfl rfl ?_
            refine a_iload_n F dX1_mayWed_47 rfl rfl ?_
            refine a_callVI F (As := [.int p1, .int p2]) cfX1 rfl (c_X1_isParent X h0 p1 p2 q_2.2) mw_X1_isParent ml_X1_90 im_X1_isParent se_X1_isParent M0.2.1 (Nat.le_of_ble_eq_true rfl) ⟨Nat.zero_le _, Nat.zero_le _⟩ rfl rfl (Nat.le_of_ble_eq_true rfl) (zcl_0 h0) (zck_0 h0) dX1_mayWed_48 rfl (fun q_3 => ?_)
            refine a_if_ne F 95 dX1_mayWed_51 (by decide) ?_ ?_
            · refine a_aload_n F dX1_mayWed_54 rfl rfl ?_
              refine a_iload_n F dX1_mayWed_55 rfl rfl ?_
              refine a_iload_n F dX1_mayWed_56 rfl rfl ?_
              refine a_callVI F (As := [.int p2, .int p1]) cfX1 rfl (c_X1_isParent X h0 p2 p1 q_3.2) mw_X1_isParent ml_X1_90 im_X1_isParent se_X1_isParent M0.2.1 (Nat.le_of_ble_eq_true rfl) ⟨Nat.zero_le _, Nat.zero_le _⟩ rfl rfl (Nat.le_of_ble_eq_true rfl) (zcl_0 h0) (zck_0 h0) dX1_mayWed_57 rfl (fun q_4 => ?_)
              refine a_if_ne F 95 dX1_mayWed_60 (by decide) ?_ ?_
              · refine a_aload_n F dX1_mayWed_63 rfl rfl ?_
                refine a_aload_n F dX1_mayWed_64 rfl rfl ?_
                refine a_getR (k := 5) F cfX1 dX1_mayWed_65 fl_X1_27 (by decide) fi_1_5 (zcl_0 h0) (zck_0 h0) (zcr_5 h0) ?_
                refine a_iload_n F dX1_mayWed_68 rfl rfl ?_
                refine a_gd (a_iald F dX1_mayWed_69 (zcl_1 h0) (zck_1 h0) ?_)
                refine a_iload_n F dX1_mayWed_70 rfl rfl ?_
                refine a_callVI F (As := [.int (q_4.2 (r0 + 1) (ix p1)), .int p2]) cfX1 rfl (c_X1_isParent X h0 (q_4.2 (r0 + 1) (ix p1)) p2 q_4.2) mw_X1_isParent ml_X1_90 im_X1_isParent se_X1_isParent M0.2.1 (Nat.le_of_ble_eq_true rfl) ⟨Nat.zero_le _, Nat.zero_le _⟩ rfl rfl (Nat.le_of_ble_eq_true rfl) (zcl_0 h0) (zck_0 h0) dX1_mayWed_71 rfl (fun q_5 => ?_)
                refine a_if_ne F 95 dX1_mayWed_74 (by decide) ?_ ?_
                · refine a_aload_n F dX1_mayWed_77 rfl rfl ?_
                  refine a_aload_n F dX1_mayWed_78 rfl rfl ?_
                  refine a_getR (k := 6) F cfX1 dX1_mayWed_79 fl_X1_31 (by decide) fi_1_6 (zcl_0 h0) (zck_0 h0) (zcr_6 h0) ?_
                  refine a_iload_n F dX1_mayWed_82 rfl rfl ?_
                  refine a_gd (a_iald F dX1_mayWed_83 (zcl_2 h0) (zck_2 h0) ?_)
                  refine a_iload_n F dX1_mayWed_84 rfl rfl ?_
                  refine a_callVI F (As := [.int (q_5.2 (r0 + 2) (ix p1)), .int p2]) cfX1 rfl (c_X1_isParent X h0 (q_5.2 (r0 + 2) (ix p1)) p2 q_5.2) mw_X1_isParent ml_X1_90 im_X1_isParent se_X1_isParent M0.2.1 (Nat.le_of_ble_eq_true rfl) ⟨Nat.zero_le _, Nat.zero_le _⟩ rfl rfl (Nat.le_of_ble_eq_true rfl) (zcl_0 h0) (zck_0 h0) dX1_mayWed_85 rfl (fun q_6 => ?_)
                  refine a_if_ne F 95 dX1_mayWed_88 (by decide) ?_ ?_
                  · refine a_iconst F dX1_mayWed_91 ki_1 ?_
                    refine a_goto F 96 dX1_mayWed_92 (by decide) ?_
                    exact a_zretK F M0.2.2.1 M0.2.2.2 dX1_mayWed_96 (Or.inr rfl)
                  · refine a_mask [false, false, false] (L' := [none, none, none]) rfl rfl ?_
                    exact b_X1_mayWed_95 M0 h0 q_6.2
                · refine a_mask [false, false, false] (L' := [none, none, none]) rfl rfl ?_
                  exact b_X1_mayWed_95 M0 h0 q_5.2
              · refine a_mask [false, false, false] (L' := [none, none, none]) rfl rfl ?_
                exact b_X1_mayWed_95 M0 h0 q_4.2
            · refine a_mask [false, false, false] (L' := [none, none, none]) rfl rfl ?_
              exact b_X1_mayWed_95 M0 h0 q_3.2
          · refine a_iconst F dX1_mayWed_43 ki_0 ?_
            exact a_zretK F M0.2.2.1 M0.2.2.2 dX1_mayWed_44 (Or.inl rfl)
        · refine a_iconst F dX1_mayWed_43 ki_0 ?_
          exact a_zretK F M0.2.2.1 M0.2.2.2 dX1_mayWed_44 (Or.inl rfl)
theorem c_X1_mayWed (X : CX) {r0 : Nat} (h0 : isClan r0) (p1 p2 : Int32) (S : Mm) : CtI X Z1 yX1_mayWed cX1_mayWed 3 (some .boolean) 3 [.ref r0, .int p1, .int p2] S (f_X1_mayWed r0 p1 p2 S) :=
  ctI_of (by decide +kernel) rfl (Nat.le_of_ble_eq_true rfl) (by simp [Value.category]) z1len fun E F R hra hlk => b_X1_mayWed ⟨F, R, hra, hlk⟩ h0 p1 p2 S
def f_X1_join (r0 : Nat) (p1 p2 : Int32) (S : Mm) : Option Mm :=
  gd (inB p1 12 = true) <|
  nm (uM S (r0 + 8) (ix p1) p2) fun S_1 =>
  gd (inB p2 12 = true) <|
  nm (uM S_1 (r0 + 8) (ix p2) p1) fun S_2 =>
  (f_X1_link r0 p1 p2 S_2).bind fun S_3 =>
  some S_3
set_option maxRecDepth 20000 in
theorem b_X1_join {X : CX} {E : FE} (M0 : MF X E RX1 cX1_join 3 2 none) {r0 : Nat} (h0 : isClan r0) (p1 p2 : Int32) (S : Mm) : At X E false (mQv X Z1 E) 0 [some (.ref r0), some (.int p1), some (.int p2)] [] Z1 S 0 0 (f_X1_join r0 p1 p2 S) := by
  have F := M0.1
  unfold f_X1_join
  refine a_aload_n F dX1_join_0 rfl rfl ?_
  refine a_getR (k := 12) F cfX1 dX1_join_1 fl_X1_49 (by decide) fi_1_12 (zcl_0 h0) (zck_0 h0) (zcr_12 h0) ?_
  refine a_iload_n F dX1_join_4 rfl rfl ?_
  refine a_iload_n F dX1_join_5 rfl rfl ?_
  refine a_gd (a_iast F dX1_join_6 (zcl_8 h0) (zck_8 h0) ?_)
  refine a_nmS (fun S_1 => ?_)
  refine a_aload_n F dX1_join_7 rfl rfl ?_
  refine a_getR (k := 12) F cfX1 dX1_join_8 fl_X1_49 (by decide) fi_1_12 (zcl_0 h0) (zck_0 h0) (zcr_12 h0) ?_
  refine a_iload_n F dX1_join_11 rfl rfl ?_
  refine a_iload_n F dX1_join_12 rfl rfl ?_
  refine a_gd (a_iast F dX1_join_13 (zcl_8 h0) (zck_8 h0) ?_)
  refine a_nmS (fun S_2 => ?_)
  refine a_aload_n F dX1_join_14 rfl rfl ?_
  refine a_iload_n F dX1_join_15 rfl rfl ?_
  refine a_iload_n F dX1_join_16 rfl rfl ?_
  refine a_callVV F (As := [.int p1, .int p2]) cfX1 rfl (c_X1_link X h0 p1 p2 S_2) mw_X1_link ml_X1_83 im_X1_link se_X1_link M0.2.1 (Nat.le_of_ble_eq_true rfl) ⟨Nat.zero_le _, Nat.zero_le _⟩ rfl rfl (Nat.le_of_ble_eq_true rfl) (zcl_0 h0) (zck_0 h0) dX1_join_17 rfl (fun S_3 => ?_)
  exact a_vret F M0.2.2.1 M0.2.2.2 dX1_join_20
theorem c_X1_join (X : CX) {r0 : Nat} (h0 : isClan r0) (p1 p2 : Int32) (S : Mm) : CtV X Z1 yX1_join cX1_join 3 2 [.ref r0, .int p1, .int p2] S (f_X1_join r0 p1 p2 S) :=
  ctV_of (by decide +kernel) rfl (Nat.le_of_ble_eq_true rfl) (by simp [Value.category]) z1len fun E F R hra hlk => b_X1_join ⟨F, R, hra, hlk⟩ h0 p1 p2 S
def f_X10_wed (p1 p2 : Int32) (S : Mm) : Option (Int32 × Mm) :=
  (f_X1_mayWed 1 p1 p2 S).bind fun q_1 =>
  if q_1.1 = 0 then (
   some ((0 : Int32), q_1.2)
  ) else (
   (f_X2_keep_32 1 q_1.2).bind fun S_2 =>
   (f_X1_join 1 p1 p2 S_2).bind fun S_3 =>
   some ((1 : Int32), S_3)
  )
set_option maxRecDepth 20000 in
theorem b_X10_wed {X : CX} {E : FE} (M0 : MF X E RX10 cX10_wed 3 4 (some .boolean)) (p1 p2 : Int32) (S : Mm) : At X E false (mQi X Z1 E) 0 [some (.ref 0), some (.int p1), some (.int p2)] [] Z1 S 0 0 (f_X10_wed p1 p2 S) := by
  have F := M0.1
  unfold f_X10_wed
  refine a_aload_n F dX10_wed_0 rfl rfl ?_
  refine a_getR (k := 0) F cfX10 dX10_wed_1 fl_X10_12 (by decide) fi_10_0 zl_0 zk_0 zr_0_0 ?_
  refine a_iload_n F dX10_wed_4 rfl rfl ?_
  refine a_iload_n F dX10_wed_5 rfl rfl ?_
  refine a_callVI F (As := [.int p1, .int p2]) cfX1 rfl (c_X1_mayWed X icl_1 p1 p2 S) mw_X1_mayWed ml_X10_171 im_X1_mayWed se_X1_mayWed M0.2.1 (Nat.le_of_ble_eq_true rfl) ⟨Nat.zero_le _, Nat.zero_le _⟩ rfl rfl (Nat.le_of_ble_eq_true rfl) zl_1 zk_1 dX10_wed_6 rfl (fun q_1 => ?_)
  refine a_if_ne F 14 dX10_wed_9 (by decide) ?_ ?_
  · refine a_iconst F dX10_wed_12 ki_0 ?_
    exact a_zretK F M0.2.2.1 M0.2.2.2 dX10_wed_13 (Or.inl rfl)
  · refine a_aload_n F dX10_wed_14 rfl rfl ?_
    refine a_getR (k := 3) F cfX10 dX10_wed_15 fl_X10_33 (by decide) fi_10_3 zl_0 zk_0 zr_0_3 ?_
    refine a_aload_n F dX10_wed_18 rfl rfl ?_
    refine a_getR (k := 0) F cfX10 dX10_wed_19 fl_X10_12 (by decide) fi_10_0 zl_0 zk_0 zr_0_0 ?_
    refine a_aload_n F dX10_wed_22 rfl rfl ?_
    refine a_getR (k := 2) F cfX10 dX10_wed_23 fl_X10_26 (by decide) fi_10_2 zl_0 zk_0 zr_0_2 ?_
    refine a_callVV F (As := [.ref 1, .ref 32]) cfX2 rfl (c_X2_keep_32 X icl_1 q_1.2) mw_X2_keep ml_X10_175 im_X2_keep se_X2_keep M0.2.1 (Nat.le_of_ble_eq_true rfl) ⟨Nat.zero_le _, Nat.zero_le _⟩ rfl rfl (Nat.le_of_ble_eq_true rfl) zl_34 zk_34 dX10_wed_26 rfl (fun S_2 => ?_)
    refine a_aload_n F dX10_wed_29 rfl rfl ?_
    refine a_getR (k := 0) F cfX10 dX10_wed_30 fl_X10_12 (by decide) fi_10_0 zl_0 zk_0 zr_0_0 ?_
    refine a_iload_n F dX10_wed_33 rfl rfl ?_
    refine a_iload_n F dX10_wed_34 rfl rfl ?_
    refine a_callVV F (As := [.int p1, .int p2]) cfX1 rfl (c_X1_join X icl_1 p1 p2 S_2) mw_X1_join ml_X10_179 im_X1_join se_X1_join M0.2.1 (Nat.le_of_ble_eq_true rfl) ⟨Nat.zero_le _, Nat.zero_le _⟩ rfl rfl (Nat.le_of_ble_eq_true rfl) zl_1 zk_1 dX10_wed_35 rfl (fun S_3 => ?_)
    refine a_iconst F dX10_wed_38 ki_1 ?_
    exact a_zretK F M0.2.2.1 M0.2.2.2 dX10_wed_39 (Or.inr rfl)
theorem c_X10_wed (X : CX) (p1 p2 : Int32) (S : Mm) : CtI X Z1 yX10_wed cX10_wed 3 (some .boolean) 4 [.ref 0, .int p1, .int p2] S (f_X10_wed p1 p2 S) :=
  ctI_of (by decide +kernel) rfl (Nat.le_of_ble_eq_true rfl) (by simp [Value.category]) z1len fun E F R hra hlk => b_X10_wed ⟨F, R, hra, hlk⟩ p1 p2 S
def f_X7_isWritable (p1 p2 : Int32) (S : Mm) : Option (Int32 × Mm) :=
  (f_X1_writableBy 166 p1 S).bind fun q_1 =>
  if (p2 &&& (q_1.1 ^^^ (-1 : Int32))) = 0 then (
   some ((1 : Int32), q_1.2)
  ) else (
   some ((0 : Int32), q_1.2)
  )
set_option maxRecDepth 20000 in
theorem b_X7_isWritable {X : CX} {E : FE} (M0 : MF X E RX7 cX7_isWritable 3 4 (some .boolean)) (p1 p2 : Int32) (S : Mm) : At X E false (mQi X Z1 E) 0 [some (.ref 165), some (.int p1), some (.int p2)] [] Z1 S 0 0 (f_X7_isWritable p1 p2 S) := by
  have F := M0.1
  unfold f_X7_isWritable
  refine a_iload_n F dX7_isWritable_0 rfl rfl ?_
  refine a_aload_n F dX7_isWritable_1 rfl rfl ?_
  refine a_getR (k := 2) F cfX7 dX7_isWritable_2 fl_X7_12 (by decide) fi_7_2 zl_165 zk_165 zr_165_2 ?_
  refine a_iload_n F dX7_isWritable_5 rfl rfl ?_
  refine a_callVI F (As := [.int p1]) cfX1 rfl (c_X1_writableBy X icl_166 p1 S) mw_X1_writableBy ml_X7_32 im_X1_writableBy se_X1_writableBy M0.2.1 (Nat.le_of_ble_eq_true rfl) ⟨Nat.zero_le _, Nat.zero_le _⟩ rfl rfl (Nat.le_of_ble_eq_true rfl) zl_166 zk_166 dX7_isWritable_6 rfl (fun q_1 => ?_)
  refine a_iconst F dX7_isWritable_9 ki_m1 ?_
  refine a_ixor F dX7_isWritable_10 ?_
  refine a_iand F dX7_isWritable_11 ?_
  refine a_if_ne F 19 dX7_isWritable_12 (by decide) ?_ ?_
  · refine a_iconst F dX7_isWritable_15 ki_1 ?_
    refine a_goto F 20 dX7_isWritable_16 (by decide) ?_
    exact a_zretK F M0.2.2.1 M0.2.2.2 dX7_isWritable_20 (Or.inr rfl)
  · refine a_iconst F dX7_isWritable_19 ki_0 ?_
    exact a_zretK F M0.2.2.1 M0.2.2.2 dX7_isWritable_20 (Or.inl rfl)
theorem c_X7_isWritable (X : CX) (p1 p2 : Int32) (S : Mm) : CtI X Z1 yX7_isWritable cX7_isWritable 3 (some .boolean) 4 [.ref 165, .int p1, .int p2] S (f_X7_isWritable p1 p2 S) :=
  ctI_of (by decide +kernel) rfl (Nat.le_of_ble_eq_true rfl) (by simp [Value.category]) z1len fun E F R hra hlk => b_X7_isWritable ⟨F, R, hra, hlk⟩ p1 p2 S
def f_X7_planOne_106 (k2 : Int32 → Int32 → Int32 → Mm → Option (Int32 × Mm)) (k18 : Int32 → Int32 → Int32 → Int32 → Mm → Option (Int32 × Mm)) (x1 x2 x3 x4 : Int32) (S : Mm) : Option (Int32 × Mm) :=
  nm (x4 + (1 : Int32)) fun x4_1 =>
  k18 x1 x2 x3 x4_1 S
set_option maxRecDepth 20000 in
theorem b_X7_planOne_106 {X : CX} {E : FE} (M0 : MF X E RX7 cX7_planOne 6 5 (some .boolean)) {k2 : Int32 → Int32 → Int32 → Mm → Option (Int32 × Mm)} (hk2 : ∀ (x1 x2 x3 : Int32) (S : Mm), At X E false (mQi X Z1 E) 2 [some (.ref 165), some (.int x1), some (.int x2), some (.int x3), none, none] [] Z1 S 0 0 (k2 x1 x2 x3 S)) {k18 : Int32 → Int32 → Int32 → Int32 → Mm → Option (Int32 × Mm)} (hk18 : ∀ (x1 x2 x3 x4 : Int32) (S : Mm), At X E false (mQi X Z1 E) 18 [some (.ref 165), some (.int x1), some (.int x2), some (.int x3), some (.int x4), none] [] Z1 S 0 0 (k18 x1 x2 x3 x4 S)) (x1 x2 x3 x4 : Int32) (S : Mm) : At X E false (mQi X Z1 E) 106 [some (.ref 165), some (.int x1), some (.int x2), some (.int x3), some (.int x4), none] [] Z1 S 0 0 (f_X7_planOne_106 k2 k18 x1 x2 x3 x4 S) := by
  have F := M0.1
  unfold f_X7_planOne_106
  refine a_iincN (L' := fun x4_1 => [some (.ref 165), some (.int x1), some (.int x2), some (.int x3), some (.int x4_1), none]) F dX7_planOne_106 rfl ki_1 (lt_b rfl) (fun _ => rfl) (fun x4_1 => ?_)
  refine a_goto F 18 dX7_planOne_109 (by decide) ?_
  exact hk18 x1 x2 x3 x4_1 S
def f_X7_planOne_18b (k2 : Int32 → Int32 → Int32 → Mm → Option (Int32 × Mm)) (k18 : Int32 → Int32 → Int32 → Int32 → Mm → Option (Int32 × Mm)) (x1 x2 x3 x4 : Int32) (S : Mm) : Option (Int32 × Mm) :=
  if (S 166 3) ≤ x4 then (
   nm (x3 + (1 : Int32)) fun x3_1 =>
   k2 x1 x2 x3_1 S
  ) else (
   (f_X1_mayWed 166 x3 x4 S).bind fun q_2 =>
   if q_2.1 = 0 then (
    f_X7_planOne_106 k2 k18 x1 x2 x3 x4 q_2.2
   ) else (
    (f_X1_join 166 x3 x4 q_2.2).bind fun S_3 =>
    (f_X7_isWritable x1 x2 S_3).bind fun q_4 =>
    (f_X1_separate 166 x3 x4 q_4.2).bind fun S_5 =>
    if q_4.1 = 0 then (
     f_X7_planOne_106 k2 k18 x1 x2 x3 x4 S_5
    ) else (
     nm (uM S_5 183 0 (1 : Int32)) fun S_6 =>
     nm (uM S_6 183 1 x3) fun S_7 =>
     nm (uM S_7 183 2 x4) fun S_8 =>
     some ((1 : Int32), S_8)
    )
   )
  )
set_option maxRecDepth 20000 in
theorem b_X7_planOne_18b {X : CX} {E : FE} (M0 : MF X E RX7 cX7_planOne 6 5 (some .boolean)) {k2 : Int32 → Int32 → Int32 → Mm → Option (Int32 × Mm)} (hk2 : ∀ (x1 x2 x3 : Int32) (S : Mm), At X E false (mQi X Z1 E) 2 [some (.ref 165), some (.int x1), some (.int x2), some (.int x3), none, none] [] Z1 S 0 0 (k2 x1 x2 x3 S)) {k18 : Int32 → Int32 → Int32 → Int32 → Mm → Option (Int32 × Mm)} (hk18 : ∀ (x1 x2 x3 x4 : Int32) (S : Mm), At X E false (mQi X Z1 E) 18 [some (.ref 165), some (.int x1), some (.int x2), some (.int x3), some (.int x4), none] [] Z1 S 0 0 (k18 x1 x2 x3 x4 S)) (x1 x2 x3 x4 : Int32) (S : Mm) : At X E false (mQi X Z1 E) 18 [some (.ref 165), some (.int x1), some (.int x2), some (.int x3), some (.int x4), none] [] Z1 S 0 0 (f_X7_planOne_18b k2 k18 x1 x2 x3 x4 S) := by
  have F := M0.1
  unfold f_X7_planOne_18b
  refine a_iload F dX7_planOne_18 rfl ?_
  refine a_aload_n F dX7_planOne_20 rfl rfl ?_
  refine a_getR (k := 2) F cfX7 dX7_planOne_21 fl_X7_12 (by decide) fi_7_2 zl_165 zk_165 zr_165_2 ?_
  refine a_getI (k := 3) F cfX1 dX7_planOne_24 fl_X7_43 (by decide) fi_1_3 zl_166 zk_166 ?_
  refine a_icmp_ge F 112 dX7_planOne_27 (by decide) ?_ ?_
  · refine a_iincN (L' := fun x3_1 => [some (.ref 165), some (.int x1), some (.int x2), some (.int x3_1), some (.int x4), none]) F dX7_planOne_112 rfl ki_1 (lt_b rfl) (fun _ => rfl) (fun x3_1 => ?_)
    refine a_goto F 2 dX7_planOne_115 (by decide) ?_
    refine a_mask [true, true, true, true, false, false] (L' := [some (.ref 165), some (.int x1), some (.int x2), some (.int x3_1), none, none]) rfl rfl ?_
    exact hk2 x1 x2 x3_1 S
  · refine a_aload_n F dX7_planOne_30 rfl rfl ?_
    refine a_getR (k := 2) F cfX7 dX7_planOne_31 fl_X7_12 (by decide) fi_7_2 zl_165 zk_165 zr_165_2 ?_
    refine a_iload_n F dX7_planOne_34 rfl rfl ?_
    refine a_iload F dX7_planOne_35 rfl ?_
    refine a_callVI F (As := [.int x3, .int x4]) cfX1 rfl (c_X1_mayWed X icl_166 x3 x4 S) mw_X1_mayWed ml_X7_102 im_X1_mayWed se_X1_mayWed M0.2.1 (Nat.le_of_ble_eq_true rfl) ⟨Nat.zero_le _, Nat.zero_le _⟩ rfl rfl (Nat.le_of_ble_eq_true rfl) zl_166 zk_166 dX7_planOne_37 rfl (fun q_2 => ?_)
    refine a_if_ne F 46 dX7_planOne_40 (by decide) ?_ ?_
    · refine a_goto F 106 dX7_planOne_43 (by decide) ?_
      exact b_X7_planOne_106 M0 hk2 hk18 x1 x2 x3 x4 q_2.2
    · refine a_aload_n F dX7_planOne_46 rfl rfl ?_
      refine a_getR (k := 2) F cfX7 dX7_planOne_47 fl_X7_12 (by decide) fi_7_2 zl_165 zk_165 zr_165_2 ?_
      refine a_iload_n F dX7_planOne_50 rfl rfl ?_
      refine a_iload F dX7_planOne_51 rfl ?_
      refine a_callVV F (As := [.int x3, .int x4]) cfX1 rfl (c_X1_join X icl_166 x3 x4 q_2.2) mw_X1_join ml_X7_105 im_X1_join se_X1_join M0.2.1 (Nat.le_of_ble_eq_true rfl) ⟨Nat.zero_le _, Nat.zero_le _⟩ rfl rfl (Nat.le_of_ble_eq_true rfl) zl_166 zk_166 dX7_planOne_53 rfl (fun S_3 => ?_)
      refine a_aload_n F dX7_planOne_56 rfl rfl ?_
      refine a_iload_n F dX7_planOne_57 rfl rfl ?_
      refine a_iload_n F dX7_planOne_58 rfl rfl ?_
      refine a_callVI F (As := [.int x1, .int x2]) cfX7 rfl (c_X7_isWritable X x1 x2 S_3) mw_X7_isWritable ml_X7_91 im_X7_isWritable se_X7_isWritable M0.2.1 (Nat.le_of_ble_eq_true rfl) ⟨Nat.zero_le _, Nat.zero_le _⟩ rfl rfl (Nat.le_of_ble_eq_true rfl) zl_165 zk_165 dX7_planOne_59 rfl (fun q_4 => ?_)
      refine a_istore (L' := [some (.ref 165), some (.int x1), some (.int x2), some (.int x3), some (.int x4), some (.int q_4.1)]) F dX7_planOne_62 (lt_b rfl) rfl ?_
      refine a_aload_n F dX7_planOne_64 rfl rfl ?_
      refine a_getR (k := 2) F cfX7 dX7_planOne_65 fl_X7_12 (by decide) fi_7_2 zl_165 zk_165 zr_165_2 ?_
      refine a_iload_n F dX7_planOne_68 rfl rfl ?_
      refine a_iload F dX7_planOne_69 rfl ?_
      refine a_callVV F (As := [.int x3, .int x4]) cfX1 rfl (c_X1_separate X icl_166 x3 x4 q_4.2) mw_X1_separate ml_X7_108 im_X1_separate se_X1_separate M0.2.1 (Nat.le_of_ble_eq_true rfl) ⟨Nat.zero_le _, Nat.zero_le _⟩ rfl rfl (Nat.le_of_ble_eq_true rfl) zl_166 zk_166 dX7_planOne_71 rfl (fun S_5 => ?_)
      refine a_iload F dX7_planOne_74 rfl ?_
      refine a_if_ne F 82 dX7_planOne_76 (by decide) ?_ ?_
      · refine a_goto F 106 dX7_planOne_79 (by decide) ?_
        refine a_mask [true, true, true, true, true, false] (L' := [some (.ref 165), some (.int x1), some (.int x2), some (.int x3), some (.int x4), none]) rfl rfl ?_
        exact b_X7_planOne_106 M0 hk2 hk18 x1 x2 x3 x4 S_5
      · refine a_aload_n F dX7_planOne_82 rfl rfl ?_
        refine a_getR (k := 4) F cfX7 dX7_planOne_83 fl_X7_22 (by decide) fi_7_4 zl_165 zk_165 zr_165_4 ?_
        refine a_iconst F dX7_planOne_86 ki_0 ?_
        refine a_iconst F dX7_planOne_87 ki_1 ?_
        refine a_iastK F 0 dX7_planOne_88 zl_183 zk_183 ib_0_5 ix_0 ?_
        refine a_nmS (fun S_6 => ?_)
        refine a_aload_n F dX7_planOne_89 rfl rfl ?_
        refine a_getR (k := 4) F cfX7 dX7_planOne_90 fl_X7_22 (by decide) fi_7_4 zl_165 zk_165 zr_165_4 ?_
        refine a_iconst F dX7_planOne_93 ki_1 ?_
        refine a_iload_n F dX7_planOne_94 rfl rfl ?_
        refine a_iastK F 1 dX7_planOne_95 zl_183 zk_183 ib_1_5 ix_1 ?_
        refine a_nmS (fun S_7 => ?_)
        refine a_aload_n F dX7_planOne_96 rfl rfl ?_
        refine a_getR (k := 4) F cfX7 dX7_planOne_97 fl_X7_22 (by decide) fi_7_4 zl_165 zk_165 zr_165_4 ?_
        refine a_iconst F dX7_planOne_100 ki_2 ?_
        refine a_iload F dX7_planOne_101 rfl ?_
        refine a_iastK F 2 dX7_planOne_103 zl_183 zk_183 ib_2_5 ix_2 ?_
        refine a_nmS (fun S_8 => ?_)
        refine a_iconst F dX7_planOne_104 ki_1 ?_
        exact a_zretK F M0.2.2.1 M0.2.2.2 dX7_planOne_105 (Or.inr rfl)
def f_X7_planOne_18 (k2 : Int32 → Int32 → Int32 → Mm → Option (Int32 × Mm)) : Nat → Int32 → Int32 → Int32 → Int32 → Mm → Option (Int32 × Mm) :=
  itr (fun _ _ _ _ _ => none) (fun k => f_X7_planOne_18b k2 k)
theorem b_X7_planOne_18 {X : CX} {E : FE} (M0 : MF X E RX7 cX7_planOne 6 5 (some .boolean)) {k2 : Int32 → Int32 → Int32 → Mm → Option (Int32 × Mm)} (hk2 : ∀ (x1 x2 x3 : Int32) (S : Mm), At X E false (mQi X Z1 E) 2 [some (.ref 165), some (.int x1), some (.int x2), some (.int x3), none, none] [] Z1 S 0 0 (k2 x1 x2 x3 S)) : ∀ (n : Nat) (x1 x2 x3 x4 : Int32) (S : Mm), At X E false (mQi X Z1 E) 18 [some (.ref 165), some (.int x1), some (.int x2), some (.int x3), some (.int x4), none] [] Z1 S 0 0 (f_X7_planOne_18 k2 n x1 x2 x3 x4 S) := by
  intro n
  induction n with
  | zero => intros; exact a_none
  | succ n ih => intro x1 x2 x3 x4 S; exact b_X7_planOne_18b M0 hk2 ih x1 x2 x3 x4 S
def f_X7_planOne_2b (k2 : Int32 → Int32 → Int32 → Mm → Option (Int32 × Mm)) (x1 x2 x3 : Int32) (S : Mm) : Option (Int32 × Mm) :=
  if (S 166 3) ≤ x3 then (
   some ((0 : Int32), S)
  ) else (
   nm ((x3 + (1 : Int32))) fun x4_1 =>
   f_X7_planOne_18 k2 FU x1 x2 x3 x4_1 S
  )
set_option maxRecDepth 20000 in
theorem b_X7_planOne_2b {X : CX} {E : FE} (M0 : MF X E RX7 cX7_planOne 6 5 (some .boolean)) {k2 : Int32 → Int32 → Int32 → Mm → Option (Int32 × Mm)} (hk2 : ∀ (x1 x2 x3 : Int32) (S : Mm), At X E false (mQi X Z1 E) 2 [some (.ref 165), some (.int x1), some (.int x2), some (.int x3), none, none] [] Z1 S 0 0 (k2 x1 x2 x3 S)) (x1 x2 x3 : Int32) (S : Mm) : At X E false (mQi X Z1 E) 2 [some (.ref 165), some (.int x1), some (.int x2), some (.int x3), none, none] [] Z1 S 0 0 (f_X7_planOne_2b k2 x1 x2 x3 S) := by
  have F := M0.1
  unfold f_X7_planOne_2b
  refine a_iload_n F dX7_planOne_2 rfl rfl ?_
  refine a_aload_n F dX7_planOne_3 rfl rfl ?_
  refine a_getR (k := 2) F cfX7 dX7_planOne_4 fl_X7_12 (by decide) fi_7_2 zl_165 zk_165 zr_165_2 ?_
  refine a_getI (k := 3) F cfX1 dX7_planOne_7 fl_X7_43 (by decide) fi_1_3 zl_166 zk_166 ?_
  refine a_icmp_ge F 118 dX7_planOne_10 (by decide) ?_ ?_
  · refine a_iconst F dX7_planOne_118 ki_0 ?_
    exact a_zretK F M0.2.2.1 M0.2.2.2 dX7_planOne_119 (Or.inl rfl)
  · refine a_iload_n F dX7_planOne_13 rfl rfl ?_
    refine a_iconst F dX7_planOne_14 ki_1 ?_
    refine a_iadd F dX7_planOne_15 ?_
    refine a_istoreN (L' := fun x4_1 => [some (.ref 165), some (.int x1), some (.int x2), some (.int x3), some (.int x4_1), none]) F dX7_planOne_16 (lt_b rfl) (fun _ => rfl) (fun x4_1 => ?_)
    exact b_X7_planOne_18 M0 hk2 FU x1 x2 x3 x4_1 S
def f_X7_planOne_2 : Nat → Int32 → Int32 → Int32 → Mm → Option (Int32 × Mm) :=
  itr (fun _ _ _ _ => none) (fun k => f_X7_planOne_2b k)
theorem b_X7_planOne_2 {X : CX} {E : FE} (M0 : MF X E RX7 cX7_planOne 6 5 (some .boolean)) : ∀ (n : Nat) (x1 x2 x3 : Int32) (S : Mm), At X E false (mQi X Z1 E) 2 [some (.ref 165), some (.int x1), some (.int x2), some (.int x3), none, none] [] Z1 S 0 0 (f_X7_planOne_2  n x1 x2 x3 S) := by
  intro n
  induction n with
  | zero => intros; exact a_none
  | succ n ih => intro x1 x2 x3 S; exact b_X7_planOne_2b M0 ih x1 x2 x3 S
def f_X7_planOne (p1 p2 : Int32) (S : Mm) : Option (Int32 × Mm) :=
  f_X7_planOne_2 FU p1 p2 (0 : Int32) S
set_option maxRecDepth 20000 in
theorem b_X7_planOne {X : CX} {E : FE} (M0 : MF X E RX7 cX7_planOne 6 5 (some .boolean)) (p1 p2 : Int32) (S : Mm) : At X E false (mQi X Z1 E) 0 [some (.ref 165), some (.int p1), some (.int p2), none, none, none] [] Z1 S 0 0 (f_X7_planOne p1 p2 S) := by
  have F := M0.1
  unfold f_X7_planOne
  refine a_iconst F dX7_planOne_0 ki_0 ?_
  refine a_istore_n (L' := [some (.ref 165), some (.int p1), some (.int p2), some (.int (0 : Int32)), none, none]) F dX7_planOne_1 rfl (lt_b rfl) rfl ?_
  exact b_X7_planOne_2 M0 FU p1 p2 (0 : Int32) S
theorem c_X7_planOne (X : CX) (p1 p2 : Int32) (S : Mm) : CtI X Z1 yX7_planOne cX7_planOne 6 (some .boolean) 5 [.ref 165, .int p1, .int p2] S (f_X7_planOne p1 p2 S) :=
  ctI_of (by decide +kernel) rfl (Nat.le_of_ble_eq_true rfl) (by simp [Value.category]) z1len fun E F R hra hlk => b_X7_planOne ⟨F, R, hra, hlk⟩ p1 p2 S
def f_X7_planSecond_108 (k5 : Int32 → Int32 → Int32 → Mm → Option (Int32 × Mm)) (k23 : Int32 → Int32 → Int32 → Int32 → Mm → Option (Int32 × Mm)) (x1 x2 x4 x5 : Int32) (S : Mm) : Option (Int32 × Mm) :=
  nm (x5 + (1 : Int32)) fun x5_1 =>
  k23 x1 x2 x4 x5_1 S
set_option maxRecDepth 20000 in
theorem b_X7_planSecond_108 {X : CX} {E : FE} (M0 : MF X E RX7 cX7_planSecond 7 5 (some .boolean)) {k5 : Int32 → Int32 → Int32 → Mm → Option (Int32 × Mm)} (hk5 : ∀ (x1 x2 x4 : Int32) (S : Mm), At X E false (mQi X Z1 E) 5 [some (.ref 165), some (.int x1), some (.int x2), none, some (.int x4), none, none] [] Z1 S 0 0 (k5 x1 x2 x4 S)) {k23 : Int32 → Int32 → Int32 → Int32 → Mm → Option (Int32 × Mm)} (hk23 : ∀ (x1 x2 x4 x5 : Int32) (S : Mm), At X E false (mQi X Z1 E) 23 [some (.ref 165), some (.int x1), some (.int x2), none, some (.int x4), some (.int x5), none] [] Z1 S 0 0 (k23 x1 x2 x4 x5 S)) (x1 x2 x4 x5 : Int32) (S : Mm) : At X E false (mQi X Z1 E) 108 [some (.ref 165), some (.int x1), some (.int x2), none, some (.int x4), some (.int x5), none] [] Z1 S 0 0 (f_X7_planSecond_108 k5 k23 x1 x2 x4 x5 S) := by
  have F := M0.1
  unfold f_X7_planSecond_108
  refine a_iincN (L' := fun x5_1 => [some (.ref 165), some (.int x1), some (.int x2), none, some (.int x4), some (.int x5_1), none]) F dX7_planSecond_108 rfl ki_1 (lt_b rfl) (fun _ => rfl) (fun x5_1 => ?_)
  refine a_goto F 23 dX7_planSecond_111 (by decide) ?_
  exact hk23 x1 x2 x4 x5_1 S
def f_X7_planSecond_23b (k5 : Int32 → Int32 → Int32 → Mm → Option (Int32 × Mm)) (k23 : Int32 → Int32 → Int32 → Int32 → Mm → Option (Int32 × Mm)) (x1 x2 x4 x5 : Int32) (S : Mm) : Option (Int32 × Mm) :=
  if (S 166 3) ≤ x5 then (
   nm (x4 + (1 : Int32)) fun x4_1 =>
   k5 x1 x2 x4_1 S
  ) else (
   (f_X1_mayWed 166 x4 x5 S).bind fun q_2 =>
   if q_2.1 = 0 then (
    f_X7_planSecond_108 k5 k23 x1 x2 x4 x5 q_2.2
   ) else (
    (f_X1_join 166 x4 x5 q_2.2).bind fun S_3 =>
    (f_X7_isWritable x1 x2 S_3).bind fun q_4 =>
    (f_X1_separate 166 x4 x5 q_4.2).bind fun S_5 =>
    if q_4.1 = 0 then (
     f_X7_planSecond_108 k5 k23 x1 x2 x4 x5 S_5
    ) else (
     nm (uM S_5 183 3 x4) fun S_6 =>
     nm (uM S_6 183 4 x5) fun S_7 =>
     some ((1 : Int32), S_7)
    )
   )
  )
set_option maxRecDepth 20000 in
theorem b_X7_planSecond_23b {X : CX} {E : FE} (M0 : MF X E RX7 cX7_planSecond 7 5 (some .boolean)) {k5 : Int32 → Int32 → Int32 → Mm → Option (Int32 × Mm)} (hk5 : ∀ (x1 x2 x4 : Int32) (S : Mm), At X E false (mQi X Z1 E) 5 [some (.ref 165), some (.int x1), some (.int x2), none, some (.int x4), none, none] [] Z1 S 0 0 (k5 x1 x2 x4 S)) {k23 : Int32 → Int32 → Int32 → Int32 → Mm → Option (Int32 × Mm)} (hk23 : ∀ (x1 x2 x4 x5 : Int32) (S : Mm), At X E false (mQi X Z1 E) 23 [some (.ref 165), some (.int x1), some (.int x2), none, some (.int x4), some (.int x5), none] [] Z1 S 0 0 (k23 x1 x2 x4 x5 S)) (x1 x2 x4 x5 : Int32) (S : Mm) : At X E false (mQi X Z1 E) 23 [some (.ref 165), some (.int x1), some (.int x2), none, some (.int x4), some (.int x5), none] [] Z1 S 0 0 (f_X7_planSecond_23b k5 k23 x1 x2 x4 x5 S) := by
  have F := M0.1
  unfold f_X7_planSecond_23b
  refine a_iload F dX7_planSecond_23 rfl ?_
  refine a_aload_n F dX7_planSecond_25 rfl rfl ?_
  refine a_getR (k := 2) F cfX7 dX7_planSecond_26 fl_X7_12 (by decide) fi_7_2 zl_165 zk_165 zr_165_2 ?_
  refine a_getI (k := 3) F cfX1 dX7_planSecond_29 fl_X7_43 (by decide) fi_1_3 zl_166 zk_166 ?_
  refine a_icmp_ge F 114 dX7_planSecond_32 (by decide) ?_ ?_
  · refine a_iincN (L' := fun x4_1 => [some (.ref 165), some (.int x1), some (.int x2), none, some (.int x4_1), some (.int x5), none]) F dX7_planSecond_114 rfl ki_1 (lt_b rfl) (fun _ => rfl) (fun x4_1 => ?_)
    refine a_goto F 5 dX7_planSecond_117 (by decide) ?_
    refine a_mask [true, true, true, false, true, false, false] (L' := [some (.ref 165), some (.int x1), some (.int x2), none, some (.int x4_1), none, none]) rfl rfl ?_
    exact hk5 x1 x2 x4_1 S
  · refine a_aload_n F dX7_planSecond_35 rfl rfl ?_
    refine a_getR (k := 2) F cfX7 dX7_planSecond_36 fl_X7_12 (by decide) fi_7_2 zl_165 zk_165 zr_165_2 ?_
    refine a_iload F dX7_planSecond_39 rfl ?_
    refine a_iload F dX7_planSecond_41 rfl ?_
    refine a_callVI F (As := [.int x4, .int x5]) cfX1 rfl (c_X1_mayWed X icl_166 x4 x5 S) mw_X1_mayWed ml_X7_102 im_X1_mayWed se_X1_mayWed M0.2.1 (Nat.le_of_ble_eq_true rfl) ⟨Nat.zero_le _, Nat.zero_le _⟩ rfl rfl (Nat.le_of_ble_eq_true rfl) zl_166 zk_166 dX7_planSecond_43 rfl (fun q_2 => ?_)
    refine a_if_ne F 52 dX7_planSecond_46 (by decide) ?_ ?_
    · refine a_goto F 108 dX7_planSecond_49 (by decide) ?_
      exact b_X7_planSecond_108 M0 hk5 hk23 x1 x2 x4 x5 q_2.2
    · refine a_aload_n F dX7_planSecond_52 rfl rfl ?_
      refine a_getR (k := 2) F cfX7 dX7_planSecond_53 fl_X7_12 (by decide) fi_7_2 zl_165 zk_165 zr_165_2 ?_
      refine a_iload F dX7_planSecond_56 rfl ?_
      refine a_iload F dX7_planSecond_58 rfl ?_
      refine a_callVV F (As := [.int x4, .int x5]) cfX1 rfl (c_X1_join X icl_166 x4 x5 q_2.2) mw_X1_join ml_X7_105 im_X1_join se_X1_join M0.2.1 (Nat.le_of_ble_eq_true rfl) ⟨Nat.zero_le _, Nat.zero_le _⟩ rfl rfl (Nat.le_of_ble_eq_true rfl) zl_166 zk_166 dX7_planSecond_60 rfl (fun S_3 => ?_)
      refine a_aload_n F dX7_planSecond_63 rfl rfl ?_
      refine a_iload_n F dX7_planSecond_64 rfl rfl ?_
      refine a_iload_n F dX7_planSecond_65 rfl rfl ?_
      refine a_callVI F (As := [.int x1, .int x2]) cfX7 rfl (c_X7_isWritable X x1 x2 S_3) mw_X7_isWritable ml_X7_91 im_X7_isWritable se_X7_isWritable M0.2.1 (Nat.le_of_ble_eq_true rfl) ⟨Nat.zero_le _, Nat.zero_le _⟩ rfl rfl (Nat.le_of_ble_eq_true rfl) zl_165 zk_165 dX7_planSecond_66 rfl (fun q_4 => ?_)
      refine a_istore (L' := [some (.ref 165), some (.int x1), some (.int x2), none, some (.int x4), some (.int x5), some (.int q_4.1)]) F dX7_planSecond_69 (lt_b rfl) rfl ?_
      refine a_aload_n F dX7_planSecond_71 rfl rfl ?_
      refine a_getR (k := 2) F cfX7 dX7_planSecond_72 fl_X7_12 (by decide) fi_7_2 zl_165 zk_165 zr_165_2 ?_
      refine a_iload F dX7_planSecond_75 rfl ?_
      refine a_iload F dX7_planSecond_77 rfl ?_
      refine a_callVV F (As := [.int x4, .int x5]) cfX1 rfl (c_X1_separate X icl_166 x4 x5 q_4.2) mw_X1_separate ml_X7_108 im_X1_separate se_X1_separate M0.2.1 (Nat.le_of_ble_eq_true rfl) ⟨Nat.zero_le _, Nat.zero_le _⟩ rfl rfl (Nat.le_of_ble_eq_true rfl) zl_166 zk_166 dX7_planSecond_79 rfl (fun S_5 => ?_)
      refine a_iload F dX7_planSecond_82 rfl ?_
      refine a_if_ne F 90 dX7_planSecond_84 (by decide) ?_ ?_
      · refine a_goto F 108 dX7_planSecond_87 (by decide) ?_
        refine a_mask [true, true, true, false, true, true, false] (L' := [some (.ref 165), some (.int x1), some (.int x2), none, some (.int x4), some (.int x5), none]) rfl rfl ?_
        exact b_X7_planSecond_108 M0 hk5 hk23 x1 x2 x4 x5 S_5
      · refine a_aload_n F dX7_planSecond_90 rfl rfl ?_
        refine a_getR (k := 4) F cfX7 dX7_planSecond_91 fl_X7_22 (by decide) fi_7_4 zl_165 zk_165 zr_165_4 ?_
        refine a_iconst F dX7_planSecond_94 ki_3 ?_
        refine a_iload F dX7_planSecond_95 rfl ?_
        refine a_iastK F 3 dX7_planSecond_97 zl_183 zk_183 ib_3_5 ix_3 ?_
        refine a_nmS (fun S_6 => ?_)
        refine a_aload_n F dX7_planSecond_98 rfl rfl ?_
        refine a_getR (k := 4) F cfX7 dX7_planSecond_99 fl_X7_22 (by decide) fi_7_4 zl_165 zk_165 zr_165_4 ?_
        refine a_iconst F dX7_planSecond_102 ki_4 ?_
        refine a_iload F dX7_planSecond_103 rfl ?_
        refine a_iastK F 4 dX7_planSecond_105 zl_183 zk_183 ib_4_5 ix_4 ?_
        refine a_nmS (fun S_7 => ?_)
        refine a_iconst F dX7_planSecond_106 ki_1 ?_
        exact a_zretK F M0.2.2.1 M0.2.2.2 dX7_planSecond_107 (Or.inr rfl)
def f_X7_planSecond_23 (k5 : Int32 → Int32 → Int32 → Mm → Option (Int32 × Mm)) : Nat → Int32 → Int32 → Int32 → Int32 → Mm → Option (Int32 × Mm) :=
  itr (fun _ _ _ _ _ => none) (fun k => f_X7_planSecond_23b k5 k)
theorem b_X7_planSecond_23 {X : CX} {E : FE} (M0 : MF X E RX7 cX7_planSecond 7 5 (some .boolean)) {k5 : Int32 → Int32 → Int32 → Mm → Option (Int32 × Mm)} (hk5 : ∀ (x1 x2 x4 : Int32) (S : Mm), At X E false (mQi X Z1 E) 5 [some (.ref 165), some (.int x1), some (.int x2), none, some (.int x4), none, none] [] Z1 S 0 0 (k5 x1 x2 x4 S)) : ∀ (n : Nat) (x1 x2 x4 x5 : Int32) (S : Mm), At X E false (mQi X Z1 E) 23 [some (.ref 165), some (.int x1), some (.int x2), none, some (.int x4), some (.int x5), none] [] Z1 S 0 0 (f_X7_planSecond_23 k5 n x1 x2 x4 x5 S) := by
  intro n
  induction n with
  | zero => intros; exact a_none
  | succ n ih => intro x1 x2 x4 x5 S; exact b_X7_planSecond_23b M0 hk5 ih x1 x2 x4 x5 S
def f_X7_planSecond_5b (k5 : Int32 → Int32 → Int32 → Mm → Option (Int32 × Mm)) (x1 x2 x4 : Int32) (S : Mm) : Option (Int32 × Mm) :=
  if (S 166 3) ≤ x4 then (
   some ((0 : Int32), S)
  ) else (
   nm ((x4 + (1 : Int32))) fun x5_1 =>
   f_X7_planSecond_23 k5 FU x1 x2 x4 x5_1 S
  )
set_option maxRecDepth 20000 in
theorem b_X7_planSecond_5b {X : CX} {E : FE} (M0 : MF X E RX7 cX7_planSecond 7 5 (some .boolean)) {k5 : Int32 → Int32 → Int32 → Mm → Option (Int32 × Mm)} (hk5 : ∀ (x1 x2 x4 : Int32) (S : Mm), At X E false (mQi X Z1 E) 5 [some (.ref 165), some (.int x1), some (.int x2), none, some (.int x4), none, none] [] Z1 S 0 0 (k5 x1 x2 x4 S)) (x1 x2 x4 : Int32) (S : Mm) : At X E false (mQi X Z1 E) 5 [some (.ref 165), some (.int x1), some (.int x2), none, some (.int x4), none, none] [] Z1 S 0 0 (f_X7_planSecond_5b k5 x1 x2 x4 S) := by
  have F := M0.1
  unfold f_X7_planSecond_5b
  refine a_iload F dX7_planSecond_5 rfl ?_
  refine a_aload_n F dX7_planSecond_7 rfl rfl ?_
  refine a_getR (k := 2) F cfX7 dX7_planSecond_8 fl_X7_12 (by decide) fi_7_2 zl_165 zk_165 zr_165_2 ?_
  refine a_getI (k := 3) F cfX1 dX7_planSecond_11 fl_X7_43 (by decide) fi_1_3 zl_166 zk_166 ?_
  refine a_icmp_ge F 120 dX7_planSecond_14 (by decide) ?_ ?_
  · refine a_iconst F dX7_planSecond_120 ki_0 ?_
    exact a_zretK F M0.2.2.1 M0.2.2.2 dX7_planSecond_121 (Or.inl rfl)
  · refine a_iload F dX7_planSecond_17 rfl ?_
    refine a_iconst F dX7_planSecond_19 ki_1 ?_
    refine a_iadd F dX7_planSecond_20 ?_
    refine a_istoreN (L' := fun x5_1 => [some (.ref 165), some (.int x1), some (.int x2), none, some (.int x4), some (.int x5_1), none]) F dX7_planSecond_21 (lt_b rfl) (fun _ => rfl) (fun x5_1 => ?_)
    exact b_X7_planSecond_23 M0 hk5 FU x1 x2 x4 x5_1 S
def f_X7_planSecond_5 : Nat → Int32 → Int32 → Int32 → Mm → Option (Int32 × Mm) :=
  itr (fun _ _ _ _ => none) (fun k => f_X7_planSecond_5b k)
theorem b_X7_planSecond_5 {X : CX} {E : FE} (M0 : MF X E RX7 cX7_planSecond 7 5 (some .boolean)) : ∀ (n : Nat) (x1 x2 x4 : Int32) (S : Mm), At X E false (mQi X Z1 E) 5 [some (.ref 165), some (.int x1), some (.int x2), none, some (.int x4), none, none] [] Z1 S 0 0 (f_X7_planSecond_5  n x1 x2 x4 S) := by
  intro n
  induction n with
  | zero => intros; exact a_none
  | succ n ih => intro x1 x2 x4 S; exact b_X7_planSecond_5b M0 ih x1 x2 x4 S
def f_X7_planSecond (p1 p2 p3 : Int32) (S : Mm) : Option (Int32 × Mm) :=
  nm ((p3 + (1 : Int32))) fun x4_1 =>
  f_X7_planSecond_5 FU p1 p2 x4_1 S
set_option maxRecDepth 20000 in
theorem b_X7_planSecond {X : CX} {E : FE} (M0 : MF X E RX7 cX7_planSecond 7 5 (some .boolean)) (p1 p2 p3 : Int32) (S : Mm) : At X E false (mQi X Z1 E) 0 [some (.ref 165), some (.int p1), some (.int p2), some (.int p3), none, none, none] [] Z1 S 0 0 (f_X7_planSecond p1 p2 p3 S) := by
  have F := M0.1
  unfold f_X7_planSecond
  refine a_iload_n F dX7_planSecond_0 rfl rfl ?_
  refine a_iconst F dX7_planSecond_1 ki_1 ?_
  refine a_iadd F dX7_planSecond_2 ?_
  refine a_istoreN (L' := fun x4_1 => [some (.ref 165), some (.int p1), some (.int p2), some (.int p3), some (.int x4_1), none, none]) F dX7_planSecond_3 (lt_b rfl) (fun _ => rfl) (fun x4_1 => ?_)
  refine a_mask [true, true, true, false, true, false, false] (L' := [some (.ref 165), some (.int p1), some (.int p2), none, some (.int x4_1), none, none]) rfl rfl ?_
  exact b_X7_planSecond_5 M0 FU p1 p2 x4_1 S
theorem c_X7_planSecond (X : CX) (p1 p2 p3 : Int32) (S : Mm) : CtI X Z1 yX7_planSecond cX7_planSecond 7 (some .boolean) 5 [.ref 165, .int p1, .int p2, .int p3] S (f_X7_planSecond p1 p2 p3 S) :=
  ctI_of (by decide +kernel) rfl (Nat.le_of_ble_eq_true rfl) (by simp [Value.category]) z1len fun E F R hra hlk => b_X7_planSecond ⟨F, R, hra, hlk⟩ p1 p2 p3 S
def f_X7_planTwo_106 (k2 : Int32 → Int32 → Int32 → Mm → Option Mm) (k18 : Int32 → Int32 → Int32 → Int32 → Mm → Option Mm) (x1 x2 x3 x4 : Int32) (S : Mm) : Option Mm :=
  nm (x4 + (1 : Int32)) fun x4_1 =>
  k18 x1 x2 x3 x4_1 S
set_option maxRecDepth 20000 in
theorem b_X7_planTwo_106 {X : CX} {E : FE} (M0 : MF X E RX7 cX7_planTwo 6 6 none) {k2 : Int32 → Int32 → Int32 → Mm → Option Mm} (hk2 : ∀ (x1 x2 x3 : Int32) (S : Mm), At X E false (mQv X Z1 E) 2 [some (.ref 165), some (.int x1), some (.int x2), some (.int x3), none, none] [] Z1 S 0 0 (k2 x1 x2 x3 S)) {k18 : Int32 → Int32 → Int32 → Int32 → Mm → Option Mm} (hk18 : ∀ (x1 x2 x3 x4 : Int32) (S : Mm), At X E false (mQv X Z1 E) 18 [some (.ref 165), some (.int x1), some (.int x2), some (.int x3), some (.int x4), none] [] Z1 S 0 0 (k18 x1 x2 x3 x4 S)) (x1 x2 x3 x4 : Int32) (S : Mm) : At X E false (mQv X Z1 E) 106 [some (.ref 165), some (.int x1), some (.int x2), some (.int x3), some (.int x4), none] [] Z1 S 0 0 (f_X7_planTwo_106 k2 k18 x1 x2 x3 x4 S) := by
  have F := M0.1
  unfold f_X7_planTwo_106
  refine a_iincN (L' := fun x4_1 => [some (.ref 165), some (.int x1), some (.int x2), some (.int x3), some (.int x4_1), none]) F dX7_planTwo_106 rfl ki_1 (lt_b rfl) (fun _ => rfl) (fun x4_1 => ?_)
  refine a_goto F 18 dX7_planTwo_109 (by decide) ?_
  exact hk18 x1 x2 x3 x4_1 S
def f_X7_planTwo_18b (k2 : Int32 → Int32 → Int32 → Mm → Option Mm) (k18 : Int32 → Int32 → Int32 → Int32 → Mm → Option Mm) (x1 x2 x3 x4 : Int32) (S : Mm) : Option Mm :=
  if (S 166 3) ≤ x4 then (
   nm (x3 + (1 : Int32)) fun x3_1 =>
   k2 x1 x2 x3_1 S
  ) else (
   (f_X1_mayWed 166 x3 x4 S).bind fun q_2 =>
   if q_2.1 = 0 then (
    f_X7_planTwo_106 k2 k18 x1 x2 x3 x4 q_2.2
   ) else (
    (f_X1_join 166 x3 x4 q_2.2).bind fun S_3 =>
    (f_X7_planSecond x1 x2 x3 S_3).bind fun q_4 =>
    (f_X1_separate 166 x3 x4 q_4.2).bind fun S_5 =>
    if q_4.1 = 0 then (
     f_X7_planTwo_106 k2 k18 x1 x2 x3 x4 S_5
    ) else (
     nm (uM S_5 183 0 (2 : Int32)) fun S_6 =>
     nm (uM S_6 183 1 x3) fun S_7 =>
     nm (uM S_7 183 2 x4) fun S_8 =>
     some S_8
    )
   )
  )
set_option maxRecDepth 20000 in
theorem b_X7_planTwo_18b {X : CX} {E : FE} (M0 : MF X E RX7 cX7_planTwo 6 6 none) {k2 : Int32 → Int32 → Int32 → Mm → Option Mm} (hk2 : ∀ (x1 x2 x3 : Int32) (S : Mm), At X E false (mQv X Z1 E) 2 [some (.ref 165), some (.int x1), some (.int x2), some (.int x3), none, none] [] Z1 S 0 0 (k2 x1 x2 x3 S)) {k18 : Int32 → Int32 → Int32 → Int32 → Mm → Option Mm} (hk18 : ∀ (x1 x2 x3 x4 : Int32) (S : Mm), At X E false (mQv X Z1 E) 18 [some (.ref 165), some (.int x1), some (.int x2), some (.int x3), some (.int x4), none] [] Z1 S 0 0 (k18 x1 x2 x3 x4 S)) (x1 x2 x3 x4 : Int32) (S : Mm) : At X E false (mQv X Z1 E) 18 [some (.ref 165), some (.int x1), some (.int x2), some (.int x3), some (.int x4), none] [] Z1 S 0 0 (f_X7_planTwo_18b k2 k18 x1 x2 x3 x4 S) := by
  have F := M0.1
  unfold f_X7_planTwo_18b
  refine a_iload F dX7_planTwo_18 rfl ?_
  refine a_aload_n F dX7_planTwo_20 rfl rfl ?_
  refine a_getR (k := 2) F cfX7 dX7_planTwo_21 fl_X7_12 (by decide) fi_7_2 zl_165 zk_165 zr_165_2 ?_
  refine a_getI (k := 3) F cfX1 dX7_planTwo_24 fl_X7_43 (by decide) fi_1_3 zl_166 zk_166 ?_
  refine a_icmp_ge F 112 dX7_planTwo_27 (by decide) ?_ ?_
  · refine a_iincN (L' := fun x3_1 => [some (.ref 165), some (.int x1), some (.int x2), some (.int x3_1), some (.int x4), none]) F dX7_planTwo_112 rfl ki_1 (lt_b rfl) (fun _ => rfl) (fun x3_1 => ?_)
    refine a_goto F 2 dX7_planTwo_115 (by decide) ?_
    refine a_mask [true, true, true, true, false, false] (L' := [some (.ref 165), some (.int x1), some (.int x2), some (.int x3_1), none, none]) rfl rfl ?_
    exact hk2 x1 x2 x3_1 S
  · refine a_aload_n F dX7_planTwo_30 rfl rfl ?_
    refine a_getR (k := 2) F cfX7 dX7_planTwo_31 fl_X7_12 (by decide) fi_7_2 zl_165 zk_165 zr_165_2 ?_
    refine a_iload_n F dX7_planTwo_34 rfl rfl ?_
    refine a_iload F dX7_planTwo_35 rfl ?_
    refine a_callVI F (As := [.int x3, .int x4]) cfX1 rfl (c_X1_mayWed X icl_166 x3 x4 S) mw_X1_mayWed ml_X7_102 im_X1_mayWed se_X1_mayWed M0.2.1 (Nat.le_of_ble_eq_true rfl) ⟨Nat.zero_le _, Nat.zero_le _⟩ rfl rfl (Nat.le_of_ble_eq_true rfl) zl_166 zk_166 dX7_planTwo_37 rfl (fun q_2 => ?_)
    refine a_if_ne F 46 dX7_planTwo_40 (by decide) ?_ ?_
    · refine a_goto F 106 dX7_planTwo_43 (by decide) ?_
      exact b_X7_planTwo_106 M0 hk2 hk18 x1 x2 x3 x4 q_2.2
    · refine a_aload_n F dX7_planTwo_46 rfl rfl ?_
      refine a_getR (k := 2) F cfX7 dX7_planTwo_47 fl_X7_12 (by decide) fi_7_2 zl_165 zk_165 zr_165_2 ?_
      refine a_iload_n F dX7_planTwo_50 rfl rfl ?_
      refine a_iload F dX7_planTwo_51 rfl ?_
      refine a_callVV F (As := [.int x3, .int x4]) cfX1 rfl (c_X1_join X icl_166 x3 x4 q_2.2) mw_X1_join ml_X7_105 im_X1_join se_X1_join M0.2.1 (Nat.le_of_ble_eq_true rfl) ⟨Nat.zero_le _, Nat.zero_le _⟩ rfl rfl (Nat.le_of_ble_eq_true rfl) zl_166 zk_166 dX7_planTwo_53 rfl (fun S_3 => ?_)
      refine a_aload_n F dX7_planTwo_56 rfl rfl ?_
      refine a_iload_n F dX7_planTwo_57 rfl rfl ?_
      refine a_iload_n F dX7_planTwo_58 rfl rfl ?_
      refine a_iload_n F dX7_planTwo_59 rfl rfl ?_
      refine a_callVI F (As := [.int x1, .int x2, .int x3]) cfX7 rfl (c_X7_planSecond X x1 x2 x3 S_3) mw_X7_planSecond ml_X7_111 im_X7_planSecond se_X7_planSecond M0.2.1 (Nat.le_of_ble_eq_true rfl) ⟨Nat.zero_le _, Nat.zero_le _⟩ rfl rfl (Nat.le_of_ble_eq_true rfl) zl_165 zk_165 dX7_planTwo_60 rfl (fun q_4 => ?_)
      refine a_istore (L' := [some (.ref 165), some (.int x1), some (.int x2), some (.int x3), some (.int x4), some (.int q_4.1)]) F dX7_planTwo_63 (lt_b rfl) rfl ?_
      refine a_aload_n F dX7_planTwo_65 rfl rfl ?_
      refine a_getR (k := 2) F cfX7 dX7_planTwo_66 fl_X7_12 (by decide) fi_7_2 zl_165 zk_165 zr_165_2 ?_
      refine a_iload_n F dX7_planTwo_69 rfl rfl ?_
      refine a_iload F dX7_planTwo_70 rfl ?_
      refine a_callVV F (As := [.int x3, .int x4]) cfX1 rfl (c_X1_separate X icl_166 x3 x4 q_4.2) mw_X1_separate ml_X7_108 im_X1_separate se_X1_separate M0.2.1 (Nat.le_of_ble_eq_true rfl) ⟨Nat.zero_le _, Nat.zero_le _⟩ rfl rfl (Nat.le_of_ble_eq_true rfl) zl_166 zk_166 dX7_planTwo_72 rfl (fun S_5 => ?_)
      refine a_iload F dX7_planTwo_75 rfl ?_
      refine a_if_ne F 83 dX7_planTwo_77 (by decide) ?_ ?_
      · refine a_goto F 106 dX7_planTwo_80 (by decide) ?_
        refine a_mask [true, true, true, true, true, false] (L' := [some (.ref 165), some (.int x1), some (.int x2), some (.int x3), some (.int x4), none]) rfl rfl ?_
        exact b_X7_planTwo_106 M0 hk2 hk18 x1 x2 x3 x4 S_5
      · refine a_aload_n F dX7_planTwo_83 rfl rfl ?_
        refine a_getR (k := 4) F cfX7 dX7_planTwo_84 fl_X7_22 (by decide) fi_7_4 zl_165 zk_165 zr_165_4 ?_
        refine a_iconst F dX7_planTwo_87 ki_0 ?_
        refine a_iconst F dX7_planTwo_88 ki_2 ?_
        refine a_iastK F 0 dX7_planTwo_89 zl_183 zk_183 ib_0_5 ix_0 ?_
        refine a_nmS (fun S_6 => ?_)
        refine a_aload_n F dX7_planTwo_90 rfl rfl ?_
        refine a_getR (k := 4) F cfX7 dX7_planTwo_91 fl_X7_22 (by decide) fi_7_4 zl_165 zk_165 zr_165_4 ?_
        refine a_iconst F dX7_planTwo_94 ki_1 ?_
        refine a_iload_n F dX7_planTwo_95 rfl rfl ?_
        refine a_iastK F 1 dX7_planTwo_96 zl_183 zk_183 ib_1_5 ix_1 ?_
        refine a_nmS (fun S_7 => ?_)
        refine a_aload_n F dX7_planTwo_97 rfl rfl ?_
        refine a_getR (k := 4) F cfX7 dX7_planTwo_98 fl_X7_22 (by decide) fi_7_4 zl_165 zk_165 zr_165_4 ?_
        refine a_iconst F dX7_planTwo_101 ki_2 ?_
        refine a_iload F dX7_planTwo_102 rfl ?_
        refine a_iastK F 2 dX7_planTwo_104 zl_183 zk_183 ib_2_5 ix_2 ?_
        refine a_nmS (fun S_8 => ?_)
        exact a_vret F M0.2.2.1 M0.2.2.2 dX7_planTwo_105
def f_X7_planTwo_18 (k2 : Int32 → Int32 → Int32 → Mm → Option Mm) : Nat → Int32 → Int32 → Int32 → Int32 → Mm → Option Mm :=
  itr (fun _ _ _ _ _ => none) (fun k => f_X7_planTwo_18b k2 k)
theorem b_X7_planTwo_18 {X : CX} {E : FE} (M0 : MF X E RX7 cX7_planTwo 6 6 none) {k2 : Int32 → Int32 → Int32 → Mm → Option Mm} (hk2 : ∀ (x1 x2 x3 : Int32) (S : Mm), At X E false (mQv X Z1 E) 2 [some (.ref 165), some (.int x1), some (.int x2), some (.int x3), none, none] [] Z1 S 0 0 (k2 x1 x2 x3 S)) : ∀ (n : Nat) (x1 x2 x3 x4 : Int32) (S : Mm), At X E false (mQv X Z1 E) 18 [some (.ref 165), some (.int x1), some (.int x2), some (.int x3), some (.int x4), none] [] Z1 S 0 0 (f_X7_planTwo_18 k2 n x1 x2 x3 x4 S) := by
  intro n
  induction n with
  | zero => intros; exact a_none
  | succ n ih => intro x1 x2 x3 x4 S; exact b_X7_planTwo_18b M0 hk2 ih x1 x2 x3 x4 S
def f_X7_planTwo_2b (k2 : Int32 → Int32 → Int32 → Mm → Option Mm) (x1 x2 x3 : Int32) (S : Mm) : Option Mm :=
  if (S 166 3) ≤ x3 then (
   some S
  ) else (
   nm ((x3 + (1 : Int32))) fun x4_1 =>
   f_X7_planTwo_18 k2 FU x1 x2 x3 x4_1 S
  )
set_option maxRecDepth 20000 in
theorem b_X7_planTwo_2b {X : CX} {E : FE} (M0 : MF X E RX7 cX7_planTwo 6 6 none) {k2 : Int32 → Int32 → Int32 → Mm → Option Mm} (hk2 : ∀ (x1 x2 x3 : Int32) (S : Mm), At X E false (mQv X Z1 E) 2 [some (.ref 165), some (.int x1), some (.int x2), some (.int x3), none, none] [] Z1 S 0 0 (k2 x1 x2 x3 S)) (x1 x2 x3 : Int32) (S : Mm) : At X E false (mQv X Z1 E) 2 [some (.ref 165), some (.int x1), some (.int x2), some (.int x3), none, none] [] Z1 S 0 0 (f_X7_planTwo_2b k2 x1 x2 x3 S) := by
  have F := M0.1
  unfold f_X7_planTwo_2b
  refine a_iload_n F dX7_planTwo_2 rfl rfl ?_
  refine a_aload_n F dX7_planTwo_3 rfl rfl ?_
  refine a_getR (k := 2) F cfX7 dX7_planTwo_4 fl_X7_12 (by decide) fi_7_2 zl_165 zk_165 zr_165_2 ?_
  refine a_getI (k := 3) F cfX1 dX7_planTwo_7 fl_X7_43 (by decide) fi_1_3 zl_166 zk_166 ?_
  refine a_icmp_ge F 118 dX7_planTwo_10 (by decide) ?_ ?_
  · exact a_vret F M0.2.2.1 M0.2.2.2 dX7_planTwo_118
  · refine a_iload_n F dX7_planTwo_13 rfl rfl ?_
    refine a_iconst F dX7_planTwo_14 ki_1 ?_
    refine a_iadd F dX7_planTwo_15 ?_
    refine a_istoreN (L' := fun x4_1 => [some (.ref 165), some (.int x1), some (.int x2), some (.int x3), some (.int x4_1), none]) F dX7_planTwo_16 (lt_b rfl) (fun _ => rfl) (fun x4_1 => ?_)
    exact b_X7_planTwo_18 M0 hk2 FU x1 x2 x3 x4_1 S
def f_X7_planTwo_2 : Nat → Int32 → Int32 → Int32 → Mm → Option Mm :=
  itr (fun _ _ _ _ => none) (fun k => f_X7_planTwo_2b k)
theorem b_X7_planTwo_2 {X : CX} {E : FE} (M0 : MF X E RX7 cX7_planTwo 6 6 none) : ∀ (n : Nat) (x1 x2 x3 : Int32) (S : Mm), At X E false (mQv X Z1 E) 2 [some (.ref 165), some (.int x1), some (.int x2), some (.int x3), none, none] [] Z1 S 0 0 (f_X7_planTwo_2  n x1 x2 x3 S) := by
  intro n
  induction n with
  | zero => intros; exact a_none
  | succ n ih => intro x1 x2 x3 S; exact b_X7_planTwo_2b M0 ih x1 x2 x3 S
def f_X7_planTwo (p1 p2 : Int32) (S : Mm) : Option Mm :=
  f_X7_planTwo_2 FU p1 p2 (0 : Int32) S
set_option maxRecDepth 20000 in
theorem b_X7_planTwo {X : CX} {E : FE} (M0 : MF X E RX7 cX7_planTwo 6 6 none) (p1 p2 : Int32) (S : Mm) : At X E false (mQv X Z1 E) 0 [some (.ref 165), some (.int p1), some (.int p2), none, none, none] [] Z1 S 0 0 (f_X7_planTwo p1 p2 S) := by
  have F := M0.1
  unfold f_X7_planTwo
  refine a_iconst F dX7_planTwo_0 ki_0 ?_
  refine a_istore_n (L' := [some (.ref 165), some (.int p1), some (.int p2), some (.int (0 : Int32)), none, none]) F dX7_planTwo_1 rfl (lt_b rfl) rfl ?_
  exact b_X7_planTwo_2 M0 FU p1 p2 (0 : Int32) S
theorem c_X7_planTwo (X : CX) (p1 p2 : Int32) (S : Mm) : CtV X Z1 yX7_planTwo cX7_planTwo 6 6 [.ref 165, .int p1, .int p2] S (f_X7_planTwo p1 p2 S) :=
  ctV_of (by decide +kernel) rfl (Nat.le_of_ble_eq_true rfl) (by simp [Value.category]) z1len fun E F R hra hlk => b_X7_planTwo ⟨F, R, hra, hlk⟩ p1 p2 S
def f_X7_fewestWeddings_72 (x3 : Int32) (S : Mm) : Option (Int32 × Mm) :=
  gd (inB x3 5 = true) <|
  some ((S 183 (ix x3)), S)
set_option maxRecDepth 20000 in
theorem b_X7_fewestWeddings_72 {X : CX} {E : FE} (M0 : MF X E RX7 cX7_fewestWeddings 5 7 (some .int)) (x3 : Int32) (S : Mm) : At X E false (mQi X Z1 E) 72 [some (.ref 165), none, none, some (.int x3), none] [] Z1 S 0 0 (f_X7_fewestWeddings_72 x3 S) := by
  have F := M0.1
  unfold f_X7_fewestWeddings_72
  refine a_aload_n F dX7_fewestWeddings_72 rfl rfl ?_
  refine a_getR (k := 4) F cfX7 dX7_fewestWeddings_73 fl_X7_22 (by decide) fi_7_4 zl_165 zk_165 zr_165_4 ?_
  refine a_iload_n F dX7_fewestWeddings_76 rfl rfl ?_
  refine a_gd (a_iald F dX7_fewestWeddings_77 zl_183 zk_183 ?_)
  exact a_iret F M0.2.2.1 M0.2.2.2 dX7_fewestWeddings_78
def f_X7_fewestWeddings_3b (k3 : Int32 → Int32 → Int32 → Int32 → Mm → Option (Int32 × Mm)) (x1 x2 x3 x4 : Int32) (S : Mm) : Option (Int32 × Mm) :=
  if (5 : Int32) ≤ x4 then (
   (f_X1_become 166 1 S).bind fun S_1 =>
   (f_X7_isWritable x1 x2 S_1).bind fun q_2 =>
   if q_2.1 = 0 then (
    (f_X7_planOne x1 x2 q_2.2).bind fun q_3 =>
    if q_3.1 = 0 then (
     (f_X7_planTwo x1 x2 q_3.2).bind fun S_4 =>
     f_X7_fewestWeddings_72 x3 S_4
    ) else (
     f_X7_fewestWeddings_72 x3 q_3.2
    )
   ) else (
    nm (uM q_2.2 183 0 (0 : Int32)) fun S_5 =>
    f_X7_fewestWeddings_72 x3 S_5
   )
  ) else (
   gd (inB x4 5 = true) <|
   nm (uM S 183 (ix x4) (-1 : Int32)) fun S_6 =>
   nm (x4 + (1 : Int32)) fun x4_7 =>
   k3 x1 x2 x3 x4_7 S_6
  )
set_option maxRecDepth 20000 in
theorem b_X7_fewestWeddings_3b {X : CX} {E : FE} (M0 : MF X E RX7 cX7_fewestWeddings 5 7 (some .int)) {k3 : Int32 → Int32 → Int32 → Int32 → Mm → Option (Int32 × Mm)} (hk3 : ∀ (x1 x2 x3 x4 : Int32) (S : Mm), At X E false (mQi X Z1 E) 3 [some (.ref 165), some (.int x1), some (.int x2), some (.int x3), some (.int x4)] [] Z1 S 0 0 (k3 x1 x2 x3 x4 S)) (x1 x2 x3 x4 : Int32) (S : Mm) : At X E false (mQi X Z1 E) 3 [some (.ref 165), some (.int x1), some (.int x2), some (.int x3), some (.int x4)] [] Z1 S 0 0 (f_X7_fewestWeddings_3b k3 x1 x2 x3 x4 S) := by
  have F := M0.1
  unfold f_X7_fewestWeddings_3b
  refine a_iload F dX7_fewestWeddings_3 rfl ?_
  refine a_aload_n F dX7_fewestWeddings_5 rfl rfl ?_
  refine a_getR (k := 4) F cfX7 dX7_fewestWeddings_6 fl_X7_22 (by decide) fi_7_4 zl_165 zk_165 zr_165_4 ?_
  refine a_alen F dX7_fewestWeddings_9 zl_183 zk_183 kn_5 ?_
  refine a_icmp_ge F 27 dX7_fewestWeddings_10 (by decide) ?_ ?_
  · refine a_aload_n F dX7_fewestWeddings_27 rfl rfl ?_
    refine a_getR (k := 2) F cfX7 dX7_fewestWeddings_28 fl_X7_12 (by decide) fi_7_2 zl_165 zk_165 zr_165_2 ?_
    refine a_aload_n F dX7_fewestWeddings_31 rfl rfl ?_
    refine a_getR (k := 0) F cfX7 dX7_fewestWeddings_32 fl_X7_25 (by decide) fi_7_0 zl_165 zk_165 zr_165_0 ?_
    refine a_callVV F (As := [.ref 1]) cfX1 rfl (c_X1_become X icl_166 icl_1 S) mw_X1_become ml_X7_70 im_X1_become se_X1_become M0.2.1 (Nat.le_of_ble_eq_true rfl) ⟨Nat.zero_le _, Nat.zero_le _⟩ rfl rfl (Nat.le_of_ble_eq_true rfl) zl_166 zk_166 dX7_fewestWeddings_35 rfl (fun S_1 => ?_)
    refine a_aload_n F dX7_fewestWeddings_38 rfl rfl ?_
    refine a_iload_n F dX7_fewestWeddings_39 rfl rfl ?_
    refine a_iload_n F dX7_fewestWeddings_40 rfl rfl ?_
    refine a_callVI F (As := [.int x1, .int x2]) cfX7 rfl (c_X7_isWritable X x1 x2 S_1) mw_X7_isWritable ml_X7_91 im_X7_isWritable se_X7_isWritable M0.2.1 (Nat.le_of_ble_eq_true rfl) ⟨Nat.zero_le _, Nat.zero_le _⟩ rfl rfl (Nat.le_of_ble_eq_true rfl) zl_165 zk_165 dX7_fewestWeddings_41 rfl (fun q_2 => ?_)
    refine a_if_eq F 57 dX7_fewestWeddings_44 (by decide) ?_ ?_
    · refine a_aload_n F dX7_fewestWeddings_57 rfl rfl ?_
      refine a_iload_n F dX7_fewestWeddings_58 rfl rfl ?_
      refine a_iload_n F dX7_fewestWeddings_59 rfl rfl ?_
      refine a_callVI F (As := [.int x1, .int x2]) cfX7 rfl (c_X7_planOne X x1 x2 q_2.2) mw_X7_planOne ml_X7_95 im_X7_planOne se_X7_planOne M0.2.1 (Nat.le_of_ble_eq_true rfl) ⟨Nat.zero_le _, Nat.zero_le _⟩ rfl rfl (Nat.le_of_ble_eq_true rfl) zl_165 zk_165 dX7_fewestWeddings_60 rfl (fun q_3 => ?_)
      refine a_if_ne F 72 dX7_fewestWeddings_63 (by decide) ?_ ?_
      · refine a_aload_n F dX7_fewestWeddings_66 rfl rfl ?_
        refine a_iload_n F dX7_fewestWeddings_67 rfl rfl ?_
        refine a_iload_n F dX7_fewestWeddings_68 rfl rfl ?_
        refine a_callVV F (As := [.int x1, .int x2]) cfX7 rfl (c_X7_planTwo X x1 x2 q_3.2) mw_X7_planTwo ml_X7_98 im_X7_planTwo se_X7_planTwo M0.2.1 (Nat.le_of_ble_eq_true rfl) ⟨Nat.zero_le _, Nat.zero_le _⟩ rfl rfl (Nat.le_of_ble_eq_true rfl) zl_165 zk_165 dX7_fewestWeddings_69 rfl (fun S_4 => ?_)
        refine a_mask [true, false, false, true, false] (L' := [some (.ref 165), none, none, some (.int x3), none]) rfl rfl ?_
        exact b_X7_fewestWeddings_72 M0 x3 S_4
      · refine a_mask [true, false, false, true, false] (L' := [some (.ref 165), none, none, some (.int x3), none]) rfl rfl ?_
        exact b_X7_fewestWeddings_72 M0 x3 q_3.2
    · refine a_aload_n F dX7_fewestWeddings_47 rfl rfl ?_
      refine a_getR (k := 4) F cfX7 dX7_fewestWeddings_48 fl_X7_22 (by decide) fi_7_4 zl_165 zk_165 zr_165_4 ?_
      refine a_iconst F dX7_fewestWeddings_51 ki_0 ?_
      refine a_iconst F dX7_fewestWeddings_52 ki_0 ?_
      refine a_iastK F 0 dX7_fewestWeddings_53 zl_183 zk_183 ib_0_5 ix_0 ?_
      refine a_nmS (fun S_5 => ?_)
      refine a_goto F 72 dX7_fewestWeddings_54 (by decide) ?_
      refine a_mask [true, false, false, true, false] (L' := [some (.ref 165), none, none, some (.int x3), none]) rfl rfl ?_
      exact b_X7_fewestWeddings_72 M0 x3 S_5
  · refine a_aload_n F dX7_fewestWeddings_13 rfl rfl ?_
    refine a_getR (k := 4) F cfX7 dX7_fewestWeddings_14 fl_X7_22 (by decide) fi_7_4 zl_165 zk_165 zr_165_4 ?_
    refine a_iload F dX7_fewestWeddings_17 rfl ?_
    refine a_iconst F dX7_fewestWeddings_19 ki_m1 ?_
    refine a_gd (a_iast F dX7_fewestWeddings_20 zl_183 zk_183 ?_)
    refine a_nmS (fun S_6 => ?_)
    refine a_iincN (L' := fun x4_7 => [some (.ref 165), some (.int x1), some (.int x2), some (.int x3), some (.int x4_7)]) F dX7_fewestWeddings_21 rfl ki_1 (lt_b rfl) (fun _ => rfl) (fun x4_7 => ?_)
    refine a_goto F 3 dX7_fewestWeddings_24 (by decide) ?_
    exact hk3 x1 x2 x3 x4_7 S_6
def f_X7_fewestWeddings_3 : Nat → Int32 → Int32 → Int32 → Int32 → Mm → Option (Int32 × Mm) :=
  itr (fun _ _ _ _ _ => none) (fun k => f_X7_fewestWeddings_3b k)
theorem b_X7_fewestWeddings_3 {X : CX} {E : FE} (M0 : MF X E RX7 cX7_fewestWeddings 5 7 (some .int)) : ∀ (n : Nat) (x1 x2 x3 x4 : Int32) (S : Mm), At X E false (mQi X Z1 E) 3 [some (.ref 165), some (.int x1), some (.int x2), some (.int x3), some (.int x4)] [] Z1 S 0 0 (f_X7_fewestWeddings_3  n x1 x2 x3 x4 S) := by
  intro n
  induction n with
  | zero => intros; exact a_none
  | succ n ih => intro x1 x2 x3 x4 S; exact b_X7_fewestWeddings_3b M0 ih x1 x2 x3 x4 S
def f_X7_fewestWeddings (p1 p2 p3 : Int32) (S : Mm) : Option (Int32 × Mm) :=
  f_X7_fewestWeddings_3 FU p1 p2 p3 (0 : Int32) S
set_option maxRecDepth 20000 in
theorem b_X7_fewestWeddings {X : CX} {E : FE} (M0 : MF X E RX7 cX7_fewestWeddings 5 7 (some .int)) (p1 p2 p3 : Int32) (S : Mm) : At X E false (mQi X Z1 E) 0 [some (.ref 165), some (.int p1), some (.int p2), some (.int p3), none] [] Z1 S 0 0 (f_X7_fewestWeddings p1 p2 p3 S) := by
  have F := M0.1
  unfold f_X7_fewestWeddings
  refine a_iconst F dX7_fewestWeddings_0 ki_0 ?_
  refine a_istore (L' := [some (.ref 165), some (.int p1), some (.int p2), some (.int p3), some (.int (0 : Int32))]) F dX7_fewestWeddings_1 (lt_b rfl) rfl ?_
  exact b_X7_fewestWeddings_3 M0 FU p1 p2 p3 (0 : Int32) S
theorem c_X7_fewestWeddings (X : CX) (p1 p2 p3 : Int32) (S : Mm) : CtI X Z1 yX7_fewestWeddings cX7_fewestWeddings 5 (some .int) 7 [.ref 165, .int p1, .int p2, .int p3] S (f_X7_fewestWeddings p1 p2 p3 S) :=
  ctI_of (by decide +kernel) rfl (Nat.le_of_ble_eq_true rfl) (by simp [Value.category]) z1len fun E F R hra hlk => b_X7_fewestWeddings ⟨F, R, hra, hlk⟩ p1 p2 p3 S
def f_X10_weddings (p1 p2 p3 : Int32) (S : Mm) : Option (Int32 × Mm) :=
  (f_X1_lives 1 p1 S).bind fun q_1 =>
  if q_1.1 = 0 then (
   some ((-1 : Int32), q_1.2)
  ) else (
   (f_X10_isDeed p2 q_1.2).bind fun q_2 =>
   if q_2.1 = 0 then (
    some ((-1 : Int32), q_2.2)
   ) else (
    if p3 < 0 then (
     some ((-1 : Int32), q_2.2)
    ) else (
     if p3 ≤ (4 : Int32) then (
      gd (inB p2 8 = true) <|
      (f_X7_fewestWeddings p1 (q_2.2 31 (ix p2)) p3 q_2.2).bind fun q_3 =>
      some (q_3.1, q_3.2)
     ) else (
      some ((-1 : Int32), q_2.2)
     )
    )
   )
  )
set_option maxRecDepth 20000 in
theorem b_X10_weddings {X : CX} {E : FE} (M0 : MF X E RX10 cX10_weddings 4 8 (some .int)) (p1 p2 p3 : Int32) (S : Mm) : At X E false (mQi X Z1 E) 0 [some (.ref 0), some (.int p1), some (.int p2), some (.int p3)] [] Z1 S 0 0 (f_X10_weddings p1 p2 p3 S) := by
  have F := M0.1
  unfold f_X10_weddings
  refine a_aload_n F dX10_weddings_0 rfl rfl ?_
  refine a_getR (k := 0) F cfX10 dX10_weddings_1 fl_X10_12 (by decide) fi_10_0 zl_0 zk_0 zr_0_0 ?_
  refine a_iload_n F dX10_weddings_4 rfl rfl ?_
  refine a_callVI F (As := [.int p1]) cfX1 rfl (c_X1_lives X icl_1 p1 S) mw_X1_lives ml_X10_104 im_X1_lives se_X1_lives M0.2.1 (Nat.le_of_ble_eq_true rfl) ⟨Nat.zero_le _, Nat.zero_le _⟩ rfl rfl (Nat.le_of_ble_eq_true rfl) zl_1 zk_1 dX10_weddings_5 rfl (fun q_1 => ?_)
  refine a_if_eq F 28 dX10_weddings_8 (by decide) ?_ ?_
  · refine a_iconst F dX10_weddings_28 ki_m1 ?_
    exact a_iret F M0.2.2.1 M0.2.2.2 dX10_weddings_29
  · refine a_aload_n F dX10_weddings_11 rfl rfl ?_
    refine a_iload_n F dX10_weddings_12 rfl rfl ?_
    refine a_callVI F (As := [.int p2]) cfX10 rfl (c_X10_isDeed X p2 q_1.2) mw_X10_isDeed ml_X10_205 im_X10_isDeed se_X10_isDeed M0.2.1 (Nat.le_of_ble_eq_true rfl) ⟨Nat.zero_le _, Nat.zero_le _⟩ rfl rfl (Nat.le_of_ble_eq_true rfl) zl_0 zk_0 dX10_weddings_13 rfl (fun q_2 => ?_)
    refine a_if_eq F 28 dX10_weddings_16 (by decide) ?_ ?_
    · refine a_iconst F dX10_weddings_28 ki_m1 ?_
      exact a_iret F M0.2.2.1 M0.2.2.2 dX10_weddings_29
    · refine a_iload_n F dX10_weddings_19 rfl rfl ?_
      refine a_if_lt F 28 dX10_weddings_20 (by decide) ?_ ?_
      · refine a_iconst F dX10_weddings_28 ki_m1 ?_
        exact a_iret F M0.2.2.1 M0.2.2.2 dX10_weddings_29
      · refine a_iload_n F dX10_weddings_23 rfl rfl ?_
        refine a_iconst F dX10_weddings_24 ki_4 ?_
        refine a_icmp_le F 30 dX10_weddings_25 (by decide) ?_ ?_
        · refine a_aload_n F dX10_weddings_30 rfl rfl ?_
          refine a_getR (k := 4) F cfX10 dX10_weddings_31 fl_X10_42 (by decide) fi_10_4 zl_0 zk_0 zr_0_4 ?_
          refine a_iload_n F dX10_weddings_34 rfl rfl ?_
          refine a_aload_n F dX10_weddings_35 rfl rfl ?_
          refine a_getR (k := 1) F cfX10 dX10_weddings_36 fl_X10_19 (by decide) fi_10_1 zl_0 zk_0 zr_0_1 ?_
          refine a_getR (k := 8) F cfX6 dX10_weddings_39 fl_X10_217 (by decide) fi_6_8 zl_17 zk_17 zr_17_8 ?_
          refine a_iload_n F dX10_weddings_42 rfl rfl ?_
          refine a_gd (a_iald F dX10_weddings_43 zl_31 zk_31 ?_)
          refine a_iload_n F dX10_weddings_44 rfl rfl ?_
          refine a_callVI F (As := [.int p1, .int (q_2.2 31 (ix p2)), .int p3]) cfX7 rfl (c_X7_fewestWeddings X p1 (q_2.2 31 (ix p2)) p3 q_2.2) mw_X7_fewestWeddings ml_X10_292 im_X7_fewestWeddings se_X7_fewestWeddings M0.2.1 (Nat.le_of_ble_eq_true rfl) ⟨Nat.zero_le _, Nat.zero_le _⟩ rfl rfl (Nat.le_of_ble_eq_true rfl) zl_165 zk_165 dX10_weddings_45 rfl (fun q_3 => ?_)
          exact a_iret F M0.2.2.1 M0.2.2.2 dX10_weddings_48
        · refine a_iconst F dX10_weddings_28 ki_m1 ?_
          exact a_iret F M0.2.2.1 M0.2.2.2 dX10_weddings_29
theorem c_X10_weddings (X : CX) (p1 p2 p3 : Int32) (S : Mm) : CtI X Z1 yX10_weddings cX10_weddings 4 (some .int) 8 [.ref 0, .int p1, .int p2, .int p3] S (f_X10_weddings p1 p2 p3 S) :=
  ctI_of (by decide +kernel) rfl (Nat.le_of_ble_eq_true rfl) (by simp [Value.category]) z1len fun E F R hra hlk => b_X10_weddings ⟨F, R, hra, hlk⟩ p1 p2 p3 S
def f_X1_endDay_17_n_178 (k63 : Int32 → Int32 → Int32 → Mm → Option (Int32 × Mm)) (r0 : Nat) (x3 x4 x5 : Int32) (S : Mm) : Option (Int32 × Mm) :=
  nm (x5 + (1 : Int32)) fun x5_1 =>
  k63 x3 x4 x5_1 S
set_option maxRecDepth 20000 in
theorem b_X1_endDay_17_n_178 {X : CX} {E : FE} (M0 : MF X E RX1 cX1_endDay 7 6 (some .int)) {r0 : Nat} (h0 : isClan r0) {k63 : Int32 → Int32 → Int32 → Mm → Option (Int32 × Mm)} (hk63 : ∀ (x3 x4 x5 : Int32) (S : Mm), At X E false (mQi X Z1 E) 63 [some (.ref r0), some (.ref 17), some (.null), some (.int x3), some (.int x4), some (.int x5), none] [] Z1 S 0 0 (k63 x3 x4 x5 S)) (x3 x4 x5 : Int32) (S : Mm) : At X E false (mQi X Z1 E) 178 [some (.ref r0), some (.ref 17), some (.null), some (.int x3), some (.int x4), some (.int x5), none] [] Z1 S 0 0 (f_X1_endDay_17_n_178 k63 r0 x3 x4 x5 S) := by
  have F := M0.1
  unfold f_X1_endDay_17_n_178
  refine a_iincN (L' := fun x5_1 => [some (.ref r0), some (.ref 17), some (.null), some (.int x3), some (.int x4), some (.int x5_1), none]) F dX1_endDay_178 rfl ki_1 (lt_b rfl) (fun _ => rfl) (fun x5_1 => ?_)
  refine a_goto F 63 dX1_endDay_181 (by decide) ?_
  exact hk63 x3 x4 x5_1 S
def f_X1_endDay_17_n_148 (k63 : Int32 → Int32 → Int32 → Mm → Option (Int32 × Mm)) (r0 : Nat) (x3 x4 x5 x6 : Int32) (S : Mm) : Option (Int32 × Mm) :=
  if x6 = 0 then (
   f_X1_endDay_17_n_178 k63 r0 x3 x4 x5 S
  ) else (
   gd (inB x5 12 = true) <|
   nm (uM S (r0 + 4) (ix x5) (S r0 1)) fun S_1 =>
   (f_X1_die_17_n r0 x5 S_1).bind fun S_2 =>
   nm (x4 + (1 : Int32)) fun x4_3 =>
   f_X1_endDay_17_n_178 k63 r0 x3 x4_3 x5 S_2
  )
set_option maxRecDepth 20000 in
theorem b_X1_endDay_17_n_148 {X : CX} {E : FE} (M0 : MF X E RX1 cX1_endDay 7 6 (some .int)) {r0 : Nat} (h0 : isClan r0) {k63 : Int32 → Int32 → Int32 → Mm → Option (Int32 × Mm)} (hk63 : ∀ (x3 x4 x5 : Int32) (S : Mm), At X E false (mQi X Z1 E) 63 [some (.ref r0), some (.ref 17), some (.null), some (.int x3), some (.int x4), some (.int x5), none] [] Z1 S 0 0 (k63 x3 x4 x5 S)) (x3 x4 x5 x6 : Int32) (S : Mm) : At X E false (mQi X Z1 E) 148 [some (.ref r0), some (.ref 17), some (.null), some (.int x3), some (.int x4), some (.int x5), some (.int x6)] [] Z1 S 0 0 (f_X1_endDay_17_n_148 k63 r0 x3 x4 x5 x6 S) := by
  have F := M0.1
  unfold f_X1_endDay_17_n_148
  refine a_iload F dX1_endDay_148 rfl ?_
  refine a_if_ne F 156 dX1_endDay_150 (by decide) ?_ ?_
  · refine a_goto F 178 dX1_endDay_153 (by decide) ?_
    refine a_mask [true, true, true, true, true, true, false] (L' := [some (.ref r0), some (.ref 17), some (.null), some (.int x3), some (.int x4), some (.int x5), none]) rfl rfl ?_
    exact b_X1_endDay_17_n_178 M0 h0 hk63 x3 x4 x5 S
  · refine a_aload_n F dX1_endDay_156 rfl rfl ?_
    refine a_getR (k := 8) F cfX1 dX1_endDay_157 fl_X1_37 (by decide) fi_1_8 (zcl_0 h0) (zck_0 h0) (zcr_8 h0) ?_
    refine a_iload F dX1_endDay_160 rfl ?_
    refine a_aload_n F dX1_endDay_162 rfl rfl ?_
    refine a_getI (k := 1) F cfX1 dX1_endDay_163 fl_X1_15 (by decide) fi_1_1 (zcl_0 h0) (zck_0 h0) ?_
    refine a_gd (a_iast F dX1_endDay_166 (zcl_4 h0) (zck_4 h0) ?_)
    refine a_nmS (fun S_1 => ?_)
    refine a_aload_n F dX1_endDay_167 rfl rfl ?_
    refine a_iload F dX1_endDay_168 rfl ?_
    refine a_aload_n F dX1_endDay_170 rfl rfl ?_
    refine a_aload_nN F dX1_endDay_171 rfl rfl ?_
    refine a_callVV F (As := [.int x5, .ref 17, .null]) cfX1 rfl (c_X1_die_17_n X h0 x5 S_1) mw_X1_die ml_X1_117 im_X1_die se_X1_die M0.2.1 (Nat.le_of_ble_eq_true rfl) ⟨Nat.zero_le _, Nat.zero_le _⟩ rfl rfl (Nat.le_of_ble_eq_true rfl) (zcl_0 h0) (zck_0 h0) dX1_endDay_172 rfl (fun S_2 => ?_)
    refine a_iincN (L' := fun x4_3 => [some (.ref r0), some (.ref 17), some (.null), some (.int x3), some (.int x4_3), some (.int x5), some (.int x6)]) F dX1_endDay_175 rfl ki_1 (lt_b rfl) (fun _ => rfl) (fun x4_3 => ?_)
    refine a_mask [true, true, true, true, true, true, false] (L' := [some (.ref r0), some (.ref 17), some (.null), some (.int x3), some (.int x4_3), some (.int x5), none]) rfl rfl ?_
    exact b_X1_endDay_17_n_178 M0 h0 hk63 x3 x4_3 x5 S_2
def f_X1_endDay_17_n_146 (k63 : Int32 → Int32 → Int32 → Mm → Option (Int32 × Mm)) (r0 : Nat) (x3 x4 x5 t0 : Int32) (S : Mm) : Option (Int32 × Mm) :=
  f_X1_endDay_17_n_148 k63 r0 x3 x4 x5 t0 S
set_option maxRecDepth 20000 in
theorem b_X1_endDay_17_n_146 {X : CX} {E : FE} (M0 : MF X E RX1 cX1_endDay 7 6 (some .int)) {r0 : Nat} (h0 : isClan r0) {k63 : Int32 → Int32 → Int32 → Mm → Option (Int32 × Mm)} (hk63 : ∀ (x3 x4 x5 : Int32) (S : Mm), At X E false (mQi X Z1 E) 63 [some (.ref r0), some (.ref 17), some (.null), some (.int x3), some (.int x4), some (.int x5), none] [] Z1 S 0 0 (k63 x3 x4 x5 S)) (x3 x4 x5 t0 : Int32) (S : Mm) : At X E false (mQi X Z1 E) 146 [some (.ref r0), some (.ref 17), some (.null), some (.int x3), some (.int x4), some (.int x5), none] [.int t0] Z1 S 0 0 (f_X1_endDay_17_n_146 k63 r0 x3 x4 x5 t0 S) := by
  have F := M0.1
  unfold f_X1_endDay_17_n_146
  refine a_istore (L' := [some (.ref r0), some (.ref 17), some (.null), some (.int x3), some (.int x4), some (.int x5), some (.int t0)]) F dX1_endDay_146 (lt_b rfl) rfl ?_
  exact b_X1_endDay_17_n_148 M0 h0 hk63 x3 x4 x5 t0 S
def f_X1_endDay_17_n_103 (k63 : Int32 → Int32 → Int32 → Mm → Option (Int32 × Mm)) (r0 : Nat) (x3 x4 x5 t0 : Int32) (S : Mm) : Option (Int32 × Mm) :=
  if t0 = 0 then (
   if x3 = 0 then (
    f_X1_endDay_17_n_148 k63 r0 x3 x4 x5 t0 S
   ) else (
    gd (inB x5 12 = true) <|
    if (S (r0 + 5) (ix x5)) ≤ 0 then (
     f_X1_endDay_17_n_148 k63 r0 x3 x4 x5 t0 S
    ) else (
     (f_X1_draw r0 (10000 : Int32) S).bind fun q_1 =>
     gd (inB x5 12 = true) <|
     if (q_1.2 (r0 + 5) (ix x5)) ≤ q_1.1 then (
      f_X1_endDay_17_n_146 k63 r0 x3 x4 x5 (0 : Int32) q_1.2
     ) else (
      f_X1_endDay_17_n_146 k63 r0 x3 x4 x5 (1 : Int32) q_1.2
     )
    )
   )
  ) else (
   f_X1_endDay_17_n_148 k63 r0 x3 x4 x5 t0 S
  )
set_option maxRecDepth 20000 in
theorem b_X1_endDay_17_n_103 {X : CX} {E : FE} (M0 : MF X E RX1 cX1_endDay 7 6 (some .int)) {r0 : Nat} (h0 : isClan r0) {k63 : Int32 → Int32 → Int32 → Mm → Option (Int32 × Mm)} (hk63 : ∀ (x3 x4 x5 : Int32) (S : Mm), At X E false (mQi X Z1 E) 63 [some (.ref r0), some (.ref 17), some (.null), some (.int x3), some (.int x4), some (.int x5), none] [] Z1 S 0 0 (k63 x3 x4 x5 S)) (x3 x4 x5 t0 : Int32) (S : Mm) : At X E false (mQi X Z1 E) 103 [some (.ref r0), some (.ref 17), some (.null), some (.int x3), some (.int x4), some (.int x5), none] [.int t0] Z1 S 0 0 (f_X1_endDay_17_n_103 k63 r0 x3 x4 x5 t0 S) := by
  have F := M0.1
  unfold f_X1_endDay_17_n_103
  refine a_istore (L' := [some (.ref r0), some (.ref 17), some (.null), some (.int x3), some (.int x4), some (.int x5), some (.int t0)]) F dX1_endDay_103 (lt_b rfl) rfl ?_
  refine a_iload F dX1_endDay_105 rfl ?_
  refine a_if_ne F 148 dX1_endDay_107 (by decide) ?_ ?_
  · refine a_iload_n F dX1_endDay_110 rfl rfl ?_
    refine a_if_eq F 148 dX1_endDay_111 (by decide) ?_ ?_
    · exact b_X1_endDay_17_n_148 M0 h0 hk63 x3 x4 x5 t0 S
    · refine a_aload_n F dX1_endDay_114 rfl rfl ?_
      refine a_getR (k := 9) F cfX1 dX1_endDay_115 fl_X1_40 (by decide) fi_1_9 (zcl_0 h0) (zck_0 h0) (zcr_9 h0) ?_
      refine a_iload F dX1_endDay_118 rfl ?_
      refine a_gd (a_iald F dX1_endDay_120 (zcl_5 h0) (zck_5 h0) ?_)
      refine a_if_le F 148 dX1_endDay_121 (by decide) ?_ ?_
      · exact b_X1_endDay_17_n_148 M0 h0 hk63 x3 x4 x5 t0 S
      · refine a_aload_n F dX1_endDay_124 rfl rfl ?_
        refine a_sipush F dX1_endDay_125 ks_10000 ?_
        refine a_callVI F (As := [.int (10000 : Int32)]) cfX1 rfl (c_X1_draw X h0 (10000 : Int32) S) mw_X1_draw ml_X1_113 im_X1_draw se_X1_draw M0.2.1 (Nat.le_of_ble_eq_true rfl) ⟨Nat.zero_le _, Nat.zero_le _⟩ rfl rfl (Nat.le_of_ble_eq_true rfl) (zcl_0 h0) (zck_0 h0) dX1_endDay_128 rfl (fun q_1 => ?_)
        refine a_aload_n F dX1_endDay_131 rfl rfl ?_
        refine a_getR (k := 9) F cfX1 dX1_endDay_132 fl_X1_40 (by decide) fi_1_9 (zcl_0 h0) (zck_0 h0) (zcr_9 h0) ?_
        refine a_iload F dX1_endDay_135 rfl ?_
        refine a_gd (a_iald F dX1_endDay_137 (zcl_5 h0) (zck_5 h0) ?_)
        refine a_icmp_ge F 145 dX1_endDay_138 (by decide) ?_ ?_
        · refine a_iconst F dX1_endDay_145 ki_0 ?_
          refine a_mask [true, true, true, true, true, true, false] (L' := [some (.ref r0), some (.ref 17), some (.null), some (.int x3), some (.int x4), some (.int x5), none]) rfl rfl ?_
          exact b_X1_endDay_17_n_146 M0 h0 hk63 x3 x4 x5 (0 : Int32) q_1.2
        · refine a_iconst F dX1_endDay_141 ki_1 ?_
          refine a_goto F 146 dX1_endDay_142 (by decide) ?_
          refine a_mask [true, true, true, true, true, true, false] (L' := [some (.ref r0), some (.ref 17), some (.null), some (.int x3), some (.int x4), some (.int x5), none]) rfl rfl ?_
          exact b_X1_endDay_17_n_146 M0 h0 hk63 x3 x4 x5 (1 : Int32) q_1.2
  · exact b_X1_endDay_17_n_148 M0 h0 hk63 x3 x4 x5 t0 S
def f_X1_endDay_17_n_63b (k63 : Int32 → Int32 → Int32 → Mm → Option (Int32 × Mm)) (r0 : Nat) (x3 x4 x5 : Int32) (S : Mm) : Option (Int32 × Mm) :=
  if (S r0 3) ≤ x5 then (
   some (x4, S)
  ) else (
   (f_X1_lives r0 x5 S).bind fun q_1 =>
   if q_1.1 = 0 then (
    f_X1_endDay_17_n_178 k63 r0 x3 x4 x5 q_1.2
   ) else (
    gd (inB x5 12 = true) <|
    if (q_1.2 (r0 + 4) (ix x5)) = (q_1.2 r0 1) then (
     f_X1_endDay_17_n_103 k63 r0 x3 x4 x5 (1 : Int32) q_1.2
    ) else (
     f_X1_endDay_17_n_103 k63 r0 x3 x4 x5 (0 : Int32) q_1.2
    )
   )
  )
set_option maxRecDepth 20000 in
theorem b_X1_endDay_17_n_63b {X : CX} {E : FE} (M0 : MF X E RX1 cX1_endDay 7 6 (some .int)) {r0 : Nat} (h0 : isClan r0) {k63 : Int32 → Int32 → Int32 → Mm → Option (Int32 × Mm)} (hk63 : ∀ (x3 x4 x5 : Int32) (S : Mm), At X E false (mQi X Z1 E) 63 [some (.ref r0), some (.ref 17), some (.null), some (.int x3), some (.int x4), some (.int x5), none] [] Z1 S 0 0 (k63 x3 x4 x5 S)) (x3 x4 x5 : Int32) (S : Mm) : At X E false (mQi X Z1 E) 63 [some (.ref r0), some (.ref 17), some (.null), some (.int x3), some (.int x4), some (.int x5), none] [] Z1 S 0 0 (f_X1_endDay_17_n_63b k63 r0 x3 x4 x5 S) := by
  have F := M0.1
  unfold f_X1_endDay_17_n_63b
  refine a_iload F dX1_endDay_63 rfl ?_
  refine a_aload_n F dX1_endDay_65 rfl rfl ?_
  refine a_getI (k := 3) F cfX1 dX1_endDay_66 fl_X1_21 (by decide) fi_1_3 (zcl_0 h0) (zck_0 h0) ?_
  refine a_icmp_ge F 184 dX1_endDay_69 (by decide) ?_ ?_
  · refine a_iload F dX1_endDay_184 rfl ?_
    exact a_iret F M0.2.2.1 M0.2.2.2 dX1_endDay_186
  · refine a_aload_n F dX1_endDay_72 rfl rfl ?_
    refine a_iload F dX1_endDay_73 rfl ?_
    refine a_callVI F (As := [.int x5]) cfX1 rfl (c_X1_lives X h0 x5 S) mw_X1_lives ml_X1_87 im_X1_lives se_X1_lives M0.2.1 (Nat.le_of_ble_eq_true rfl) ⟨Nat.zero_le _, Nat.zero_le _⟩ rfl rfl (Nat.le_of_ble_eq_true rfl) (zcl_0 h0) (zck_0 h0) dX1_endDay_75 rfl (fun q_1 => ?_)
    refine a_if_ne F 84 dX1_endDay_78 (by decide) ?_ ?_
    · refine a_goto F 178 dX1_endDay_81 (by decide) ?_
      exact b_X1_endDay_17_n_178 M0 h0 hk63 x3 x4 x5 q_1.2
    · refine a_aload_n F dX1_endDay_84 rfl rfl ?_
      refine a_getR (k := 8) F cfX1 dX1_endDay_85 fl_X1_37 (by decide) fi_1_8 (zcl_0 h0) (zck_0 h0) (zcr_8 h0) ?_
      refine a_iload F dX1_endDay_88 rfl ?_
      refine a_gd (a_iald F dX1_endDay_90 (zcl_4 h0) (zck_4 h0) ?_)
      refine a_aload_n F dX1_endDay_91 rfl rfl ?_
      refine a_getI (k := 1) F cfX1 dX1_endDay_92 fl_X1_15 (by decide) fi_1_1 (zcl_0 h0) (zck_0 h0) ?_
      refine a_icmp_ne F 102 dX1_endDay_95 (by decide) ?_ ?_
      · refine a_iconst F dX1_endDay_98 ki_1 ?_
        refine a_goto F 103 dX1_endDay_99 (by decide) ?_
        exact b_X1_endDay_17_n_103 M0 h0 hk63 x3 x4 x5 (1 : Int32) q_1.2
      · refine a_iconst F dX1_endDay_102 ki_0 ?_
        exact b_X1_endDay_17_n_103 M0 h0 hk63 x3 x4 x5 (0 : Int32) q_1.2
def f_X1_endDay_17_n_63 (r0 : Nat) : Nat → Int32 → Int32 → Int32 → Mm → Option (Int32 × Mm) :=
  itr (fun _ _ _ _ => none) (fun k => f_X1_endDay_17_n_63b k r0)
theorem b_X1_endDay_17_n_63 {X : CX} {E : FE} (M0 : MF X E RX1 cX1_endDay 7 6 (some .int)) {r0 : Nat} (h0 : isClan r0) : ∀ (n : Nat) (x3 x4 x5 : Int32) (S : Mm), At X E false (mQi X Z1 E) 63 [some (.ref r0), some (.ref 17), some (.null), some (.int x3), some (.int x4), some (.int x5), none] [] Z1 S 0 0 (f_X1_endDay_17_n_63 r0 n x3 x4 x5 S) := by
  intro n
  induction n with
  | zero => intros; exact a_none
  | succ n ih => intro x3 x4 x5 S; exact b_X1_endDay_17_n_63b M0 h0 ih x3 x4 x5 S
def f_X1_endDay_17_n_51 (k13 : Int32 → Int32 → Mm → Option (Int32 × Mm)) (r0 : Nat) (x3 x4 : Int32) (S : Mm) : Option (Int32 × Mm) :=
  nm (x4 + (1 : Int32)) fun x4_1 =>
  k13 x3 x4_1 S
set_option maxRecDepth 20000 in
theorem b_X1_endDay_17_n_51 {X : CX} {E : FE} (M0 : MF X E RX1 cX1_endDay 7 6 (some .int)) {r0 : Nat} (h0 : isClan r0) {k13 : Int32 → Int32 → Mm → Option (Int32 × Mm)} (hk13 : ∀ (x3 x4 : Int32) (S : Mm), At X E false (mQi X Z1 E) 13 [some (.ref r0), some (.ref 17), some (.null), some (.int x3), some (.int x4), none, none] [] Z1 S 0 0 (k13 x3 x4 S)) (x3 x4 : Int32) (S : Mm) : At X E false (mQi X Z1 E) 51 [some (.ref r0), some (.ref 17), some (.null), some (.int x3), some (.int x4), none, none] [] Z1 S 0 0 (f_X1_endDay_17_n_51 k13 r0 x3 x4 S) := by
  have F := M0.1
  unfold f_X1_endDay_17_n_51
  refine a_iincN (L' := fun x4_1 => [some (.ref r0), some (.ref 17), some (.null), some (.int x3), some (.int x4_1), none, none]) F dX1_endDay_51 rfl ki_1 (lt_b rfl) (fun _ => rfl) (fun x4_1 => ?_)
  refine a_goto F 13 dX1_endDay_54 (by decide) ?_
  exact hk13 x3 x4_1 S
def f_X1_endDay_17_n_13b (k13 : Int32 → Int32 → Mm → Option (Int32 × Mm)) (r0 : Nat) (x3 x4 : Int32) (S : Mm) : Option (Int32 × Mm) :=
  if (28 : Int32) ≤ x4 then (
   f_X1_endDay_17_n_63 r0 FU x3 (0 : Int32) (0 : Int32) S
  ) else (
   gd (inB x4 28 = true) <|
   if (S (r0 + 11) (ix x4)) = (-1 : Int32) then (
    f_X1_endDay_17_n_51 k13 r0 x3 x4 S
   ) else (
    gd (inB x4 28 = true) <|
    if (S r0 1) ≤ (S (r0 + 12) (ix x4)) then (
     f_X1_endDay_17_n_51 k13 r0 x3 x4 S
    ) else (
     (f_X1_endLoan r0 x4 S).bind fun S_1 =>
     f_X1_endDay_17_n_51 k13 r0 x3 x4 S_1
    )
   )
  )
set_option maxRecDepth 20000 in
theorem b_X1_endDay_17_n_13b {X : CX} {E : FE} (M0 : MF X E RX1 cX1_endDay 7 6 (some .int)) {r0 : Nat} (h0 : isClan r0) {k13 : Int32 → Int32 → Mm → Option (Int32 × Mm)} (hk13 : ∀ (x3 x4 : Int32) (S : Mm), At X E false (mQi X Z1 E) 13 [some (.ref r0), some (.ref 17), some (.null), some (.int x3), some (.int x4), none, none] [] Z1 S 0 0 (k13 x3 x4 S)) (x3 x4 : Int32) (S : Mm) : At X E false (mQi X Z1 E) 13 [some (.ref r0), some (.ref 17), some (.null), some (.int x3), some (.int x4), none, none] [] Z1 S 0 0 (f_X1_endDay_17_n_13b k13 r0 x3 x4 S) := by
  have F := M0.1
  unfold f_X1_endDay_17_n_13b
  refine a_iload F dX1_endDay_13 rfl ?_
  refine a_bipush F dX1_endDay_15 kb_28 ?_
  refine a_icmp_ge F 57 dX1_endDay_17 (by decide) ?_ ?_
  · refine a_iconst F dX1_endDay_57 ki_0 ?_
    refine a_istore (L' := [some (.ref r0), some (.ref 17), some (.null), some (.int x3), some (.int (0 : Int32)), none, none]) F dX1_endDay_58 (lt_b rfl) rfl ?_
    refine a_iconst F dX1_endDay_60 ki_0 ?_
    refine a_istore (L' := [some (.ref r0), some (.ref 17), some (.null), some (.int x3), some (.int (0 : Int32)), some (.int (0 : Int32)), none]) F dX1_endDay_61 (lt_b rfl) rfl ?_
    exact b_X1_endDay_17_n_63 M0 h0 FU x3 (0 : Int32) (0 : Int32) S
  · refine a_aload_n F dX1_endDay_20 rfl rfl ?_
    refine a_getR (k := 15) F cfX1 dX1_endDay_21 fl_X1_58 (by decide) fi_1_15 (zcl_0 h0) (zck_0 h0) (zcr_15 h0) ?_
    refine a_iload F dX1_endDay_24 rfl ?_
    refine a_gd (a_iald F dX1_endDay_26 (zcl_11 h0) (zck_11 h0) ?_)
    refine a_iconst F dX1_endDay_27 ki_m1 ?_
    refine a_icmp_eq F 51 dX1_endDay_28 (by decide) ?_ ?_
    · exact b_X1_endDay_17_n_51 M0 h0 hk13 x3 x4 S
    · refine a_aload_n F dX1_endDay_31 rfl rfl ?_
      refine a_getR (k := 16) F cfX1 dX1_endDay_32 fl_X1_61 (by decide) fi_1_16 (zcl_0 h0) (zck_0 h0) (zcr_16 h0) ?_
      refine a_iload F dX1_endDay_35 rfl ?_
      refine a_gd (a_iald F dX1_endDay_37 (zcl_12 h0) (zck_12 h0) ?_)
      refine a_aload_n F dX1_endDay_38 rfl rfl ?_
      refine a_getI (k := 1) F cfX1 dX1_endDay_39 fl_X1_15 (by decide) fi_1_1 (zcl_0 h0) (zck_0 h0) ?_
      refine a_icmp_ge F 51 dX1_endDay_42 (by decide) ?_ ?_
      · exact b_X1_endDay_17_n_51 M0 h0 hk13 x3 x4 S
      · refine a_aload_n F dX1_endDay_45 rfl rfl ?_
        refine a_iload F dX1_endDay_46 rfl ?_
        refine a_callVV F (As := [.int x4]) cfX1 rfl (c_X1_endLoan X h0 x4 S) mw_X1_endLoan ml_X1_109 im_X1_endLoan se_X1_endLoan M0.2.1 (Nat.le_of_ble_eq_true rfl) ⟨Nat.zero_le _, Nat.zero_le _⟩ rfl rfl (Nat.le_of_ble_eq_true rfl) (zcl_0 h0) (zck_0 h0) dX1_endDay_48 rfl (fun S_1 => ?_)
        exact b_X1_endDay_17_n_51 M0 h0 hk13 x3 x4 S_1
def f_X1_endDay_17_n_13 (r0 : Nat) : Nat → Int32 → Int32 → Mm → Option (Int32 × Mm) :=
  itr (fun _ _ _ => none) (fun k => f_X1_endDay_17_n_13b k r0)
theorem b_X1_endDay_17_n_13 {X : CX} {E : FE} (M0 : MF X E RX1 cX1_endDay 7 6 (some .int)) {r0 : Nat} (h0 : isClan r0) : ∀ (n : Nat) (x3 x4 : Int32) (S : Mm), At X E false (mQi X Z1 E) 13 [some (.ref r0), some (.ref 17), some (.null), some (.int x3), some (.int x4), none, none] [] Z1 S 0 0 (f_X1_endDay_17_n_13 r0 n x3 x4 S) := by
  intro n
  induction n with
  | zero => intros; exact a_none
  | succ n ih => intro x3 x4 S; exact b_X1_endDay_17_n_13b M0 h0 ih x3 x4 S
def f_X1_endDay_17_n (r0 : Nat) (p3 : Int32) (S : Mm) : Option (Int32 × Mm) :=
  nm (uM S r0 1 ((S r0 1) + (1 : Int32))) fun S_1 =>
  f_X1_endDay_17_n_13 r0 FU p3 (0 : Int32) S_1
set_option maxRecDepth 20000 in
theorem b_X1_endDay_17_n {X : CX} {E : FE} (M0 : MF X E RX1 cX1_endDay 7 6 (some .int)) {r0 : Nat} (h0 : isClan r0) (p3 : Int32) (S : Mm) : At X E false (mQi X Z1 E) 0 [some (.ref r0), some (.ref 17), some (.null), some (.int p3), none, none, none] [] Z1 S 0 0 (f_X1_endDay_17_n r0 p3 S) := by
  have F := M0.1
  unfold f_X1_endDay_17_n
  refine a_aload_n F dX1_endDay_0 rfl rfl ?_
  refine a_dup F dX1_endDay_1 rfl ?_
  refine a_getI (k := 1) F cfX1 dX1_endDay_2 fl_X1_15 (by decide) fi_1_1 (zcl_0 h0) (zck_0 h0) ?_
  refine a_iconst F dX1_endDay_5 ki_1 ?_
  refine a_iadd F dX1_endDay_6 ?_
  refine a_putI (k := 1) F cfX1 dX1_endDay_7 fl_X1_15 (by decide) fi_1_1 rfl rfl (zcl_0 h0) (zck_0 h0) ?_
  refine a_nmS (fun S_1 => ?_)
  refine a_iconst F dX1_endDay_10 ki_0 ?_
  refine a_istore (L' := [some (.ref r0), some (.ref 17), some (.null), some (.int p3), some (.int (0 : Int32)), none, none]) F dX1_endDay_11 (lt_b rfl) rfl ?_
  exact b_X1_endDay_17_n_13 M0 h0 FU p3 (0 : Int32) S_1
theorem c_X1_endDay_17_n (X : CX) {r0 : Nat} (h0 : isClan r0) (p3 : Int32) (S : Mm) : CtI X Z1 yX1_endDay cX1_endDay 7 (some .int) 6 [.ref r0, .ref 17, .null, .int p3] S (f_X1_endDay_17_n r0 p3 S) :=
  ctI_of (by decide +kernel) rfl (Nat.le_of_ble_eq_true rfl) (by simp [Value.category]) z1len fun E F R hra hlk => b_X1_endDay_17_n ⟨F, R, hra, hlk⟩ h0 p3 S
def f_X7_firstDay_13b (k13 : Int32 → Int32 → Int32 → Mm → Option (Int32 × Mm)) (x1 x2 x3 : Int32) (S : Mm) : Option (Int32 × Mm) :=
  if (400 : Int32) < x3 then (
   some ((-1 : Int32), S)
  ) else (
   (f_X1_writableBy 166 x1 S).bind fun q_1 =>
   if (x2 &&& (q_1.1 ^^^ (-1 : Int32))) = 0 then (
    some ((q_1.2 166 1), q_1.2)
   ) else (
    (f_X1_endDay_17_n 166 (0 : Int32) q_1.2).bind fun q_2 =>
    nm (x3 + (1 : Int32)) fun x3_3 =>
    k13 x1 x2 x3_3 q_2.2
   )
  )
set_option maxRecDepth 20000 in
theorem b_X7_firstDay_13b {X : CX} {E : FE} (M0 : MF X E RX7 cX7_firstDay 4 7 (some .int)) {k13 : Int32 → Int32 → Int32 → Mm → Option (Int32 × Mm)} (hk13 : ∀ (x1 x2 x3 : Int32) (S : Mm), At X E false (mQi X Z1 E) 13 [some (.ref 165), some (.int x1), some (.int x2), some (.int x3)] [] Z1 S 0 0 (k13 x1 x2 x3 S)) (x1 x2 x3 : Int32) (S : Mm) : At X E false (mQi X Z1 E) 13 [some (.ref 165), some (.int x1), some (.int x2), some (.int x3)] [] Z1 S 0 0 (f_X7_firstDay_13b k13 x1 x2 x3 S) := by
  have F := M0.1
  unfold f_X7_firstDay_13b
  refine a_iload_n F dX7_firstDay_13 rfl rfl ?_
  refine a_sipush F dX7_firstDay_14 ks_400 ?_
  refine a_icmp_gt F 63 dX7_firstDay_17 (by decide) ?_ ?_
  · refine a_iconst F dX7_firstDay_63 ki_m1 ?_
    exact a_iret F M0.2.2.1 M0.2.2.2 dX7_firstDay_64
  · refine a_iload_n F dX7_firstDay_20 rfl rfl ?_
    refine a_aload_n F dX7_firstDay_21 rfl rfl ?_
    refine a_getR (k := 2) F cfX7 dX7_firstDay_22 fl_X7_12 (by decide) fi_7_2 zl_165 zk_165 zr_165_2 ?_
    refine a_iload_n F dX7_firstDay_25 rfl rfl ?_
    refine a_callVI F (As := [.int x1]) cfX1 rfl (c_X1_writableBy X icl_166 x1 S) mw_X1_writableBy ml_X7_32 im_X1_writableBy se_X1_writableBy M0.2.1 (Nat.le_of_ble_eq_true rfl) ⟨Nat.zero_le _, Nat.zero_le _⟩ rfl rfl (Nat.le_of_ble_eq_true rfl) zl_166 zk_166 dX7_firstDay_26 rfl (fun q_1 => ?_)
    refine a_iconst F dX7_firstDay_29 ki_m1 ?_
    refine a_ixor F dX7_firstDay_30 ?_
    refine a_iand F dX7_firstDay_31 ?_
    refine a_if_ne F 43 dX7_firstDay_32 (by decide) ?_ ?_
    · refine a_aload_n F dX7_firstDay_35 rfl rfl ?_
      refine a_getR (k := 2) F cfX7 dX7_firstDay_36 fl_X7_12 (by decide) fi_7_2 zl_165 zk_165 zr_165_2 ?_
      refine a_getI (k := 1) F cfX1 dX7_firstDay_39 fl_X7_84 (by decide) fi_1_1 zl_166 zk_166 ?_
      exact a_iret F M0.2.2.1 M0.2.2.2 dX7_firstDay_42
    · refine a_aload_n F dX7_firstDay_43 rfl rfl ?_
      refine a_getR (k := 2) F cfX7 dX7_firstDay_44 fl_X7_12 (by decide) fi_7_2 zl_165 zk_165 zr_165_2 ?_
      refine a_aload_n F dX7_firstDay_47 rfl rfl ?_
      refine a_getR (k := 1) F cfX7 dX7_firstDay_48 fl_X7_28 (by decide) fi_7_1 zl_165 zk_165 zr_165_1 ?_
      refine a_null F dX7_firstDay_51 ?_
      refine a_iconst F dX7_firstDay_52 ki_0 ?_
      refine a_callVI F (As := [.ref 17, .null, .int (0 : Int32)]) cfX1 rfl (c_X1_endDay_17_n X icl_166 (0 : Int32) q_1.2) mw_X1_endDay ml_X7_87 im_X1_endDay se_X1_endDay M0.2.1 (Nat.le_of_ble_eq_true rfl) ⟨Nat.zero_le _, Nat.zero_le _⟩ rfl rfl (Nat.le_of_ble_eq_true rfl) zl_166 zk_166 dX7_firstDay_53 rfl (fun q_2 => ?_)
      refine a_pop F dX7_firstDay_56 rfl ?_
      refine a_iincN (L' := fun x3_3 => [some (.ref 165), some (.int x1), some (.int x2), some (.int x3_3)]) F dX7_firstDay_57 rfl ki_1 (lt_b rfl) (fun _ => rfl) (fun x3_3 => ?_)
      refine a_goto F 13 dX7_firstDay_60 (by decide) ?_
      exact hk13 x1 x2 x3_3 q_2.2
def f_X7_firstDay_13 : Nat → Int32 → Int32 → Int32 → Mm → Option (Int32 × Mm) :=
  itr (fun _ _ _ _ => none) (fun k => f_X7_firstDay_13b k)
theorem b_X7_firstDay_13 {X : CX} {E : FE} (M0 : MF X E RX7 cX7_firstDay 4 7 (some .int)) : ∀ (n : Nat) (x1 x2 x3 : Int32) (S : Mm), At X E false (mQi X Z1 E) 13 [some (.ref 165), some (.int x1), some (.int x2), some (.int x3)] [] Z1 S 0 0 (f_X7_firstDay_13  n x1 x2 x3 S) := by
  intro n
  induction n with
  | zero => intros; exact a_none
  | succ n ih => intro x1 x2 x3 S; exact b_X7_firstDay_13b M0 ih x1 x2 x3 S
def f_X7_firstDay (p1 p2 : Int32) (S : Mm) : Option (Int32 × Mm) :=
  (f_X1_become 166 1 S).bind fun S_1 =>
  f_X7_firstDay_13 FU p1 p2 (0 : Int32) S_1
set_option maxRecDepth 20000 in
theorem b_X7_firstDay {X : CX} {E : FE} (M0 : MF X E RX7 cX7_firstDay 4 7 (some .int)) (p1 p2 : Int32) (S : Mm) : At X E false (mQi X Z1 E) 0 [some (.ref 165), some (.int p1), some (.int p2), none] [] Z1 S 0 0 (f_X7_firstDay p1 p2 S) := by
  have F := M0.1
  unfold f_X7_firstDay
  refine a_aload_n F dX7_firstDay_0 rfl rfl ?_
  refine a_getR (k := 2) F cfX7 dX7_firstDay_1 fl_X7_12 (by decide) fi_7_2 zl_165 zk_165 zr_165_2 ?_
  refine a_aload_n F dX7_firstDay_4 rfl rfl ?_
  refine a_getR (k := 0) F cfX7 dX7_firstDay_5 fl_X7_25 (by decide) fi_7_0 zl_165 zk_165 zr_165_0 ?_
  refine a_callVV F (As := [.ref 1]) cfX1 rfl (c_X1_become X icl_166 icl_1 S) mw_X1_become ml_X7_70 im_X1_become se_X1_become M0.2.1 (Nat.le_of_ble_eq_true rfl) ⟨Nat.zero_le _, Nat.zero_le _⟩ rfl rfl (Nat.le_of_ble_eq_true rfl) zl_166 zk_166 dX7_firstDay_8 rfl (fun S_1 => ?_)
  refine a_iconst F dX7_firstDay_11 ki_0 ?_
  refine a_istore_n (L' := [some (.ref 165), some (.int p1), some (.int p2), some (.int (0 : Int32))]) F dX7_firstDay_12 rfl (lt_b rfl) rfl ?_
  exact b_X7_firstDay_13 M0 FU p1 p2 (0 : Int32) S_1
theorem c_X7_firstDay (X : CX) (p1 p2 : Int32) (S : Mm) : CtI X Z1 yX7_firstDay cX7_firstDay 4 (some .int) 7 [.ref 165, .int p1, .int p2] S (f_X7_firstDay p1 p2 S) :=
  ctI_of (by decide +kernel) rfl (Nat.le_of_ble_eq_true rfl) (by simp [Value.category]) z1len fun E F R hra hlk => b_X7_firstDay ⟨F, R, hra, hlk⟩ p1 p2 S
def f_X10_whenCan (p1 p2 : Int32) (S : Mm) : Option (Int32 × Mm) :=
  (f_X1_lives 1 p1 S).bind fun q_1 =>
  if q_1.1 = 0 then (
   some ((-1 : Int32), q_1.2)
  ) else (
   (f_X10_isDeed p2 q_1.2).bind fun q_2 =>
   if q_2.1 = 0 then (
    some ((-1 : Int32), q_2.2)
   ) else (
    gd (inB p2 8 = true) <|
    (f_X7_firstDay p1 (q_2.2 31 (ix p2)) q_2.2).bind fun q_3 =>
    some (q_3.1, q_3.2)
   )
  )
set_option maxRecDepth 20000 in
theorem b_X10_whenCan {X : CX} {E : FE} (M0 : MF X E RX10 cX10_whenCan 3 8 (some .int)) (p1 p2 : Int32) (S : Mm) : At X E false (mQi X Z1 E) 0 [some (.ref 0), some (.int p1), some (.int p2)] [] Z1 S 0 0 (f_X10_whenCan p1 p2 S) := by
  have F := M0.1
  unfold f_X10_whenCan
  refine a_aload_n F dX10_whenCan_0 rfl rfl ?_
  refine a_getR (k := 0) F cfX10 dX10_whenCan_1 fl_X10_12 (by decide) fi_10_0 zl_0 zk_0 zr_0_0 ?_
  refine a_iload_n F dX10_whenCan_4 rfl rfl ?_
  refine a_callVI F (As := [.int p1]) cfX1 rfl (c_X1_lives X icl_1 p1 S) mw_X1_lives ml_X10_104 im_X1_lives se_X1_lives M0.2.1 (Nat.le_of_ble_eq_true rfl) ⟨Nat.zero_le _, Nat.zero_le _⟩ rfl rfl (Nat.le_of_ble_eq_true rfl) zl_1 zk_1 dX10_whenCan_5 rfl (fun q_1 => ?_)
  refine a_if_eq F 19 dX10_whenCan_8 (by decide) ?_ ?_
  · refine a_iconst F dX10_whenCan_19 ki_m1 ?_
    exact a_iret F M0.2.2.1 M0.2.2.2 dX10_whenCan_20
  · refine a_aload_n F dX10_whenCan_11 rfl rfl ?_
    refine a_iload_n F dX10_whenCan_12 rfl rfl ?_
    refine a_callVI F (As := [.int p2]) cfX10 rfl (c_X10_isDeed X p2 q_1.2) mw_X10_isDeed ml_X10_205 im_X10_isDeed se_X10_isDeed M0.2.1 (Nat.le_of_ble_eq_true rfl) ⟨Nat.zero_le _, Nat.zero_le _⟩ rfl rfl (Nat.le_of_ble_eq_true rfl) zl_0 zk_0 dX10_whenCan_13 rfl (fun q_2 => ?_)
    refine a_if_ne F 21 dX10_whenCan_16 (by decide) ?_ ?_
    · refine a_iconst F dX10_whenCan_19 ki_m1 ?_
      exact a_iret F M0.2.2.1 M0.2.2.2 dX10_whenCan_20
    · refine a_aload_n F dX10_whenCan_21 rfl rfl ?_
      refine a_getR (k := 4) F cfX10 dX10_whenCan_22 fl_X10_42 (by decide) fi_10_4 zl_0 zk_0 zr_0_4 ?_
      refine a_iload_n F dX10_whenCan_25 rfl rfl ?_
      refine a_aload_n F dX10_whenCan_26 rfl rfl ?_
      refine a_getR (k := 1) F cfX10 dX10_whenCan_27 fl_X10_19 (by decide) fi_10_1 zl_0 zk_0 zr_0_1 ?_
      refine a_getR (k := 8) F cfX6 dX10_whenCan_30 fl_X10_217 (by decide) fi_6_8 zl_17 zk_17 zr_17_8 ?_
      refine a_iload_n F dX10_whenCan_33 rfl rfl ?_
      refine a_gd (a_iald F dX10_whenCan_34 zl_31 zk_31 ?_)
      refine a_callVI F (As := [.int p1, .int (q_2.2 31 (ix p2))]) cfX7 rfl (c_X7_firstDay X p1 (q_2.2 31 (ix p2)) q_2.2) mw_X7_firstDay ml_X10_295 im_X7_firstDay se_X7_firstDay M0.2.1 (Nat.le_of_ble_eq_true rfl) ⟨Nat.zero_le _, Nat.zero_le _⟩ rfl rfl (Nat.le_of_ble_eq_true rfl) zl_165 zk_165 dX10_whenCan_35 rfl (fun q_3 => ?_)
      exact a_iret F M0.2.2.1 M0.2.2.2 dX10_whenCan_38
theorem c_X10_whenCan (X : CX) (p1 p2 : Int32) (S : Mm) : CtI X Z1 yX10_whenCan cX10_whenCan 3 (some .int) 8 [.ref 0, .int p1, .int p2] S (f_X10_whenCan p1 p2 S) :=
  ctI_of (by decide +kernel) rfl (Nat.le_of_ble_eq_true rfl) (by simp [Value.category]) z1len fun E F R hra hlk => b_X10_whenCan ⟨F, R, hra, hlk⟩ p1 p2 S
def f_X10_worth (p1 p2 p3 : Int32) (S : Mm) : Option (Int32 × Mm) :=
  (f_X10_isLetter p3 S).bind fun q_1 =>
  if q_1.1 = 0 then (
   some ((0 : Int32), q_1.2)
  ) else (
   if p1 = p2 then (
    some ((0 : Int32), q_1.2)
   ) else (
    (f_X1_lives 1 p1 q_1.2).bind fun q_2 =>
    if q_2.1 = 0 then (
     some ((0 : Int32), q_2.2)
    ) else (
     (f_X1_lives 1 p2 q_2.2).bind fun q_3 =>
     if q_3.1 = 0 then (
      some ((0 : Int32), q_3.2)
     ) else (
      (f_X3_worthOf_18 1 p1 p2 p3 q_3.2).bind fun q_4 =>
      some (q_4.1, q_4.2)
     )
    )
   )
  )
set_option maxRecDepth 20000 in
theorem b_X10_worth {X : CX} {E : FE} (M0 : MF X E RX10 cX10_worth 4 4 (some .int)) (p1 p2 p3 : Int32) (S : Mm) : At X E false (mQi X Z1 E) 0 [some (.ref 0), some (.int p1), some (.int p2), some (.int p3)] [] Z1 S 0 0 (f_X10_worth p1 p2 p3 S) := by
  have F := M0.1
  unfold f_X10_worth
  refine a_iload_n F dX10_worth_0 rfl rfl ?_
  refine a_callSI F (As := [.int p3]) (c_X10_isLetter X p3 S) mw_X10_isLetter ml_X10_127 st_X10_isLetter M0.2.1 (Nat.le_of_ble_eq_true rfl) ⟨Nat.zero_le _, Nat.zero_le _⟩ rfl rfl (Nat.le_of_ble_eq_true rfl) dX10_worth_1 rfl (fun q_1 => ?_)
  refine a_if_eq F 34 dX10_worth_4 (by decide) ?_ ?_
  · refine a_iconst F dX10_worth_34 ki_0 ?_
    exact a_iret F M0.2.2.1 M0.2.2.2 dX10_worth_35
  · refine a_iload_n F dX10_worth_7 rfl rfl ?_
    refine a_iload_n F dX10_worth_8 rfl rfl ?_
    refine a_icmp_eq F 34 dX10_worth_9 (by decide) ?_ ?_
    · refine a_iconst F dX10_worth_34 ki_0 ?_
      exact a_iret F M0.2.2.1 M0.2.2.2 dX10_worth_35
    · refine a_aload_n F dX10_worth_12 rfl rfl ?_
      refine a_getR (k := 0) F cfX10 dX10_worth_13 fl_X10_12 (by decide) fi_10_0 zl_0 zk_0 zr_0_0 ?_
      refine a_iload_n F dX10_worth_16 rfl rfl ?_
      refine a_callVI F (As := [.int p1]) cfX1 rfl (c_X1_lives X icl_1 p1 q_1.2) mw_X1_lives ml_X10_104 im_X1_lives se_X1_lives M0.2.1 (Nat.le_of_ble_eq_true rfl) ⟨Nat.zero_le _, Nat.zero_le _⟩ rfl rfl (Nat.le_of_ble_eq_true rfl) zl_1 zk_1 dX10_worth_17 rfl (fun q_2 => ?_)
      refine a_if_eq F 34 dX10_worth_20 (by decide) ?_ ?_
      · refine a_iconst F dX10_worth_34 ki_0 ?_
        exact a_iret F M0.2.2.1 M0.2.2.2 dX10_worth_35
      · refine a_aload_n F dX10_worth_23 rfl rfl ?_
        refine a_getR (k := 0) F cfX10 dX10_worth_24 fl_X10_12 (by decide) fi_10_0 zl_0 zk_0 zr_0_0 ?_
        refine a_iload_n F dX10_worth_27 rfl rfl ?_
        refine a_callVI F (As := [.int p2]) cfX1 rfl (c_X1_lives X icl_1 p2 q_2.2) mw_X1_lives ml_X10_104 im_X1_lives se_X1_lives M0.2.1 (Nat.le_of_ble_eq_true rfl) ⟨Nat.zero_le _, Nat.zero_le _⟩ rfl rfl (Nat.le_of_ble_eq_true rfl) zl_1 zk_1 dX10_worth_28 rfl (fun q_3 => ?_)
        refine a_if_ne F 36 dX10_worth_31 (by decide) ?_ ?_
        · refine a_iconst F dX10_worth_34 ki_0 ?_
          exact a_iret F M0.2.2.1 M0.2.2.2 dX10_worth_35
        · refine a_aload_n F dX10_worth_36 rfl rfl ?_
          refine a_getR (k := 1) F cfX10 dX10_worth_37 fl_X10_19 (by decide) fi_10_1 zl_0 zk_0 zr_0_1 ?_
          refine a_getR (k := 0) F cfX6 dX10_worth_40 fl_X10_147 (by decide) fi_6_0 zl_17 zk_17 zr_17_0 ?_
          refine a_aload_n F dX10_worth_43 rfl rfl ?_
          refine a_getR (k := 0) F cfX10 dX10_worth_44 fl_X10_12 (by decide) fi_10_0 zl_0 zk_0 zr_0_0 ?_
          refine a_iload_n F dX10_worth_47 rfl rfl ?_
          refine a_iload_n F dX10_worth_48 rfl rfl ?_
          refine a_iload_n F dX10_worth_49 rfl rfl ?_
          refine a_callVI F (As := [.ref 1, .int p1, .int p2, .int p3]) cfX3 rfl (c_X3_worthOf_18 X icl_1 p1 p2 p3 q_3.2) mw_X3_worthOf ml_X10_305 im_X3_worthOf se_X3_worthOf M0.2.1 (Nat.le_of_ble_eq_true rfl) ⟨Nat.zero_le _, Nat.zero_le _⟩ rfl rfl (Nat.le_of_ble_eq_true rfl) zl_18 zk_18 dX10_worth_50 rfl (fun q_4 => ?_)
          exact a_iret F M0.2.2.1 M0.2.2.2 dX10_worth_53
theorem c_X10_worth (X : CX) (p1 p2 p3 : Int32) (S : Mm) : CtI X Z1 yX10_worth cX10_worth 4 (some .int) 4 [.ref 0, .int p1, .int p2, .int p3] S (f_X10_worth p1 p2 p3 S) :=
  ctI_of (by decide +kernel) rfl (Nat.le_of_ble_eq_true rfl) (by simp [Value.category]) z1len fun E F R hra hlk => b_X10_worth ⟨F, R, hra, hlk⟩ p1 p2 p3 S
def f_X11_isDeed_16 (S : Mm) : Option (Int32 × Mm) :=
  some ((0 : Int32), S)
set_option maxRecDepth 20000 in
theorem b_X11_isDeed_16 {X : CX} {E : FE} (M0 : MF X E RX11 cX11_isDeed 2 1 (some .boolean)) (S : Mm) : At X E false (mQi X Z1 E) 16 [none, none] [] Z1 S 0 0 (f_X11_isDeed_16 S) := by
  have F := M0.1
  unfold f_X11_isDeed_16
  refine a_iconst F dX11_isDeed_16 ki_0 ?_
  exact a_zretK F M0.2.2.1 M0.2.2.2 dX11_isDeed_17 (Or.inl rfl)
def f_X11_isDeed (p1 : Int32) (S : Mm) : Option (Int32 × Mm) :=
  if p1 < 0 then (
   f_X11_isDeed_16 S
  ) else (
   if (S 239 40) ≤ p1 then (
    f_X11_isDeed_16 S
   ) else (
    some ((1 : Int32), S)
   )
  )
set_option maxRecDepth 20000 in
theorem b_X11_isDeed {X : CX} {E : FE} (M0 : MF X E RX11 cX11_isDeed 2 1 (some .boolean)) (p1 : Int32) (S : Mm) : At X E false (mQi X Z1 E) 0 [some (.ref 239), some (.int p1)] [] Z1 S 0 0 (f_X11_isDeed p1 S) := by
  have F := M0.1
  unfold f_X11_isDeed
  refine a_iload_n F dX11_isDeed_0 rfl rfl ?_
  refine a_if_lt F 16 dX11_isDeed_1 (by decide) ?_ ?_
  · refine a_mask [false, false] (L' := [none, none]) rfl rfl ?_
    exact b_X11_isDeed_16 M0 S
  · refine a_iload_n F dX11_isDeed_4 rfl rfl ?_
    refine a_aload_n F dX11_isDeed_5 rfl rfl ?_
    refine a_getI (k := 40) F cfX11 dX11_isDeed_6 fl_X11_125 (by decide) fi_11_40 zl_239 zk_239 ?_
    refine a_icmp_ge F 16 dX11_isDeed_9 (by decide) ?_ ?_
    · refine a_mask [false, false] (L' := [none, none]) rfl rfl ?_
      exact b_X11_isDeed_16 M0 S
    · refine a_iconst F dX11_isDeed_12 ki_1 ?_
      refine a_goto F 17 dX11_isDeed_13 (by decide) ?_
      exact a_zretK F M0.2.2.1 M0.2.2.2 dX11_isDeed_17 (Or.inr rfl)
theorem c_X11_isDeed (X : CX) (p1 : Int32) (S : Mm) : CtI X Z1 yX11_isDeed cX11_isDeed 2 (some .boolean) 1 [.ref 239, .int p1] S (f_X11_isDeed p1 S) :=
  ctI_of (by decide +kernel) rfl (Nat.le_of_ble_eq_true rfl) (by simp [Value.category]) z1len fun E F R hra hlk => b_X11_isDeed ⟨F, R, hra, hlk⟩ p1 S
def f_X11_isIn_14 (S : Mm) : Option (Int32 × Mm) :=
  some ((0 : Int32), S)
set_option maxRecDepth 20000 in
theorem b_X11_isIn_14 {X : CX} {E : FE} (M0 : MF X E RX11 cX11_isIn 4 1 (some .boolean)) (S : Mm) : At X E false (mQi X Z1 E) 14 [none, none, none, none] [] Z1 S 0 0 (f_X11_isIn_14 S) := by
  have F := M0.1
  unfold f_X11_isIn_14
  refine a_iconst F dX11_isIn_14 ki_0 ?_
  exact a_zretK F M0.2.2.1 M0.2.2.2 dX11_isIn_15 (Or.inl rfl)
def f_X11_isIn (p1 p2 p3 : Int32) (S : Mm) : Option (Int32 × Mm) :=
  if p1 < p2 then (
   f_X11_isIn_14 S
  ) else (
   if p3 < p1 then (
    f_X11_isIn_14 S
   ) else (
    some ((1 : Int32), S)
   )
  )
set_option maxRecDepth 20000 in
theorem b_X11_isIn {X : CX} {E : FE} (M0 : MF X E RX11 cX11_isIn 4 1 (some .boolean)) (p1 p2 p3 : Int32) (S : Mm) : At X E false (mQi X Z1 E) 0 [some (.ref 239), some (.int p1), some (.int p2), some (.int p3)] [] Z1 S 0 0 (f_X11_isIn p1 p2 p3 S) := by
  have F := M0.1
  unfold f_X11_isIn
  refine a_iload_n F dX11_isIn_0 rfl rfl ?_
  refine a_iload_n F dX11_isIn_1 rfl rfl ?_
  refine a_icmp_lt F 14 dX11_isIn_2 (by decide) ?_ ?_
  · refine a_mask [false, false, false, false] (L' := [none, none, none, none]) rfl rfl ?_
    exact b_X11_isIn_14 M0 S
  · refine a_iload_n F dX11_isIn_5 rfl rfl ?_
    refine a_iload_n F dX11_isIn_6 rfl rfl ?_
    refine a_icmp_gt F 14 dX11_isIn_7 (by decide) ?_ ?_
    · refine a_mask [false, false, false, false] (L' := [none, none, none, none]) rfl rfl ?_
      exact b_X11_isIn_14 M0 S
    · refine a_iconst F dX11_isIn_10 ki_1 ?_
      refine a_goto F 15 dX11_isIn_11 (by decide) ?_
      exact a_zretK F M0.2.2.1 M0.2.2.2 dX11_isIn_15 (Or.inr rfl)
theorem c_X11_isIn (X : CX) (p1 p2 p3 : Int32) (S : Mm) : CtI X Z1 yX11_isIn cX11_isIn 4 (some .boolean) 1 [.ref 239, .int p1, .int p2, .int p3] S (f_X11_isIn p1 p2 p3 S) :=
  ctI_of (by decide +kernel) rfl (Nat.le_of_ble_eq_true rfl) (by simp [Value.category]) z1len fun E F R hra hlk => b_X11_isIn ⟨F, R, hra, hlk⟩ p1 p2 p3 S
def f_X11_at_44 (S : Mm) : Option (Int32 × Mm) :=
  some ((-1 : Int32), S)
set_option maxRecDepth 20000 in
theorem b_X11_at_44 {X : CX} {E : FE} (M0 : MF X E RX11 cX11_at 3 2 (some .int)) (S : Mm) : At X E false (mQi X Z1 E) 44 [none, none, none] [] Z1 S 0 0 (f_X11_at_44 S) := by
  have F := M0.1
  unfold f_X11_at_44
  refine a_iconst F dX11_at_44 ki_m1 ?_
  exact a_iret F M0.2.2.1 M0.2.2.2 dX11_at_45
def f_X11_at (p1 p2 : Int32) (S : Mm) : Option (Int32 × Mm) :=
  nm (uM S 239 0 (0 : Int32)) fun S_1 =>
  (f_X11_isDeed p1 S_1).bind fun q_2 =>
  if q_2.1 = 0 then (
   f_X11_at_44 q_2.2
  ) else (
   gd (inB p1 8 = true) <|
   (f_X11_isIn p2 (0 : Int32) ((q_2.2 262 (ix p1)) - (1 : Int32)) q_2.2).bind fun q_3 =>
   if q_3.1 = 0 then (
    f_X11_at_44 q_3.2
   ) else (
    gd (inB (((40 : Int32) * p1) + p2) 360 = true) <|
    some ((q_3.2 264 (ix (((40 : Int32) * p1) + p2))), q_3.2)
   )
  )
set_option maxRecDepth 20000 in
theorem b_X11_at {X : CX} {E : FE} (M0 : MF X E RX11 cX11_at 3 2 (some .int)) (p1 p2 : Int32) (S : Mm) : At X E false (mQi X Z1 E) 0 [some (.ref 239), some (.int p1), some (.int p2)] [] Z1 S 0 0 (f_X11_at p1 p2 S) := by
  have F := M0.1
  unfold f_X11_at
  refine a_aload_n F dX11_at_0 rfl rfl ?_
  refine a_iconst F dX11_at_1 ki_0 ?_
  refine a_putI (k := 0) F cfX11 dX11_at_2 fl_X11_107 (by decide) fi_11_0 rfl rfl zl_239 zk_239 ?_
  refine a_nmS (fun S_1 => ?_)
  refine a_aload_n F dX11_at_5 rfl rfl ?_
  refine a_iload_n F dX11_at_6 rfl rfl ?_
  refine a_callVI F (As := [.int p1]) cfX11 rfl (c_X11_isDeed X p1 S_1) mw_X11_isDeed ml_X11_369 im_X11_isDeed se_X11_isDeed M0.2.1 (Nat.le_of_ble_eq_true rfl) ⟨Nat.zero_le _, Nat.zero_le _⟩ rfl rfl (Nat.le_of_ble_eq_true rfl) zl_239 zk_239 dX11_at_7 rfl (fun q_2 => ?_)
  refine a_if_eq F 44 dX11_at_10 (by decide) ?_ ?_
  · refine a_mask [false, false, false] (L' := [none, none, none]) rfl rfl ?_
    exact b_X11_at_44 M0 q_2.2
  · refine a_aload_n F dX11_at_13 rfl rfl ?_
    refine a_iload_n F dX11_at_14 rfl rfl ?_
    refine a_iconst F dX11_at_15 ki_0 ?_
    refine a_aload_n F dX11_at_16 rfl rfl ?_
    refine a_getR (k := 41) F cfX11 dX11_at_17 fl_X11_80 (by decide) fi_11_41 zl_239 zk_239 zr_239_41 ?_
    refine a_iload_n F dX11_at_20 rfl rfl ?_
    refine a_gd (a_iald F dX11_at_21 zl_262 zk_262 ?_)
    refine a_iconst F dX11_at_22 ki_1 ?_
    refine a_isub F dX11_at_23 ?_
    refine a_callVI F (As := [.int p2, .int (0 : Int32), .int ((q_2.2 262 (ix p1)) - (1 : Int32))]) cfX11 rfl (c_X11_isIn X p2 (0 : Int32) ((q_2.2 262 (ix p1)) - (1 : Int32)) q_2.2) mw_X11_isIn ml_X11_147 im_X11_isIn se_X11_isIn M0.2.1 (Nat.le_of_ble_eq_true rfl) ⟨Nat.zero_le _, Nat.zero_le _⟩ rfl rfl (Nat.le_of_ble_eq_true rfl) zl_239 zk_239 dX11_at_24 rfl (fun q_3 => ?_)
    refine a_if_eq F 44 dX11_at_27 (by decide) ?_ ?_
    · refine a_mask [false, false, false] (L' := [none, none, none]) rfl rfl ?_
      exact b_X11_at_44 M0 q_3.2
    · refine a_aload_n F dX11_at_30 rfl rfl ?_
      refine a_getR (k := 43) F cfX11 dX11_at_31 fl_X11_86 (by decide) fi_11_43 zl_239 zk_239 zr_239_43 ?_
      refine a_bipush F dX11_at_34 kb_40 ?_
      refine a_iload_n F dX11_at_36 rfl rfl ?_
      refine a_imul F dX11_at_37 ?_
      refine a_iload_n F dX11_at_38 rfl rfl ?_
      refine a_iadd F dX11_at_39 ?_
      refine a_gd (a_iald F dX11_at_40 zl_264 zk_264 ?_)
      refine a_goto F 45 dX11_at_41 (by decide) ?_
      exact a_iret F M0.2.2.1 M0.2.2.2 dX11_at_45
theorem c_X11_at (X : CX) (p1 p2 : Int32) (S : Mm) : CtI X Z1 yX11_at cX11_at 3 (some .int) 2 [.ref 239, .int p1, .int p2] S (f_X11_at p1 p2 S) :=
  ctI_of (by decide +kernel) rfl (Nat.le_of_ble_eq_true rfl) (by simp [Value.category]) z1len fun E F R hra hlk => b_X11_at ⟨F, R, hra, hlk⟩ p1 p2 S
def f_X11_isPerson_16 (S : Mm) : Option (Int32 × Mm) :=
  some ((0 : Int32), S)
set_option maxRecDepth 20000 in
theorem b_X11_isPerson_16 {X : CX} {E : FE} (M0 : MF X E RX11 cX11_isPerson 2 1 (some .boolean)) (S : Mm) : At X E false (mQi X Z1 E) 16 [none, none] [] Z1 S 0 0 (f_X11_isPerson_16 S) := by
  have F := M0.1
  unfold f_X11_isPerson_16
  refine a_iconst F dX11_isPerson_16 ki_0 ?_
  exact a_zretK F M0.2.2.1 M0.2.2.2 dX11_isPerson_17 (Or.inl rfl)
def f_X11_isPerson (p1 : Int32) (S : Mm) : Option (Int32 × Mm) :=
  if p1 < 0 then (
   f_X11_isPerson_16 S
  ) else (
   if (S 239 6) ≤ p1 then (
    f_X11_isPerson_16 S
   ) else (
    some ((1 : Int32), S)
   )
  )
set_option maxRecDepth 20000 in
theorem b_X11_isPerson {X : CX} {E : FE} (M0 : MF X E RX11 cX11_isPerson 2 1 (some .boolean)) (p1 : Int32) (S : Mm) : At X E false (mQi X Z1 E) 0 [some (.ref 239), some (.int p1)] [] Z1 S 0 0 (f_X11_isPerson p1 S) := by
  have F := M0.1
  unfold f_X11_isPerson
  refine a_iload_n F dX11_isPerson_0 rfl rfl ?_
  refine a_if_lt F 16 dX11_isPerson_1 (by decide) ?_ ?_
  · refine a_mask [false, false] (L' := [none, none]) rfl rfl ?_
    exact b_X11_isPerson_16 M0 S
  · refine a_iload_n F dX11_isPerson_4 rfl rfl ?_
    refine a_aload_n F dX11_isPerson_5 rfl rfl ?_
    refine a_getI (k := 6) F cfX11 dX11_isPerson_6 fl_X11_122 (by decide) fi_11_6 zl_239 zk_239 ?_
    refine a_icmp_ge F 16 dX11_isPerson_9 (by decide) ?_ ?_
    · refine a_mask [false, false] (L' := [none, none]) rfl rfl ?_
      exact b_X11_isPerson_16 M0 S
    · refine a_iconst F dX11_isPerson_12 ki_1 ?_
      refine a_goto F 17 dX11_isPerson_13 (by decide) ?_
      exact a_zretK F M0.2.2.1 M0.2.2.2 dX11_isPerson_17 (Or.inr rfl)
theorem c_X11_isPerson (X : CX) (p1 : Int32) (S : Mm) : CtI X Z1 yX11_isPerson cX11_isPerson 2 (some .boolean) 1 [.ref 239, .int p1] S (f_X11_isPerson p1 S) :=
  ctI_of (by decide +kernel) rfl (Nat.le_of_ble_eq_true rfl) (by simp [Value.category]) z1len fun E F R hra hlk => b_X11_isPerson ⟨F, R, hra, hlk⟩ p1 S
def f_X11_doesLive (p1 : Int32) (S : Mm) : Option (Int32 × Mm) :=
  if ((shr (S 240 3) p1) &&& (1 : Int32)) = 0 then (
   some ((1 : Int32), S)
  ) else (
   some ((0 : Int32), S)
  )
set_option maxRecDepth 20000 in
theorem b_X11_doesLive {X : CX} {E : FE} (M0 : MF X E RX11 cX11_doesLive 2 1 (some .boolean)) (p1 : Int32) (S : Mm) : At X E false (mQi X Z1 E) 0 [some (.ref 239), some (.int p1)] [] Z1 S 0 0 (f_X11_doesLive p1 S) := by
  have F := M0.1
  unfold f_X11_doesLive
  refine a_aload_n F dX11_doesLive_0 rfl rfl ?_
  refine a_getR (k := 1) F cfX11 dX11_doesLive_1 fl_X11_7 (by decide) fi_11_1 zl_239 zk_239 zr_239_1 ?_
  refine a_iconst F dX11_doesLive_4 ki_3 ?_
  refine a_ialdK F 3 dX11_doesLive_5 zl_240 zk_240 ib_3_148 ix_3 ?_
  refine a_iload_n F dX11_doesLive_6 rfl rfl ?_
  refine a_ishr F dX11_doesLive_7 ?_
  refine a_iconst F dX11_doesLive_8 ki_1 ?_
  refine a_iand F dX11_doesLive_9 ?_
  refine a_if_ne F 17 dX11_doesLive_10 (by decide) ?_ ?_
  · refine a_iconst F dX11_doesLive_13 ki_1 ?_
    refine a_goto F 18 dX11_doesLive_14 (by decide) ?_
    exact a_zretK F M0.2.2.1 M0.2.2.2 dX11_doesLive_18 (Or.inr rfl)
  · refine a_iconst F dX11_doesLive_17 ki_0 ?_
    exact a_zretK F M0.2.2.1 M0.2.2.2 dX11_doesLive_18 (Or.inl rfl)
theorem c_X11_doesLive (X : CX) (p1 : Int32) (S : Mm) : CtI X Z1 yX11_doesLive cX11_doesLive 2 (some .boolean) 1 [.ref 239, .int p1] S (f_X11_doesLive p1 S) :=
  ctI_of (by decide +kernel) rfl (Nat.le_of_ble_eq_true rfl) (by simp [Value.category]) z1len fun E F R hra hlk => b_X11_doesLive ⟨F, R, hra, hlk⟩ p1 S
def f_X11_isLiving_20 (S : Mm) : Option (Int32 × Mm) :=
  some ((0 : Int32), S)
set_option maxRecDepth 20000 in
theorem b_X11_isLiving_20 {X : CX} {E : FE} (M0 : MF X E RX11 cX11_isLiving 2 2 (some .boolean)) (S : Mm) : At X E false (mQi X Z1 E) 20 [none, none] [] Z1 S 0 0 (f_X11_isLiving_20 S) := by
  have F := M0.1
  unfold f_X11_isLiving_20
  refine a_iconst F dX11_isLiving_20 ki_0 ?_
  exact a_zretK F M0.2.2.1 M0.2.2.2 dX11_isLiving_21 (Or.inl rfl)
def f_X11_isLiving (p1 : Int32) (S : Mm) : Option (Int32 × Mm) :=
  (f_X11_isPerson p1 S).bind fun q_1 =>
  if q_1.1 = 0 then (
   f_X11_isLiving_20 q_1.2
  ) else (
   (f_X11_doesLive p1 q_1.2).bind fun q_2 =>
   if q_2.1 = 0 then (
    f_X11_isLiving_20 q_2.2
   ) else (
    some ((1 : Int32), q_2.2)
   )
  )
set_option maxRecDepth 20000 in
theorem b_X11_isLiving {X : CX} {E : FE} (M0 : MF X E RX11 cX11_isLiving 2 2 (some .boolean)) (p1 : Int32) (S : Mm) : At X E false (mQi X Z1 E) 0 [some (.ref 239), some (.int p1)] [] Z1 S 0 0 (f_X11_isLiving p1 S) := by
  have F := M0.1
  unfold f_X11_isLiving
  refine a_aload_n F dX11_isLiving_0 rfl rfl ?_
  refine a_iload_n F dX11_isLiving_1 rfl rfl ?_
  refine a_callVI F (As := [.int p1]) cfX11 rfl (c_X11_isPerson X p1 S) mw_X11_isPerson ml_X11_128 im_X11_isPerson se_X11_isPerson M0.2.1 (Nat.le_of_ble_eq_true rfl) ⟨Nat.zero_le _, Nat.zero_le _⟩ rfl rfl (Nat.le_of_ble_eq_true rfl) zl_239 zk_239 dX11_isLiving_2 rfl (fun q_1 => ?_)
  refine a_if_eq F 20 dX11_isLiving_5 (by decide) ?_ ?_
  · refine a_mask [false, false] (L' := [none, none]) rfl rfl ?_
    exact b_X11_isLiving_20 M0 q_1.2
  · refine a_aload_n F dX11_isLiving_8 rfl rfl ?_
    refine a_iload_n F dX11_isLiving_9 rfl rfl ?_
    refine a_callVI F (As := [.int p1]) cfX11 rfl (c_X11_doesLive X p1 q_1.2) mw_X11_doesLive ml_X11_132 im_X11_doesLive se_X11_doesLive M0.2.1 (Nat.le_of_ble_eq_true rfl) ⟨Nat.zero_le _, Nat.zero_le _⟩ rfl rfl (Nat.le_of_ble_eq_true rfl) zl_239 zk_239 dX11_isLiving_10 rfl (fun q_2 => ?_)
    refine a_if_eq F 20 dX11_isLiving_13 (by decide) ?_ ?_
    · refine a_mask [false, false] (L' := [none, none]) rfl rfl ?_
      exact b_X11_isLiving_20 M0 q_2.2
    · refine a_iconst F dX11_isLiving_16 ki_1 ?_
      refine a_goto F 21 dX11_isLiving_17 (by decide) ?_
      exact a_zretK F M0.2.2.1 M0.2.2.2 dX11_isLiving_21 (Or.inr rfl)
theorem c_X11_isLiving (X : CX) (p1 : Int32) (S : Mm) : CtI X Z1 yX11_isLiving cX11_isLiving 2 (some .boolean) 2 [.ref 239, .int p1] S (f_X11_isLiving p1 S) :=
  ctI_of (by decide +kernel) rfl (Nat.le_of_ble_eq_true rfl) (by simp [Value.category]) z1len fun E F R hra hlk => b_X11_isLiving ⟨F, R, hra, hlk⟩ p1 S
